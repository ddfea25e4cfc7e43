/-! the reference over the same map -/
def fm_R (m : Nat → Option Int32) (v : SY) : Prop := ∀ q, q < 12 → v.2 q = nI (fm_ob (m q)) ∧ (m q ≠ none → v.1 q = fm_gv (m q))
theorem fm_nb0 : vp_nar .boolean 0 = 0 := by decide
theorem fm_nb1 : vp_nar .boolean 1 = 1 := by decide
theorem fm_nb (y : Option Int32) : vp_nar .boolean (nI (fm_ob y)) = nI (fm_ob y) := by
  cases y with
  | none => exact fm_nb0
  | some x => exact fm_nb1
theorem fm_Rs {m : Nat → Option Int32} {a t : Nat → Int32} {p : Nat} {y : Option Int32} {z : Int32} (R : fm_R m (a, t)) (hz : y ≠ none → z = fm_gv y) : fm_R (fm_ms m p y) (upd a p z, upd t p (nI (fm_ob y))) := by
  intro q hq
  show upd t p (nI (fm_ob y)) q = nI (fm_ob (fm_ms m p y q)) ∧ (fm_ms m p y q ≠ none → upd a p z q = fm_gv (fm_ms m p y q))
  by_cases e : q = p
  · rw [e, fm_mss, pk_us, pk_us]
    exact ⟨rfl, hz⟩
  · rw [fm_msn e, pk_un e, pk_un e]
    exact R q hq
theorem fm_Rt {m : Nat → Option Int32} {a t : Nat → Int32} {p : Nat} (R : fm_R m (a, t)) : fm_R (fm_ms m p none) (a, upd t p 0) := by
  intro q hq
  show upd t p 0 q = nI (fm_ob (fm_ms m p none q)) ∧ (fm_ms m p none q ≠ none → a q = fm_gv (fm_ms m p none q))
  by_cases e : q = p
  · rw [e, fm_mss, pk_us]
    exact ⟨rfl, fun z => absurd rfl z⟩
  · rw [fm_msn e, pk_un e]
    exact R q hq
theorem fm_Rc {m m' : Nat → Option Int32} {v : SY} (R : fm_R m v) (h : ∀ q, q < 12 → m q = m' q) : fm_R m' v := by
  intro q hq
  rw [← h q hq]
  exact R q hq
theorem yw_p1 {post : Int32 → Prop} {v : SY} {p : Nat} (hp : p < 12) (h : post 1) : wpY_isPage post v (nI p) := by
  obtain ⟨a, t⟩ := v
  exact br_f (nI_pos (by omega)) (pk_lt 11 p (fun z => absurd hp (by omega)) (fun _ => h))
theorem yw_p0 {post : Int32 → Prop} {v : SY} {x : Int32} (hx : x < 0 ∨ nI 12 ≤ x) (h : post 0) : wpY_isPage post v x := by
  obtain ⟨a, t⟩ := v
  by_cases z : x < 0
  · exact br_t z h
  · rcases hx with hx | hx
    · exact absurd hx z
    · refine br_f z (br_t ?_ h)
      rw [Int32.le_iff_toInt_le, nI_toInt (by decide)] at hx
      rw [Int32.lt_iff_toInt_lt, show (11 : Int32).toInt = 11 from by decide]
      omega
theorem yw_has {post : Int32 → Prop} {v : SY} {m : Nat → Option Int32} {p : Nat} (R : fm_R m v) (hp : p < 12) (h : post (nI (fm_ob (m p)))) : wpY_has post v (nI p) := by
  obtain ⟨a, t⟩ := v
  have hc : (nI p).toNatClampNeg = p := nI_clamp (by omega)
  have ht : t p = nI (fm_ob (m p)) := (R p hp).1
  unfold wpY_has
  dsimp only
  refine yw_p1 hp (br_f xw_1 ⟨pk_in p 12 hp, ?_⟩)
  rw [hc, ht]
  generalize m p = y at h
  cases y with
  | none => exact br_t rfl h
  | some x => exact br_f xw_1 h
theorem yw_hasOut {post : Int32 → Prop} {v : SY} {x : Int32} (hx : x < 0 ∨ nI 12 ≤ x) (h : post 0) : wpY_has post v x := by
  obtain ⟨a, t⟩ := v
  unfold wpY_has
  dsimp only
  exact yw_p0 hx (br_t rfl h)
theorem yw_read {post : Int32 → Prop} {v : SY} {m : Nat → Option Int32} {p : Nat} (R : fm_R m v) (hp : p < 12) (h : post (fm_gv (m p))) : wpY_read post v (nI p) := by
  obtain ⟨a, t⟩ := v
  have hc : (nI p).toNatClampNeg = p := nI_clamp (by omega)
  have hv : m p ≠ none → a p = fm_gv (m p) := (R p hp).2
  unfold wpY_read
  dsimp only
  refine yw_has R hp ?_
  generalize m p = y at h hv
  cases y with
  | none => exact br_t rfl h
  | some x =>
    refine br_f xw_1 ⟨pk_in p 12 hp, ?_⟩
    rw [hc, hv (fun z => nomatch z)]
    exact h
theorem yw_readOut {post : Int32 → Prop} {v : SY} {x : Int32} (hx : x < 0 ∨ nI 12 ≤ x) (h : post 0) : wpY_read post v x := by
  obtain ⟨a, t⟩ := v
  unfold wpY_read
  dsimp only
  exact yw_hasOut hx (br_t rfl h)
theorem yw_write {post : Int32 → SY → Prop} {v : SY} {m : Nat → Option Int32} {p : Nat} {x : Int32} (R : fm_R m v) (hp : p < 12) (H : ∀ v', fm_R (fm_ms m p (some x)) v' → post (nI (fm_ob (m p))) v') : wpY_write post v (nI p) x := by
  obtain ⟨a, t⟩ := v
  have hc : (nI p).toNatClampNeg = p := nI_clamp (by omega)
  have ht : t p = nI (fm_ob (m p)) := (R p hp).1
  have T : wY_write_24 post (nI p) x (nI (fm_ob (m p))) a t := by
    unfold wY_write_24
    refine ⟨pk_in p 12 hp, nm_r (e' := upd a p x) (by rw [hc]) ⟨pk_in p 12 hp, nm_r (e' := upd t p (nI (fm_ob (some x)))) (by rw [hc, fm_nb1]; rfl) (H _ (fm_Rs R (fun _ => rfl)))⟩⟩
  unfold wpY_write
  dsimp only
  refine yw_p1 hp (br_f xw_1 ⟨pk_in p 12 hp, ?_⟩)
  rw [hc, ht]
  generalize m p = y at T
  cases y with
  | none => exact br_t rfl T
  | some x => exact br_f xw_1 T
theorem yw_trim {post : Int32 → SY → Prop} {v : SY} {m : Nat → Option Int32} {p : Nat} (R : fm_R m v) (hp : p < 12) (H : ∀ v', fm_R (fm_ms m p none) v' → post (nI (fm_ob (m p))) v') : wpY_trim post v (nI p) := by
  obtain ⟨a, t⟩ := v
  have hc : (nI p).toNatClampNeg = p := nI_clamp (by omega)
  have ht : t p = nI (fm_ob (m p)) := (R p hp).1
  have T : wY_trim_24 post (nI p) (nI (fm_ob (m p))) a t := by
    unfold wY_trim_24
    refine ⟨pk_in p 12 hp, nm_r (e' := upd t p 0) (by rw [hc, fm_nb0]) (H _ (fm_Rt R))⟩
  unfold wpY_trim
  dsimp only
  refine yw_p1 hp (br_f xw_1 ⟨pk_in p 12 hp, ?_⟩)
  rw [hc, ht]
  generalize m p = y at T
  cases y with
  | none => exact br_t rfl T
  | some x => exact br_f xw_1 T
theorem yw_used {post : Int32 → Prop} {v : SY} {m : Nat → Option Int32} (R : fm_R m v) (h : post (nI (fm_uc m 12))) : wpY_used post v := by
  obtain ⟨a, t⟩ := v
  unfold wpY_used
  dsimp only
  refine loop_0 (fun n i (x : Nat) => wY_used_4 post a t n (nI x) (nI i)) (fun i x => x = fm_uc m i) 12 0 rfl ?_ ?_
  · intro n x hx
    exact br_t (nI_le (a := 12) (b := 12) (Nat.le_refl _) (by decide)) (hx ▸ h)
  · intro n i x hi hx hn
    have hc : (nI i).toNatClampNeg = i := nI_clamp (by omega)
    have ht : t i = nI (fm_ob (m i)) := (R i hi).1
    refine br_f (nI_ge (b := 12) hi (by decide)) ⟨pk_in i 12 hi, ?_⟩
    rw [hc, ht]
    cases hm : m i with
    | none =>
      refine br_t rfl (nm_r (nI_1 i) (hn x ?_))
      show x = fm_uc m (i + 1)
      rw [hx, fm_ucS, hm] <;> rfl
    | some y =>
      refine br_f xw_1 (nm_r (nI_1 x) (nm_r (nI_1 i) (hn (x + 1) ?_)))
      show x + 1 = fm_uc m (i + 1)
      rw [hx, fm_ucS, hm] <;> rfl
theorem yw_total {post : Int64 → Prop} {v : SY} {m : Nat → Option Int32} (R : fm_R m v) (h : post (fm_ts m 12)) : wpY_total post v := by
  obtain ⟨a, t⟩ := v
  unfold wpY_total
  dsimp only
  refine loop_0 (fun n i (x : Int64) => wY_total_4 post a t n x (nI i)) (fun i x => x = fm_ts m i) 12 0 rfl ?_ ?_
  · intro n x hx
    exact br_t (nI_le (a := 12) (b := 12) (Nat.le_refl _) (by decide)) (hx ▸ h)
  · intro n i x hi hx hn
    refine br_f (nI_ge (b := 12) hi (by decide)) (yw_read R hi (nm_e (nm_r (nI_1 i) (hn (x + (fm_gv (m i)).toInt64) ?_))))
    show x + (fm_gv (m i)).toInt64 = fm_ts m (i + 1)
    rw [hx, fm_tsS]
theorem yw_exch {post : Int32 → SY → Prop} {v : SY} {m : Nat → Option Int32} {p q : Nat} (R : fm_R m v) (hp : p < 12) (hq : q < 12) (H : ∀ v', fm_R (fm_ms (fm_ms m p (m q)) q (m p)) v' → post (nI (fm_ob (m p) + fm_ob (m q))) v') : wpY_exchange post v (nI p) (nI q) := by
  obtain ⟨a, t⟩ := v
  have hc : (nI p).toNatClampNeg = p := nI_clamp (by omega)
  have hd : (nI q).toNatClampNeg = q := nI_clamp (by omega)
  have ht : t p = nI (fm_ob (m p)) := (R p hp).1
  have hu : t q = nI (fm_ob (m q)) := (R q hq).1
  have ip := pk_in p 12 hp
  have iq := pk_in q 12 hq
  have T : wY_exchange_46 post (nI p) (nI q) (nI (fm_ob (m q))) (nI (fm_ob (m p))) a t := by
    unfold wY_exchange_46
    refine nm_r (nI_add _ _) ⟨ip, nm_r (e' := nI (fm_ob (m p))) (by rw [hc]; exact ht) ⟨ip, nm_r (e' := a p) (by rw [hc]) ⟨iq, ip, nm_r (e' := upd t p (nI (fm_ob (m q)))) ?_ ⟨iq, ip, nm_r (e' := upd a p (a q)) (by rw [hc, hd]) ⟨iq, nm_r (e' := upd (upd t p (nI (fm_ob (m q)))) q (nI (fm_ob (m p)))) ?_ ⟨iq, nm_r (e' := upd (upd a p (a q)) q (a p)) (by rw [hd]) (H _ ?_)⟩⟩⟩⟩⟩⟩
    · rw [hc, hd, hu, fm_nb]
    · rw [hd, fm_nb]
    · exact fm_Rs (fm_Rs R (R q hq).2) (R p hp).2
  have T2 : wY_exchange_32 post (nI p) (nI q) (nI (fm_ob (m p))) a t := by
    unfold wY_exchange_32
    refine ⟨iq, ?_⟩
    rw [hd, hu]
    generalize m q = y at T
    cases y with
    | none => exact br_t rfl T
    | some x => exact br_f xw_1 T
  unfold wpY_exchange
  dsimp only
  refine yw_p1 hp (br_f xw_1 (yw_p1 hq (br_f xw_1 ⟨ip, ?_⟩)))
  rw [hc, ht]
  generalize m p = y at T2
  cases y with
  | none => exact br_t rfl T2
  | some x => exact br_f xw_1 T2
theorem yw_flp {post : Int32 → SY → Prop} {m : Nat → Option Int32} {y : Option Int32} {z : Int32} {q r : Nat} (hr : r < 12) (hz : y ≠ none → z = fm_gv y) (H : ∀ v', fm_R (fm_fl m y q (r + 1)) v' → post (nI r - nI q + 1) v') :
    ∀ (d i : Nat) (a t : Nat → Int32), i + d = r + 1 → q ≤ i → fm_R (fm_fl m y q i) (a, t) → wY_fill_50 post (nI q) (nI r) (nI (fm_ob y)) z (d + 1) (nI i) a t := by
  intro d
  induction d with
  | zero =>
    intro i a t hid hqi R
    have hi : i = r + 1 := by omega
    rw [hi] at R ⊢
    exact br_t (nI_lt (Nat.lt_succ_self r) (by omega)) (H _ R)
  | succ d ih =>
    intro i a t hid hqi R
    have hc : (nI i).toNatClampNeg = i := nI_clamp (by omega)
    have ii := pk_in i 12 (show i < 12 by omega)
    refine br_f (nI_nlt (by omega) (by omega)) ⟨ii, nm_r (e' := upd t i (nI (fm_ob y))) (by rw [hc, fm_nb]) ⟨ii, nm_r (e' := upd a i z) (by rw [hc]) (nm_r (nI_1 i) (ih (i + 1) _ _ (by omega) (by omega) ?_))⟩⟩
    rw [← fm_fls hqi]
    exact fm_Rs R hz
theorem yw_fill {post : Int32 → SY → Prop} {v : SY} {m : Nat → Option Int32} {p q r : Nat} (R : fm_R m v) (hp : p < 12) (hq : q < 12) (hr : r < 12) (hqr : q ≤ r) (H : ∀ v', fm_R (fm_fl m (m p) q (r + 1)) v' → post (nI r - nI q + 1) v') : wpY_fill post v (nI p) (nI q) (nI r) := by
  obtain ⟨a, t⟩ := v
  have hc : (nI p).toNatClampNeg = p := nI_clamp (by omega)
  have ht : t p = nI (fm_ob (m p)) := (R p hp).1
  have ip := pk_in p 12 hp
  unfold wpY_fill
  dsimp only
  refine yw_p1 hp (br_f xw_1 (yw_p1 hq (br_f xw_1 (yw_p1 hr (br_f xw_1 (br_t (nI_le hqr (by omega)) ⟨ip, nm_r (e' := nI (fm_ob (m p))) (by rw [hc]; exact ht) ⟨ip, nm_r (e' := a p) (by rw [hc]) ⟨r + 1 - q + 1, ?_⟩⟩⟩))))))
  refine yw_flp hr (R p hp).2 H (r + 1 - q) q a t (by omega) (Nat.le_refl q) ?_
  rw [fm_fl0]
  exact R
/-- X's scan and the reference's, side by side -/
theorem zw_next {u1 : Int32} {u2 : Int64} {u3 : Int32} {u4 u5 u6 : Nat → Int32} {u7 : Nat → Int64} {u8 u9 a t : Nat → Int32} {m : Nat → Option Int32} {n : Nat} (G : fm_G n m (u1, u2, u3, u4, u5, u6, u7, u8, u9)) (R : fm_R m (a, t)) (x : Int32) :
    ∀ d j : Nat, j + d = 12 → ∃ r : Int32, (∀ post : Int32 → Prop, post r → wX_nextUsed_2 post x u1 u2 u3 u4 u5 u6 u7 u8 u9 (d + 1) (nI j)) ∧ (∀ post : Int32 → Prop, post r → wY_nextUsed_2 post x a t (d + 1) (nI j)) := by
  intro d
  induction d with
  | zero =>
    intro j hj
    have e : j = 12 := by omega
    rw [e]
    exact ⟨-2, fun _ hp => br_t (nI_le (a := 12) (b := 12) (Nat.le_refl _) (by decide)) hp, fun _ hp => br_t (nI_le (a := 12) (b := 12) (Nat.le_refl _) (by decide)) hp⟩
  | succ d ih =>
    intro j hj
    have hj2 : j < 12 := by omega
    have hc : (nI j).toNatClampNeg = j := nI_clamp (by omega)
    have ht : t j = nI (fm_ob (m j)) := (R j hj2).1
    have h12 : ¬ (12 : Int32) ≤ nI j := nI_ge (b := 12) hj2 (by decide)
    obtain ⟨r, hX, hY⟩ := ih (j + 1) (by omega)
    by_cases l : nI j ≤ x
    · exact ⟨r, fun post hp => br_f h12 (br_t l (nm_r (nI_1 j) (hX post hp))), fun post hp => br_f h12 (br_t l (nm_r (nI_1 j) (hY post hp)))⟩
    · cases hm : m j with
      | none =>
        refine ⟨r, fun post hp => br_f h12 (br_f l (gw_has G hj2 ?_)), fun post hp => br_f h12 (br_f l ⟨pk_in j 12 hj2, ?_⟩)⟩
        · rw [hm]; exact br_t rfl (nm_r (nI_1 j) (hX post hp))
        · rw [hc, ht, hm]; exact br_t rfl (nm_r (nI_1 j) (hY post hp))
      | some y =>
        refine ⟨nI j, fun post hp => br_f h12 (br_f l (gw_has G hj2 ?_)), fun post hp => br_f h12 (br_f l ⟨pk_in j 12 hj2, ?_⟩)⟩
        · rw [hm]; exact br_f xw_1 hp
        · rw [hc, ht, hm]; exact br_f xw_1 hp
