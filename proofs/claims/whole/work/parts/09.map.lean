/-! the methods over the map of the logical pages -/
theorem gw_has {post : Int32 → Prop} {u : SX} {m : Nat → Option Int32} {n p : Nat} (G : fm_G n m u) (hp : p < 12) (h : post (nI (fm_ob (m p)))) : wpX_has post u (nI p) := by
  obtain ⟨k, o, c, s, w, pr, act, ns, sp, rfl, hA, h1, h3, hz, hn, hv⟩ := G
  exact xw_has hp (hA.2.2.2.2.1 p hp).1 (fun l => (hA.1 _ l).1) (by rw [hv p hp]; exact h)
theorem gw_count {post : Int32 → Prop} {u : SX} {m : Nat → Option Int32} {n p : Nat} (G : fm_G n m u) (hp : p < 12) (h : post (nI (fm_ob (m p)))) : wpX_countOf post u (nI p) := by
  obtain ⟨k, o, c, s, w, pr, act, ns, sp, rfl, hA, h1, h3, hz, hn, hv⟩ := G
  exact xw_count hp (hA.2.2.2.2.1 p hp).1 (fun l => (hA.1 _ l).1) (by rw [hv p hp]; exact h)
theorem gw_read {post : Int32 → Prop} {u : SX} {m : Nat → Option Int32} {n p : Nat} (G : fm_G n m u) (hp : p < 12) (h : post (fm_gv (m p))) : wpX_read post u (nI p) := by
  obtain ⟨k, o, c, s, w, pr, act, ns, sp, rfl, hA, h1, h3, hz, hn, hv⟩ := G
  exact xw_read hp (hA.2.2.2.2.1 p hp).1 (fun l => (hA.1 _ l).1) (by rw [hv p hp]; exact h)
theorem xw_hasOut {post : Int32 → Prop} {u : SX} {x : Int32} (hx : x < 0 ∨ nI 12 ≤ x) (h : post 0) : wpX_has post u x := by
  obtain ⟨u1, u2, u3, u4, u5, u6, u7, u8, u9⟩ := u
  unfold wpX_has
  dsimp only
  exact xw_out1 hx (br_f xw_1 h)
theorem xw_readOut {post : Int32 → Prop} {u : SX} {x : Int32} (hx : x < 0 ∨ nI 12 ≤ x) (h : post 0) : wpX_read post u x := by
  obtain ⟨u1, u2, u3, u4, u5, u6, u7, u8, u9⟩ := u
  unfold wpX_read
  dsimp only
  exact xw_hasOut hx (br_t rfl h)
theorem gw_change {post : SX → Prop} {u : SX} {m : Nat → Option Int32} {n p : Nat} {y : Option Int32} (G : fm_G n m u) (hp : p < 12) (H : ∀ u', fm_G (n + 3) (fm_ms m p y) u' → post u') : wpX_change post u (nI p) (nI (fm_ob y)) (fm_gv y) := by
  obtain ⟨u1, u2, u3, u4, u5, u6, u7, u8, u9⟩ := u
  unfold wpX_change
  dsimp only
  cases y with
  | none =>
    refine br_t rfl (gw_has G hp ?_)
    cases hm : m p with
    | none =>
      refine br_t rfl (H _ (fm_Gc G (by omega) (fun q hq => ?_)))
      by_cases e : q = p
      · rw [e, hm]; exact fm_mss.symm
      · exact (fm_msn e).symm
    | some z =>
      refine br_f xw_1 (xw_append (kd := 2) G hp (by omega) (fun u' G' => ?_))
      obtain ⟨w1, w2, w3, w4, w5, w6, w7, w8, w9⟩ := u'
      exact H _ (fm_Gc G' (Nat.le_refl _) (fun q _ => fm_mu2 m p 0 q))
  | some x =>
    refine br_f xw_1 (xw_append (kd := 1) G hp (by omega) (fun u' G' => ?_))
    obtain ⟨w1, w2, w3, w4, w5, w6, w7, w8, w9⟩ := u'
    exact H _ (fm_Gc G' (Nat.le_refl _) (fun q _ => fm_mu1 m p x q))
theorem gw_used {post : Int32 → Prop} {u : SX} {m : Nat → Option Int32} {n : Nat} (G : fm_G n m u) (h : post (nI (fm_uc m 12))) : wpX_used post u := by
  obtain ⟨u1, u2, u3, u4, u5, u6, u7, u8, u9⟩ := u
  unfold wpX_used
  dsimp only
  refine loop_0 (fun n i (x : Nat) => wX_used_4 post u1 u2 u3 u4 u5 u6 u7 u8 u9 n (nI x) (nI i)) (fun i x => x = fm_uc m i) 12 0 rfl ?_ ?_
  · intro n x hx
    exact br_t (nI_le (a := 12) (b := 12) (Nat.le_refl _) (by decide)) (hx ▸ h)
  · intro n i x hi hx hn
    refine br_f (nI_ge (b := 12) hi (by decide)) (gw_count G hi (nm_r (nI_add x (fm_ob (m i))) (nm_r (nI_1 i) (hn (x + fm_ob (m i)) ?_))))
    show x + fm_ob (m i) = fm_uc m (i + 1)
    rw [hx, fm_ucS]
theorem gw_total {post : Int64 → Prop} {u : SX} {m : Nat → Option Int32} {n : Nat} (G : fm_G n m u) (h : post (fm_ts m 12)) : wpX_total post u := by
  obtain ⟨u1, u2, u3, u4, u5, u6, u7, u8, u9⟩ := u
  unfold wpX_total
  dsimp only
  refine loop_0 (fun n i (x : Int64) => wX_total_4 post u1 u2 u3 u4 u5 u6 u7 u8 u9 n x (nI i)) (fun i x => x = fm_ts m i) 12 0 rfl ?_ ?_
  · intro n x hx
    exact br_t (nI_le (a := 12) (b := 12) (Nat.le_refl _) (by decide)) (hx ▸ h)
  · intro n i x hi hx hn
    refine br_f (nI_ge (b := 12) hi (by decide)) (gw_read G hi (nm_e (nm_r (nI_1 i) (hn (x + (fm_gv (m i)).toInt64) ?_))))
    show x + (fm_gv (m i)).toInt64 = fm_ts m (i + 1)
    rw [hx, fm_tsS]
/-- p and q changed over: for p = q nothing is -/
theorem gw_exch {post : Int32 → SX → Prop} {u : SX} {m : Nat → Option Int32} {n p q : Nat} (G : fm_G n m u) (hp : p < 12) (hq : q < 12) (H : ∀ u', fm_G (n + 6) (fm_ms (fm_ms m p (m q)) q (m p)) u' → post (nI (fm_ob (m p) + fm_ob (m q))) u') : wpX_exchange post u (nI p) (nI q) := by
  obtain ⟨u1, u2, u3, u4, u5, u6, u7, u8, u9⟩ := u
  unfold wpX_exchange
  dsimp only
  refine xw_out0 hp (br_t rfl (xw_out0 hq (br_t rfl (gw_count G hp (gw_count G hq (nm_r (nI_add _ _) ?_))))))
  refine pk_eq p q (fun e => H _ (fm_Gc G (by omega) (fun r hr => ?_))) (fun e => ?_)
  · by_cases z : r = q
    · rw [z, fm_mss, e]
    · rw [fm_msn z, fm_msn (show r ≠ p by omega)]
  · refine gw_has G hp (gw_read G hp (gw_has G hq (gw_read G hq (gw_change (y := m q) G hp (fun u' G' => ?_)))))
    obtain ⟨w1, w2, w3, w4, w5, w6, w7, w8, w9⟩ := u'
    refine gw_change (y := m p) G' hq (fun u2 G2 => ?_)
    obtain ⟨y1, y2, y3, y4, y5, y6, y7, y8, y9⟩ := u2
    exact H _ (fm_Gc G2 (by omega) (fun r _ => rfl))
theorem gw_flp {post : Int32 → SX → Prop} {m : Nat → Option Int32} {y : Option Int32} {n q r : Nat} (hr : r < 12) (H : ∀ u', fm_G (n + 3 * (r + 1 - q)) (fm_fl m y q (r + 1)) u' → post (nI r - nI q + 1) u') :
    ∀ (d i : Nat) (u : SX), i + d = r + 1 → q ≤ i → fm_G (n + 3 * (i - q)) (fm_fl m y q i) u → wX_fill_48 post (nI q) (nI r) (nI (fm_ob y)) (fm_gv y) (d + 1) (nI i) u.1 u.2.1 u.2.2.1 u.2.2.2.1 u.2.2.2.2.1 u.2.2.2.2.2.1 u.2.2.2.2.2.2.1 u.2.2.2.2.2.2.2.1 u.2.2.2.2.2.2.2.2 := by
  intro d
  induction d with
  | zero =>
    intro i u hid hqi G
    have hi : i = r + 1 := by omega
    rw [hi] at G ⊢
    obtain ⟨u1, u2, u3, u4, u5, u6, u7, u8, u9⟩ := u
    exact br_t (nI_lt (Nat.lt_succ_self r) (by omega)) (H _ G)
  | succ d ih =>
    intro i u hid hqi G
    obtain ⟨u1, u2, u3, u4, u5, u6, u7, u8, u9⟩ := u
    refine br_f (nI_nlt (by omega) (by omega)) (gw_change G (show i < 12 by omega) (fun u' G' => ?_))
    obtain ⟨w1, w2, w3, w4, w5, w6, w7, w8, w9⟩ := u'
    refine nm_r (nI_1 i) (ih (i + 1) (w1, w2, w3, w4, w5, w6, w7, w8, w9) (by omega) (by omega) ?_)
    rw [fm_fls hqi] at G'
    exact fm_Gc G' (by omega) (fun _ _ => rfl)
theorem gw_fill {post : Int32 → SX → Prop} {u : SX} {m : Nat → Option Int32} {n p q r : Nat} (G : fm_G n m u) (hp : p < 12) (hq : q < 12) (hr : r < 12) (hqr : q ≤ r) (H : ∀ u', fm_G (n + 36) (fm_fl m (m p) q (r + 1)) u' → post (nI r - nI q + 1) u') : wpX_fill post u (nI p) (nI q) (nI r) := by
  obtain ⟨u1, u2, u3, u4, u5, u6, u7, u8, u9⟩ := u
  unfold wpX_fill
  dsimp only
  refine xw_out0 hp (br_t rfl (xw_out0 hq (br_t rfl (xw_out0 hr (br_t rfl (br_t (nI_le hqr (by omega)) (gw_has G hp (gw_read G hp ⟨r + 1 - q + 1, ?_⟩))))))))
  refine gw_flp (n := n) hr (fun u' G' => H u' (fm_Gc G' (by omega) (fun _ _ => rfl))) (r + 1 - q) q (u1, u2, u3, u4, u5, u6, u7, u8, u9) (by omega) (Nat.le_refl q) ?_
  rw [fm_fl0]
  exact fm_Gc G (by omega) (fun _ _ => rfl)
theorem xw_init {sp : Nat} {post : SX → Prop} (h1 : 1 ≤ sp) (h3 : sp ≤ 3) (H : ∀ u, fm_G 1 (fun _ => none) u → post u) : wX_init_72 post (nI sp) 0 0 0 (fun _ => 0) (fun _ => 0) (fun _ => 0) (fun _ => 0) (fun _ => 0) (fun _ => 0) := by
  unfold wX_init_72
  refine (show wpX_start _ (fm_st (fun _ => 0) (fun _ => 0) (fun _ => 0) (fun _ => 0) (fun _ => 0) (fun _ => 0) 0 0 sp) from xw_start0 fm_A0 (by decide) (fun p hp => (if_neg (show ¬ p < 12 by omega)).symm) (fun b _ => rfl) (fun a n hA hz hn => H _ ?_))
  have e8 : fm_ez (fun _ => 0) 8 8 = 8 := rfl
  refine ⟨_, _, _, _, _, _, _, _, _, rfl, hA, h1, h3, by omega, hn, fun q hq => ?_⟩
  exact fm_v0 (fun z => absurd z.2 (show ¬ 0 = 1 by decide))
