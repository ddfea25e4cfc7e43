/-! the state by its ghosts, and the methods that only read -/
abbrev fm_st (k o : Nat → Nat) (c : Nat → Int32) (s w pr : Nat → Nat) (act ns sp : Nat) : SX :=
  ((fm_a act), (lN ns), (nI sp), (fun zz => nI (k zz)), (fun zz => nI (o zz)), c, (fun zz => lN (s zz)), (fun zz => fm_w (w zz)), (fun zz => nI (pr zz)))
theorem xw_1 : ¬ (1 : Int32) = 0 := by decide
theorem xw_out0 {post : Int32 → Prop} {u : SX} {p : Nat} (hp : p < 12) (h : post 0) : wpX_isOutside post u (nI p) := by
  obtain ⟨u1, u2, u3, u4, u5, u6, u7, u8, u9⟩ := u
  exact br_f (nI_pos (by omega)) (pk_lt p 12 (fun _ => h) (fun z => absurd hp (by omega)))
theorem xw_out1 {post : Int32 → Prop} {u : SX} {x : Int32} (hx : x < 0 ∨ nI 12 ≤ x) (h : post 1) : wpX_isOutside post u x := by
  obtain ⟨u1, u2, u3, u4, u5, u6, u7, u8, u9⟩ := u
  by_cases z : x < 0
  · exact br_t z h
  · rcases hx with hx | hx
    · exact absurd hx z
    · exact br_f z (br_f (Int32.not_lt.mpr hx) h)
theorem fm_wc {x : Nat} (h : x < 32) : (fm_w x).toNatClampNeg = x := by rw [fm_wl h]; exact nI_clamp (by omega)
theorem fm_ac {x : Nat} (h : x < 8) : (fm_a x).toNatClampNeg = x := by rw [fm_al h]; exact nI_clamp (by omega)
theorem fm_win {x : Nat} (h : x < 32) : vp_in (fm_w x) 32 := by rw [fm_wl h]; exact vp_in_nI h (by omega)
theorem fm_ain {x : Nat} (h : x < 8) : vp_in (fm_a x) 8 := by rw [fm_al h]; exact vp_in_nI h (by omega)
theorem fm_aeq {b act : Nat} (hb : b < 8) (ha : act ≤ 8) : nI b = fm_a act ↔ b = act := by
  by_cases e : act = 8
  · rw [e, fm_a8]
    exact ⟨fun z => absurd z (fm_m1 (by omega)), fun z => absurd z (by omega)⟩
  · rw [fm_al (show act < 8 by omega)]
    exact nI_eq (by omega) (by omega)
theorem xw_has {k o : Nat → Nat} {c : Nat → Int32} {s w pr : Nat → Nat} {act ns sp : Nat} {post : Int32 → Prop} {p : Nat} (hp : p < 12) (hw : w p ≤ 32) (hk : w p < 32 → k (w p) ≤ 3) (h : post (nI (fm_ob (fm_v k w c p)))) : wpX_has post (fm_st k o c s w pr act ns sp) (nI p) := by
  unfold wpX_has
  dsimp only
  have hc : (nI p).toNatClampNeg = p := nI_clamp (by omega)
  refine xw_out0 hp (br_t rfl ⟨pk_in p 12 hp, nm_r (e' := fm_w (w p)) (by rw [hc]) ?_⟩)
  by_cases h32 : w p = 32
  · rw [fm_v0 (show ¬ (w p < 32 ∧ k (w p) = 1) by omega)] at h
    exact br_t (by rw [h32]; exact fm_w32) h
  · have hl : w p < 32 := by omega
    have hk := hk hl
    refine br_f (fm_wm hl) ⟨fm_win hl, ?_⟩
    rw [fm_wc hl]
    by_cases h1 : k (w p) = 1
    · rw [fm_v1 (show w p < 32 ∧ k (w p) = 1 from ⟨hl, h1⟩)] at h
      exact br_t (by rw [h1]; rfl) h
    · rw [fm_v0 (show ¬ (w p < 32 ∧ k (w p) = 1) from fun z => h1 z.2)] at h
      exact br_f (fun z => h1 ((nI_eq (by omega) (by decide)).mp (z.trans (show (1 : Int32) = nI 1 from rfl)))) h
theorem xw_count {k o : Nat → Nat} {c : Nat → Int32} {s w pr : Nat → Nat} {act ns sp : Nat} {post : Int32 → Prop} {p : Nat} (hp : p < 12) (hw : w p ≤ 32) (hk : w p < 32 → k (w p) ≤ 3) (h : post (nI (fm_ob (fm_v k w c p)))) : wpX_countOf post (fm_st k o c s w pr act ns sp) (nI p) := by
  unfold wpX_countOf
  dsimp only
  refine xw_has hp hw hk ?_
  generalize fm_v k w c p = x at h
  cases x with
  | none => exact br_t rfl h
  | some y => exact br_f xw_1 h
theorem xw_read {k o : Nat → Nat} {c : Nat → Int32} {s w pr : Nat → Nat} {act ns sp : Nat} {post : Int32 → Prop} {p : Nat} (hp : p < 12) (hw : w p ≤ 32) (hk : w p < 32 → k (w p) ≤ 3) (h : post (fm_gv (fm_v k w c p))) : wpX_read post (fm_st k o c s w pr act ns sp) (nI p) := by
  unfold wpX_read
  dsimp only
  refine xw_has hp hw hk ?_
  have hc : (nI p).toNatClampNeg = p := nI_clamp (by omega)
  by_cases hv : w p < 32 ∧ k (w p) = 1
  · rw [fm_v1 hv] at h ⊢
    refine br_f xw_1 ⟨pk_in p 12 hp, ?_⟩
    rw [hc, fm_wc hv.1]
    exact ⟨fm_win hv.1, h⟩
  · rw [fm_v0 hv] at h ⊢
    exact br_t rfl h
theorem xw_room1 {k o : Nat → Nat} {c : Nat → Int32} {s w pr : Nat → Nat} {act ns sp : Nat} {post : Int32 → Prop} (ha : act < 8) (hr : pr act < 4) (h : post 1) : wpX_hasRoom post (fm_st k o c s w pr act ns sp) := by
  unfold wpX_hasRoom
  dsimp only
  refine br_f (fm_am ha) ⟨fm_ain ha, ?_⟩
  rw [fm_ac ha]
  exact br_f (nI_ge (b := 4) hr (by decide)) h
theorem xw_room0 {k o : Nat → Nat} {c : Nat → Int32} {s w pr : Nat → Nat} {act ns sp : Nat} {post : Int32 → Prop} (hr : act = 8 ∨ (act < 8 ∧ pr act = 4)) (h : post 0) : wpX_hasRoom post (fm_st k o c s w pr act ns sp) := by
  unfold wpX_hasRoom
  dsimp only
  rcases hr with hr | ⟨ha, hr⟩
  · exact br_t (by rw [hr]; exact fm_a8) h
  · refine br_f (fm_am ha) ⟨fm_ain ha, ?_⟩
    rw [fm_ac ha, hr]
    exact br_t (nI_le (a := 4) (b := 4) (Nat.le_refl 4) (by decide)) h
theorem xw_isIn {post : Int32 → Prop} {u : SX} {a b : Nat} (ha : a ≤ 32) (hb : b < 8) (h1 : a / 4 = b → post 1) (h0 : a / 4 ≠ b → post 0) : wpX_isIn post u (fm_w a) (nI b) := by
  obtain ⟨u1, u2, u3, u4, u5, u6, u7, u8, u9⟩ := u
  by_cases e : a = 32
  · exact br_t (by rw [e]; exact fm_w32) (h0 (by omega))
  · have hl : a < 32 := by omega
    refine br_f (fm_wm hl) ⟨by decide, ?_⟩
    exact pk_eq (a / 4) b h1 h0 (by rw [fm_wl hl]; exact pk_div (d := 4) (by omega) (by decide) (by decide)) rfl
theorem xw_live {k o : Nat → Nat} {c : Nat → Int32} {s w pr : Nat → Nat} {act ns sp : Nat} {post : Int32 → Prop} {b : Nat} (hw : ∀ p, p < 12 → w p ≤ 32) (hb : b < 8) (h : post (nI (fm_lc w b 12))) : wpX_liveIn post (fm_st k o c s w pr act ns sp) (nI b) := by
  unfold wpX_liveIn
  dsimp only
  refine loop_0 (fun n i (x : Nat) => wX_liveIn_4 post (nI b) (fm_a act) (lN ns) (nI sp) (fun zz => nI (k zz)) (fun zz => nI (o zz)) c (fun zz => lN (s zz)) (fun zz => fm_w (w zz)) (fun zz => nI (pr zz)) n (nI x) (nI i)) (fun i x => x = fm_lc w b i) 12 0 rfl ?_ ?_
  · intro n x hx
    exact br_t (nI_le (a := 12) (b := 12) (Nat.le_refl _) (by decide)) (hx ▸ h)
  · intro n i x hi hx hn
    have hc : (nI i).toNatClampNeg = i := nI_clamp (by omega)
    refine br_f (nI_ge (b := 12) hi (by decide)) ⟨pk_in i 12 hi, ?_⟩
    show wpX_isIn _ (fm_st k o c s w pr act ns sp) (fm_w (w (nI i).toNatClampNeg)) (nI b)
    rw [hc]
    refine xw_isIn (hw i hi) hb (fun e => ?_) (fun e => ?_)
    · refine br_f xw_1 (nm_r (nI_1 x) (nm_r (nI_1 i) (hn (x + 1) ?_)))
      show x + 1 = fm_lc w b (i + 1)
      rw [hx, fm_lcS, if_pos e]
    · refine br_t rfl (nm_r (nI_1 i) (hn x ?_))
      show x = fm_lc w b (i + 1)
      rw [hx, fm_lcS, if_neg e] <;> rfl
theorem xw_erased {k o : Nat → Nat} {c : Nat → Int32} {s w pr : Nat → Nat} {act ns sp : Nat} {post : Int32 → Prop} (hp : ∀ b, b < 8 → pr b ≤ 4) (ha : act ≤ 8) (h : post (nI (fm_ez pr act 8))) : wpX_erasedBlocks post (fm_st k o c s w pr act ns sp) := by
  unfold wpX_erasedBlocks
  dsimp only
  refine loop_0 (fun n i (x : Nat) => wX_erasedBlocks_4 post (fm_a act) (lN ns) (nI sp) (fun zz => nI (k zz)) (fun zz => nI (o zz)) c (fun zz => lN (s zz)) (fun zz => fm_w (w zz)) (fun zz => nI (pr zz)) n (nI x) (nI i)) (fun i x => x = fm_ez pr act i) 8 0 rfl ?_ ?_
  · intro n x hx
    exact br_t (nI_le (a := 8) (b := 8) (Nat.le_refl _) (by decide)) (hx ▸ h)
  · intro n i x hi hx hn
    have hc : (nI i).toNatClampNeg = i := nI_clamp (by omega)
    have hpi := hp i hi
    refine br_f (nI_ge (b := 8) hi (by decide)) ⟨pk_in i 8 hi, ?_⟩
    refine pk_eq (pr i) 0 (fun e => ?_) (fun e => ?_) (congrArg (fun j => nI (pr j)) hc) rfl
    · by_cases ea : i = act
      · refine br_t ((fm_aeq hi ha).mpr ea) (nm_r (nI_1 i) (hn x ?_))
        show x = fm_ez pr act (i + 1)
        rw [hx, fm_ezS, if_neg (show ¬ (pr i = 0 ∧ i ≠ act) from fun z => z.2 ea)] <;> rfl
      · refine br_f (fun z => ea ((fm_aeq hi ha).mp z)) (nm_r (nI_1 x) (nm_r (nI_1 i) (hn (x + 1) ?_)))
        show x + 1 = fm_ez pr act (i + 1)
        rw [hx, fm_ezS, if_pos (show pr i = 0 ∧ i ≠ act from ⟨e, ea⟩)]
    · refine nm_r (nI_1 i) (hn x ?_)
      show x = fm_ez pr act (i + 1)
      rw [hx, fm_ezS, if_neg (show ¬ (pr i = 0 ∧ i ≠ act) from fun z => e z.1)] <;> rfl
