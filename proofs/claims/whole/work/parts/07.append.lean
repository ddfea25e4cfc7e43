/-! emptying a block, and appending a record -/
theorem xw_recl {post : SX → Prop} {m : Nat → Option Int32} {b act sp N e : Nat} (ha : act < 8) (hb : b < 8) (hba : b ≠ act)
    (H : ∀ (k o : Nat → Nat) (c : Nat → Int32) (s w pr : Nat → Nat) (ns : Nat), fm_A k o s w pr act ns → pr act < 4 → fm_ez pr act 8 = e + 1 → ns ≤ N → (∀ q, q < 12 → fm_v k w c q = m q) → post (fm_st k o c s w pr act ns sp)) :
    ∀ (d p : Nat) (k o : Nat → Nat) (c : Nat → Int32) (s w pr : Nat → Nat) (ns : Nat), p + d = 12 → fm_A k o s w pr act ns → pr b = 4 → pr act + fm_lc w b 12 ≤ 2 → ns + fm_lc w b 12 ≤ N → fm_ez pr act 8 = e → (∀ q, q < p → w q / 4 ≠ b) → (∀ q, q < 12 → fm_v k w c q = m q) → wX_reclaim_8 post (nI b) (d + 1) (nI p) (fm_a act) (lN ns) (nI sp) (fun zz => nI (k zz)) (fun zz => nI (o zz)) c (fun zz => lN (s zz)) (fun zz => fm_w (w zz)) (fun zz => nI (pr zz)) := by
  intro d
  induction d with
  | zero =>
    intro p k o c s w pr ns hpd hA h4 hpr hN he hq hv
    have hp : p = 12 := by omega
    rw [hp]
    refine br_t (nI_le (a := 12) (b := 12) (Nat.le_refl _) (by decide)) (xw_erase hb ?_)
    refine H _ _ _ _ _ _ _ (fm_erase hA hb (fun q hq12 => hq q (by omega))) ?_ ?_ (by omega) ?_
    · rw [fm_un (f := pr) (show act ≠ b from fun z => hba z.symm)]; omega
    · rw [fm_ez_er (show pr b ≠ 0 by omega) hba 8, if_pos hb, he]
    · intro q hq12
      rw [fm_ve (hq q (by omega))]
      exact hv q hq12
  | succ d ih =>
    intro p k o c s w pr ns hpd hA h4 hpr hN he hq hv
    have hp : p < 12 := by omega
    have hc : (nI p).toNatClampNeg = p := nI_clamp (by omega)
    have hA2 := hA
    obtain ⟨h1, h2, h3, h4', h5, h6, h7, h8, h9⟩ := hA2
    refine br_f (nI_ge (b := 12) hp (by decide)) ⟨pk_in p 12 hp, nm_r (e' := fm_w (w p)) (congrArg (fun j => fm_w (w j)) hc) ?_⟩
    refine xw_isIn (h5 p hp).1 hb (fun e1 => ?_) (fun e0 => ?_)
    · have hl : w p < 32 := by omega
      have hk := ((h5 p hp).2 hl).1
      have hpos := fm_lc_pos (w := w) (b := b) (p := p) e1 12 hp
      refine br_f xw_1 ⟨fm_win hl, fm_win hl, ?_⟩
      show wpX_program _ (fm_st k o c s w pr act ns sp) (nI p) (nI (k (fm_w (w p)).toNatClampNeg)) (c (fm_w (w p)).toNatClampNeg)
      rw [fm_wc hl]
      refine xw_prog (a := 4 * act + pr act) ha (by omega) hp hk rfl ?_
      have hmv := fm_lc_move (w := w) (b := b) (p := p) (x := 4 * act + pr act) e1 (by omega) 12 hp
      refine nm_r (nI_1 p) (ih (p + 1) _ _ _ _ _ _ _ (by omega) (fm_prog hA ha (by omega) hp hk rfl) ?_ ?_ (by omega) ?_ ?_ ?_)
      · rw [fm_un (f := pr) hba]; exact h4
      · rw [fm_us (f := pr)]; omega
      · rw [fm_ez_act]; exact he
      · intro q hqp
        by_cases z : q = p
        · rw [z, fm_us (f := w)]; omega
        · rw [fm_un (f := w) z]; exact hq q (by omega)
      · intro q hq12
        rw [fm_vm hA ha (by omega) rfl hp hl hq12]
        exact hv q hq12
    · refine br_t rfl (nm_r (nI_1 p) (ih (p + 1) k o c s w pr ns (by omega) hA h4 hpr hN he ?_ hv))
      intro q hqp
      by_cases z : q = p
      · rw [z]; exact e0
      · exact hq q (by omega)
theorem xw_reclaim {k o : Nat → Nat} {c : Nat → Int32} {s w pr : Nat → Nat} {act ns sp : Nat} {post : SX → Prop} {m : Nat → Option Int32} {b : Nat} (hA : fm_A k o s w pr act ns) (ha : act < 8) (h0 : pr act = 0) (hb : b < 8) (h4 : pr b = 4) (hl : fm_lc w b 12 ≤ 2) (hv : ∀ q, q < 12 → fm_v k w c q = m q)
    (H : ∀ (k' o' : Nat → Nat) (c' : Nat → Int32) (s' w' pr' : Nat → Nat) (ns' : Nat), fm_A k' o' s' w' pr' act ns' → pr' act < 4 → fm_ez pr' act 8 = fm_ez pr act 8 + 1 → ns' ≤ ns + 2 → (∀ q, q < 12 → fm_v k' w' c' q = m q) → post (fm_st k' o' c' s' w' pr' act ns' sp)) : wpX_reclaim post (fm_st k o c s w pr act ns sp) (nI b) := by
  unfold wpX_reclaim
  dsimp only
  have hba : b ≠ act := by
    intro z
    rw [z] at h4
    omega
  exact br_f (fm_m1 (by omega)) ⟨13, xw_recl ha hb hba H 12 0 k o c s w pr ns rfl hA h4 (by omega) (by omega) rfl (fun q hq => absurd hq (by omega)) hv⟩
/-- the object at a call's end: at most n stamps, the map m -/
def fm_G (n : Nat) (m : Nat → Option Int32) (u : SX) : Prop :=
  ∃ (k o : Nat → Nat) (c : Nat → Int32) (s w pr : Nat → Nat) (act ns sp : Nat), u = (fm_st k o c s w pr act ns sp) ∧ fm_A k o s w pr act ns ∧ 1 ≤ sp ∧ sp ≤ 3 ∧ sp ≤ fm_ez pr act 8 ∧ ns ≤ n ∧ ∀ q, q < 12 → fm_v k w c q = m q
theorem fm_Gc {n n' : Nat} {m m' : Nat → Option Int32} {u : SX} (h : fm_G n m u) (hn : n ≤ n') (hm : ∀ q, q < 12 → m q = m' q) : fm_G n' m' u := by
  obtain ⟨k, o, c, s, w, pr, act, ns, sp, hu, hA, h1, h2, h3, h4, h5⟩ := h
  exact ⟨k, o, c, s, w, pr, act, ns, sp, hu, hA, h1, h2, h3, by omega, fun q hq => (h5 q hq).trans (hm q hq)⟩
theorem fm_muc {m m' : Nat → Option Int32} {p kd q : Nat} {x : Int32} (h : m q = m' q) : fm_mu m p kd x q = fm_mu m' p kd x q := by
  unfold fm_mu
  rw [h]
theorem xw_a34 {k o : Nat → Nat} {c : Nat → Int32} {s w pr : Nat → Nat} {act ns sp : Nat} {post : SX → Prop} {m : Nat → Option Int32} {p kd n : Nat} {x : Int32} (hA : fm_A k o s w pr act ns) (ha : act < 8) (hr : pr act < 4) (hp : p < 12) (hk : kd = 1 ∨ kd = 2 ∨ kd = 3) (h1 : 1 ≤ sp) (h3 : sp ≤ 3) (hz : sp ≤ fm_ez pr act 8) (hn : ns + 1 ≤ n) (hv : ∀ q, q < 12 → fm_v k w c q = m q)
    (H : ∀ u, fm_G n (fm_mu m p kd x) u → post u) : wX_append_34 post (nI p) (nI kd) x (fm_a act) (lN ns) (nI sp) (fun zz => nI (k zz)) (fun zz => nI (o zz)) c (fun zz => lN (s zz)) (fun zz => fm_w (w zz)) (fun zz => nI (pr zz)) := by
  unfold wX_append_34
  by_cases h : kd = 3
  · rw [h]
    rw [h] at H
    refine xw_prog3 (a := 4 * act + pr act) ha hr rfl (H _ ?_)
    refine ⟨_, _, _, _, _, _, _, _, _, rfl, fm_prog3 (p := p) hA ha hr rfl, h1, h3, ?_, by omega, fun q hq => ?_⟩
    · rw [fm_ez_act]; exact hz
    · rw [fm_v3 (p := p) hA ha hr rfl hq]
      exact fm_muc (hv q hq)
  · have hk2 : kd = 1 ∨ kd = 2 := by omega
    refine xw_prog (a := 4 * act + pr act) ha hr hp hk2 rfl (H _ ?_)
    refine ⟨_, _, _, _, _, _, _, _, _, rfl, fm_prog hA ha hr hp hk2 rfl, h1, h3, ?_, by omega, fun q hq => ?_⟩
    · rw [fm_ez_act]; exact hz
    · rw [fm_v12 hA ha hr rfl hk2 hq]
      exact fm_muc (hv q hq)
theorem xw_append {post : SX → Prop} {u : SX} {m : Nat → Option Int32} {p kd n : Nat} {x : Int32} (G : fm_G n m u) (hp : p < 12) (hk : kd = 1 ∨ kd = 2 ∨ kd = 3)
    (H : ∀ u', fm_G (n + 3) (fm_mu m p kd x) u' → post u') : wpX_append post u (nI p) (nI kd) x := by
  obtain ⟨k, o, c, s, w, pr, act, ns, sp, rfl, hA, h1, h3, hz, hn, hv⟩ := G
  have hA2 := hA
  obtain ⟨a1, a2, a3, a4, a5, a6, a7, a8, a9⟩ := hA2
  unfold wpX_append
  dsimp only
  by_cases hr : act < 8 ∧ pr act < 4
  · exact xw_room1 hr.1 hr.2 (br_f xw_1 (xw_a34 hA hr.1 hr.2 hp hk h1 h3 hz (by omega) hv H))
  · have hf : act < 8 → pr act = 4 := by
      intro z
      have := a2 act z
      omega
    refine xw_room0 (by omega) (br_t rfl ?_)
    refine xw_openB a2 (by omega) (fun a ha h0 => ?_)
    have hA3 := fm_take hA hf ha
    have ez := fm_ez_op (act := act) h0 (by
      by_cases z : act < 8
      · exact Or.inl (by rw [hf z]; decide)
      · exact Or.inr (by omega)) 8 (Nat.le_refl 8)
    rw [if_pos ha] at ez
    dsimp only
    refine xw_erased a2 (by omega) ?_
    by_cases hs : sp ≤ fm_ez pr a 8
    · exact br_t (nI_le hs (by have := fm_ez_le pr a 8; omega)) (xw_a34 hA3 ha (by omega) hp hk h1 h3 hs (by omega) hv H)
    · refine br_f (nI_ge (by omega) (by omega)) ?_
      refine xw_empt hA3 ha (by omega) (fun b hb hb4 hl => ?_)
      refine xw_reclaim hA3 ha h0 hb hb4 hl hv (fun k' o' c' s' w' pr' ns' hA' hr' hz' hn' hv' => ?_)
      exact xw_a34 hA' ha hr' hp hk h1 h3 (by omega) (by omega) hv' H
