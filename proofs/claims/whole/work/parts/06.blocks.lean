/-! the block that is taken, and the one that is emptied -/
theorem xw_empt {k o : Nat → Nat} {c : Nat → Int32} {s w pr : Nat → Nat} {act ns sp : Nat} {post : Int32 → Prop} (h : fm_A k o s w pr act ns) (ha : act < 8) (hz : fm_ez pr act 8 ≤ 2) (H : ∀ b, b < 8 → pr b = 4 → fm_lc w b 12 ≤ 2 → post (nI b)) : wpX_emptiestFullBlock post (fm_st k o c s w pr act ns sp) := by
  obtain ⟨h1, h2, h3, h4, h5, h6, h7, h8, h9⟩ := h
  unfold wpX_emptiestFullBlock
  dsimp only
  refine loop_0 (fun n i (x : Nat × Nat) => wX_emptiestFullBlock_6 post (fm_a act) (lN ns) (nI sp) (fun zz => nI (k zz)) (fun zz => nI (o zz)) c (fun zz => lN (s zz)) (fun zz => fm_w (w zz)) (fun zz => nI (pr zz)) n (fm_a x.1) (nI x.2) (nI i)) (fun i x => (x.1 = 8 ∧ x.2 = 5 ∧ ∀ b, b < i → pr b = 4 → 5 ≤ fm_lc w b 12) ∨ (x.1 < i ∧ pr x.1 = 4 ∧ x.2 = fm_lc w x.1 12 ∧ ∀ b, b < i → pr b = 4 → x.2 ≤ fm_lc w b 12)) 8 (8, 5) (Or.inl ⟨rfl, rfl, fun b hb => absurd hb (by omega)⟩) ?_ ?_
  · intro n x hx
    refine br_t (nI_le (a := 8) (b := 8) (Nat.le_refl _) (by decide)) ?_
    rcases hx with ⟨e1, e2, e3⟩ | ⟨e1, e2, e3, e4⟩
    · exact (fm_few (w := w) ha h7 hz (fun b hb hb4 => by have := e3 b hb hb4; omega)).elim
    · rw [fm_al e1]
      by_cases z : 3 ≤ x.2
      · exact (fm_few (w := w) ha h7 hz (fun b hb hb4 => by have := e4 b hb hb4; omega)).elim
      · exact H x.1 e1 e2 (by omega)
  · intro n i x hi hx hn
    obtain ⟨x1, x2⟩ := x
    have hc : (nI i).toNatClampNeg = i := nI_clamp (by omega)
    have hpi := h2 i hi
    have hli := fm_lc_le w i 12
    have hx2 : x2 ≤ 12 := by
      rcases hx with ⟨e1, e2, e3⟩ | ⟨e1, e2, e3, e4⟩
      · have e2 : x2 = 5 := e2
        omega
      · have e3 : x2 = fm_lc w x1 12 := e3
        have := fm_lc_le w x1 12
        omega
    refine br_f (nI_ge (b := 8) hi (by decide)) ?_
    refine xw_live (fun p hp => (h5 p hp).1) hi ⟨pk_in i 8 hi, ?_⟩
    refine pk_eq (pr i) 4 (fun e => ?_) (fun e => ?_) (congrArg (fun j => nI (pr j)) hc) rfl
    · refine pk_le x2 (fm_lc w i 12) (fun l => ?_) (fun l => ?_)
      · refine nm_r (nI_1 i) (hn (x1, x2) ?_)
        rcases hx with ⟨e1, e2, e3⟩ | ⟨e1, e2, e3, e4⟩
        · refine Or.inl ⟨e1, e2, fun b hb hb4 => ?_⟩
          by_cases q : b = i
          · have e2 : x2 = 5 := e2
            rw [q]; omega
          · exact e3 b (by omega) hb4
        · refine Or.inr ⟨Nat.lt_succ_of_lt e1, e2, e3, fun b hb hb4 => ?_⟩
          by_cases q : b = i
          · rw [q]; exact l
          · exact e4 b (by omega) hb4
      · refine nm_r (nI_1 i) ?_
        have t := hn (i, fm_lc w i 12) (Or.inr ⟨Nat.lt_succ_self i, e, rfl, fun b hb hb4 => by
          show fm_lc w i 12 ≤ fm_lc w b 12
          by_cases q : b = i
          · rw [q]; exact Nat.le_refl _
          · rcases hx with ⟨e1, e2, e3⟩ | ⟨e1, e2, e3, e4⟩
            · have e2 : x2 = 5 := e2
              have := e3 b (by omega) hb4
              omega
            · have e4 := e4 b (by omega) hb4
              have e4 : x2 ≤ fm_lc w b 12 := e4
              omega⟩)
        have t : wX_emptiestFullBlock_6 post (fm_a act) (lN ns) (nI sp) (fun zz => nI (k zz)) (fun zz => nI (o zz)) c (fun zz => lN (s zz)) (fun zz => fm_w (w zz)) (fun zz => nI (pr zz)) n (fm_a i) (nI (fm_lc w i 12)) (nI (i + 1)) := t
        rw [fm_al hi] at t
        exact t
    · refine nm_r (nI_1 i) (hn (x1, x2) ?_)
      rcases hx with ⟨e1, e2, e3⟩ | ⟨e1, e2, e3, e4⟩
      · refine Or.inl ⟨e1, e2, fun b hb hb4 => ?_⟩
        by_cases q : b = i
        · rw [q] at hb4; exact absurd hb4 e
        · exact e3 b (by omega) hb4
      · refine Or.inr ⟨Nat.lt_succ_of_lt e1, e2, e3, fun b hb hb4 => ?_⟩
        by_cases q : b = i
        · rw [q] at hb4; exact absurd hb4 e
        · exact e4 b (by omega) hb4
theorem xw_openB {k o : Nat → Nat} {c : Nat → Int32} {s w pr : Nat → Nat} {act ns sp : Nat} {post : SX → Prop} (hp : ∀ b, b < 8 → pr b ≤ 4) (hz : 1 ≤ fm_ez pr act 8) (H : ∀ a, a < 8 → pr a = 0 → post (fm_st k o c s w pr a ns sp)) : wpX_openBlock post (fm_st k o c s w pr act ns sp) := by
  unfold wpX_openBlock
  dsimp only
  refine loop_0 (fun n i (_ : Unit) => wX_openBlock_7 post (fm_a 8) (lN ns) (nI sp) (fun zz => nI (k zz)) (fun zz => nI (o zz)) c (fun zz => lN (s zz)) (fun zz => fm_w (w zz)) (fun zz => nI (pr zz)) n (nI i)) (fun i _ => ∀ b, b < i → pr b ≠ 0) 8 () (fun b hb => absurd hb (by omega)) ?_ ?_
  · intro n x hx
    exact (fm_ex0 hz hx).elim
  · intro n i x hi hx hn
    have hc : (nI i).toNatClampNeg = i := nI_clamp (by omega)
    have hpi := hp i hi
    refine br_f (nI_ge (b := 8) hi (by decide)) ⟨pk_in i 8 hi, ?_⟩
    refine pk_eq (pr i) 0 (fun e => ?_) (fun e => ?_) (congrArg (fun j => nI (pr j)) hc) rfl
    · have t := H i hi e
      unfold fm_st at t
      rw [fm_al hi] at t
      exact t
    · refine nm_r (nI_1 i) (hn () ?_)
      intro b hb
      by_cases q : b = i
      · rw [q]; exact e
      · exact hx b (by omega)
theorem xw_prog {k o : Nat → Nat} {c : Nat → Int32} {s w pr : Nat → Nat} {act ns sp : Nat} {post : SX → Prop} {p kd a : Nat} {x : Int32} (ha : act < 8) (hr : pr act < 4) (hp : p < 12) (hk : kd = 1 ∨ kd = 2) (ea : a = 4 * act + pr act)
    (H : post (fm_st (fm_u k a kd) (fm_u o a p) (upd c a x) (fm_u s a ns) (fm_u w p a) (fm_u pr act (pr act + 1)) act (ns + 1) sp)) : wpX_program post (fm_st k o c s w pr act ns sp) (nI p) (nI kd) x := by
  unfold wpX_program
  dsimp only
  have hA : a < 32 := by omega
  have hia : vp_in (nI a) 32 := vp_in_nI hA (by omega)
  have hcl : (nI a).toNatClampNeg = a := nI_clamp (by omega)
  have hca := fm_ac ha
  refine xw_room1 ha hr (br_f xw_1 ⟨fm_ain ha, nm_r (e' := nI a) ?_ ⟨hia, nm_r (e' := fun j => nI (fm_u k a kd j)) ?_ ⟨hia, nm_r (e' := fun j => nI (fm_u o a p j)) ?_ ⟨hia, nm_r (e' := upd c a x) ?_ ⟨hia, nm_r (e' := fun j => lN (fm_u s a ns j)) ?_ ⟨fm_ain ha, fm_ain ha, nm_r (e' := fun j => nI (fm_u pr act (pr act + 1) j)) ?_ (nm_r (lN_1 ns) (br_f ?_ ⟨pk_in p 12 hp, nm_r (e' := fun j => fm_w (fm_u w p a j)) ?_ H⟩))⟩⟩⟩⟩⟩⟩)
  · rw [hca, fm_al ha, show (4 : Int32) = nI 4 from rfl, pk_mul, nI_add]
    exact congrArg nI (by omega)
  · rw [hcl]; exact fm_updI
  · rw [hcl]; exact fm_updI
  · rw [hcl]
  · rw [hcl]; exact fm_updL
  · rw [hca, nI_1]; exact fm_updI
  · exact fun z => absurd ((nI_eq (by omega) (by decide)).mp (z.trans (show (3 : Int32) = nI 3 from rfl))) (by omega)
  · rw [nI_clamp (show p < 2 ^ 31 by omega)]; exact fm_updW hA
theorem xw_prog3 {k o : Nat → Nat} {c : Nat → Int32} {s w pr : Nat → Nat} {act ns sp : Nat} {post : SX → Prop} {p a : Nat} {x : Int32} (ha : act < 8) (hr : pr act < 4) (ea : a = 4 * act + pr act)
    (H : post (fm_st (fm_u k a 3) (fm_u o a p) (upd c a x) (fm_u s a ns) w (fm_u pr act (pr act + 1)) act (ns + 1) sp)) : wpX_program post (fm_st k o c s w pr act ns sp) (nI p) (nI 3) x := by
  unfold wpX_program
  dsimp only
  have hA : a < 32 := by omega
  have hia : vp_in (nI a) 32 := vp_in_nI hA (by omega)
  have hcl : (nI a).toNatClampNeg = a := nI_clamp (by omega)
  have hca := fm_ac ha
  refine xw_room1 ha hr (br_f xw_1 ⟨fm_ain ha, nm_r (e' := nI a) ?_ ⟨hia, nm_r (e' := fun j => nI (fm_u k a 3 j)) ?_ ⟨hia, nm_r (e' := fun j => nI (fm_u o a p j)) ?_ ⟨hia, nm_r (e' := upd c a x) ?_ ⟨hia, nm_r (e' := fun j => lN (fm_u s a ns j)) ?_ ⟨fm_ain ha, fm_ain ha, nm_r (e' := fun j => nI (fm_u pr act (pr act + 1) j)) ?_ (nm_r (lN_1 ns) (br_t rfl H))⟩⟩⟩⟩⟩⟩)
  · rw [hca, fm_al ha, show (4 : Int32) = nI 4 from rfl, pk_mul, nI_add]
    exact congrArg nI (by omega)
  · rw [hcl]; exact fm_updI
  · rw [hcl]; exact fm_updI
  · rw [hcl]
  · rw [hcl]; exact fm_updL
  · rw [hca, nI_1]; exact fm_updI
theorem xw_erase {k o : Nat → Nat} {c : Nat → Int32} {s w pr : Nat → Nat} {act ns sp : Nat} {post : SX → Prop} {b : Nat} (hb : b < 8) (H : post (fm_st (fm_e k b) (fm_e o b) (fm_ec c b) (fm_e s b) w (fm_u pr b 0) act ns sp)) : wpX_eraseBlock post (fm_st k o c s w pr act ns sp) (nI b) := by
  unfold wpX_eraseBlock
  dsimp only
  refine nm_r (e' := nI (4 * b)) ?_ ?_
  · rw [show (4 : Int32) = nI 4 from rfl, pk_mul]
    exact congrArg nI (by omega)
  have key := loop_0 (fun n j (_ : Unit) => wX_eraseBlock_6 post (nI b) (nI (4 * b)) (fm_a act) (lN ns) (nI sp) n (nI (4 * b + j)) (fun zz => nI ((fm_ej k b j) zz)) (fun zz => nI ((fm_ej o b j) zz)) (fm_ecj c b j) (fun zz => lN ((fm_ej s b j) zz)) (fun zz => fm_w (w zz)) (fun zz => nI (pr zz))) (fun _ _ => True) 4 () trivial ?_ ?_
  · obtain ⟨n, hn⟩ := key
    refine ⟨n, ?_⟩
    have hn : wX_eraseBlock_6 post (nI b) (nI (4 * b)) (fm_a act) (lN ns) (nI sp) n (nI (4 * b)) (fun zz => nI ((fm_ej k b 0) zz)) (fun zz => nI ((fm_ej o b 0) zz)) (fm_ecj c b 0) (fun zz => lN ((fm_ej s b 0) zz)) (fun zz => fm_w (w zz)) (fun zz => nI (pr zz)) := hn
    rw [fm_ej0, fm_ej0, fm_ej0, fm_ecj0] at hn
    exact hn
  · intro n _ _
    have e4 : nI (4 * b) + 4 = nI (4 * b + 4) := by rw [show (4 : Int32) = nI 4 from rfl, nI_add]
    refine br_t (by rw [e4]; exact nI_le (Nat.le_refl _) (by omega)) ⟨pk_in b 8 hb, nm_r (e' := fun j => nI (fm_u pr b 0 j)) ?_ ?_⟩
    · rw [nI_clamp (show b < 2 ^ 31 by omega)]; exact fm_updI
    · rw [fm_ej4, fm_ej4, fm_ej4, fm_ecj4]
      exact H
  · intro n j _ hj _ hn
    have e4 : nI (4 * b) + 4 = nI (4 * b + 4) := by rw [show (4 : Int32) = nI 4 from rfl, nI_add]
    have hv : vp_in (nI (4 * b + j)) 32 := vp_in_nI (by omega) (by omega)
    have hc : (nI (4 * b + j)).toNatClampNeg = 4 * b + j := nI_clamp (by omega)
    refine br_f (by rw [e4]; exact nI_ge (by omega) (by omega)) ⟨hv, nm_r (e' := fun i => nI (fm_ej k b (j + 1) i)) ?_ ⟨hv, nm_r (e' := fun i => nI (fm_ej o b (j + 1) i)) ?_ ⟨hv, nm_r (e' := fm_ecj c b (j + 1)) ?_ ⟨hv, nm_r (e' := fun i => lN (fm_ej s b (j + 1) i)) ?_ (nm_r (nI_1 (4 * b + j)) (hn () trivial))⟩⟩⟩⟩
    · rw [hc, ← fm_ejs]; exact fm_updI
    · rw [hc, ← fm_ejs]; exact fm_updI
    · rw [hc, ← fm_ecjs]
    · rw [hc, ← fm_ejs]; exact fm_updL
