/-! the start: the working memory is found again from the flash -/
def fm_pf (f : Nat → Nat) (v i : Nat) : Nat → Nat := fun j => if j < i then v else f j
theorem fm_pf0 {f : Nat → Nat} {v : Nat} : fm_pf f v 0 = f := by
  funext j
  exact if_neg (by omega)
theorem fm_pfs {f : Nat → Nat} {v i : Nat} : fm_u (fm_pf f v i) i v = fm_pf f v (i + 1) := by
  funext j
  by_cases e : j = i
  · rw [e, fm_us (f := fm_pf f v i)]
    exact (if_pos (by omega)).symm
  · rw [fm_un (f := fm_pf f v i) e]
    show (if j < i then v else f j) = (if j < i + 1 then v else f j)
    by_cases l : j < i
    · rw [if_pos l, if_pos (show j < i + 1 by omega)]
    · rw [if_neg l, if_neg (show ¬ j < i + 1 by omega)]
theorem xw_forget {k o : Nat → Nat} {c : Nat → Int32} {s w pr : Nat → Nat} {act ns sp : Nat} {post : SX → Prop} (H : post (fm_st k o c s (fm_pf w 32 12) (fm_pf pr 0 8) 8 1 sp)) : wpX_forget post (fm_st k o c s w pr act ns sp) := by
  unfold wpX_forget
  dsimp only
  have key2 := loop_0 (fun n i (_ : Unit) => wX_forget_23 post (fm_a act) (lN ns) (nI sp) n (nI i) (fun zz => nI (k zz)) (fun zz => nI (o zz)) c (fun zz => lN (s zz)) (fun zz => fm_w ((fm_pf w 32 12) zz)) (fun zz => nI ((fm_pf pr 0 i) zz))) (fun _ _ => True) 8 () trivial
    (by
      intro n _ _
      exact br_t (nI_le (a := 8) (b := 8) (Nat.le_refl _) (by decide)) H)
    (by
      intro n i _ hi _ hn
      have hc : (nI i).toNatClampNeg = i := nI_clamp (by omega)
      refine br_f (nI_ge (b := 8) hi (by decide)) ⟨pk_in i 8 hi, nm_r (e' := fun j => nI (fm_pf pr 0 (i + 1) j)) ?_ (nm_r (nI_1 i) (hn () trivial))⟩
      rw [hc, ← fm_pfs]
      exact fm_updI)
  have key := loop_0 (fun n i (_ : Unit) => wX_forget_2 post (fm_a act) (lN ns) (nI sp) n (nI i) (fun zz => nI (k zz)) (fun zz => nI (o zz)) c (fun zz => lN (s zz)) (fun zz => fm_w ((fm_pf w 32 i) zz)) (fun zz => nI (pr zz))) (fun _ _ => True) 12 () trivial
    (by
      intro n _ _
      refine br_t (nI_le (a := 12) (b := 12) (Nat.le_refl _) (by decide)) ?_
      obtain ⟨n2, hn2⟩ := key2
      refine ⟨n2, ?_⟩
      have hn2 : wX_forget_23 post (fm_a act) (lN ns) (nI sp) n2 (nI 0) (fun zz => nI (k zz)) (fun zz => nI (o zz)) c (fun zz => lN (s zz)) (fun zz => fm_w ((fm_pf w 32 12) zz)) (fun zz => nI ((fm_pf pr 0 0) zz)) := hn2
      rw [fm_pf0] at hn2
      exact hn2)
    (by
      intro n i _ hi _ hn
      have hc : (nI i).toNatClampNeg = i := nI_clamp (by omega)
      refine br_f (nI_ge (b := 12) hi (by decide)) ⟨pk_in i 12 hi, nm_r (e' := fun j => fm_w (fm_pf w 32 (i + 1) j)) ?_ (nm_r (nI_1 i) (hn () trivial))⟩
      rw [hc, ← fm_pfs]
      exact fm_updM)
  obtain ⟨n, hn⟩ := key
  refine ⟨n, ?_⟩
  have hn : wX_forget_2 post (fm_a act) (lN ns) (nI sp) n (nI 0) (fun zz => nI (k zz)) (fun zz => nI (o zz)) c (fun zz => lN (s zz)) (fun zz => fm_w ((fm_pf w 32 0) zz)) (fun zz => nI (pr zz)) := hn
  rw [fm_pf0] at hn
  exact hn
theorem xw_t54 {k o : Nat → Nat} {c : Nat → Int32} {s w pr : Nat → Nat} {act sp : Nat} {post : SX → Prop} {i n' : Nat} (hi : i < 32) (hs : s i < 2 ^ 31) (hn : n' < 2 ^ 31) (h0 : s i < n' → post (fm_st k o c s w pr act n' sp)) (h1 : n' ≤ s i → post (fm_st k o c s w pr act (s i + 1) sp)) : wX_takeIn_54 post (nI i) (fm_a act) (lN n') (nI sp) (fun zz => nI (k zz)) (fun zz => nI (o zz)) c (fun zz => lN (s zz)) (fun zz => fm_w (w zz)) (fun zz => nI (pr zz)) := by
  unfold wX_takeIn_54
  have hc : (nI i).toNatClampNeg = i := nI_clamp (by omega)
  refine ⟨pk_in i 32 hi, ?_⟩
  dsimp only
  rw [hc]
  by_cases l : s i < n'
  · exact br_t ((lN_lt hs hn).mpr l) (h0 l)
  · exact br_f (fun z => l ((lN_lt hs hn).mp z)) ⟨pk_in i 32 hi, nm_r (lN_1 (s i)) (h1 (by omega))⟩
theorem xw_t47 {k o : Nat → Nat} {c : Nat → Int32} {s w pr : Nat → Nat} {act sp : Nat} {post : SX → Prop} {i n' p : Nat} (hi : i < 32) (hp : p < 12) (hs : s i < 2 ^ 31) (hn : n' < 2 ^ 31) (h0 : s i < n' → post (fm_st k o c s (fm_u w p i) pr act n' sp)) (h1 : n' ≤ s i → post (fm_st k o c s (fm_u w p i) pr act (s i + 1) sp)) : wX_takeIn_47 post (nI i) (nI p) (fm_a act) (lN n') (nI sp) (fun zz => nI (k zz)) (fun zz => nI (o zz)) c (fun zz => lN (s zz)) (fun zz => fm_w (w zz)) (fun zz => nI (pr zz)) := by
  unfold wX_takeIn_47
  refine ⟨pk_in p 12 hp, nm_r (e' := fun j => fm_w (fm_u w p i j)) ?_ (xw_t54 hi hs hn h0 h1)⟩
  rw [nI_clamp (show p < 2 ^ 31 by omega)]
  exact fm_updW hi
theorem xw_take {k o : Nat → Nat} {c : Nat → Int32} {s w w' pr P : Nat → Nat} {act ns n' sp i A : Nat} {post : SX → Prop} (hA : fm_A k o s w pr act ns) (hns : ns < 2 ^ 31) (hi : i < 32) (hl : k i = 1 ∨ k i = 2) (hS : fm_S k o s w w' i) (h1 : 1 ≤ n') (hn : n' ≤ ns) (hj : ∀ j, j < i → (k j = 1 ∨ k j = 2) → s j < n')
    (H : ∀ (w2 : Nat → Nat) (n2 : Nat), fm_S k o s w w2 (i + 1) → 1 ≤ n2 → n2 ≤ ns → (∀ j, j < i + 1 → (k j = 1 ∨ k j = 2) → s j < n2) → post (fm_st k o c s w2 P A n2 sp)) : wpX_takeIn post (fm_st k o c s w' P A n' sp) (nI i) := by
  obtain ⟨a1, a2, a3, a4, a5, a6, a7, a8, a9⟩ := hA
  have hc : (nI i).toNatClampNeg = i := nI_clamp (by omega)
  have ho := (a4 i hi hl).1
  have hs := (a4 i hi hl).2
  have hco : (nI (o i)).toNatClampNeg = o i := nI_clamp (by omega)
  have H0 : ∀ w2, fm_S k o s w w2 (i + 1) → s i < n' → post (fm_st k o c s w2 P A n' sp) := by
    intro w2 h2 l
    refine H w2 n' h2 h1 hn (fun j hj2 hjl => ?_)
    by_cases z : j = i
    · rw [z]; exact l
    · exact hj j (by omega) hjl
  have H1 : ∀ w2, fm_S k o s w w2 (i + 1) → n' ≤ s i → post (fm_st k o c s w2 P A (s i + 1) sp) := by
    intro w2 h2 l
    refine H w2 (s i + 1) h2 (by omega) (by omega) (fun j hj2 hjl => ?_)
    by_cases z : j = i
    · rw [z]; omega
    · have := hj j (by omega) hjl
      omega
  unfold wpX_takeIn
  dsimp only
  refine ⟨pk_in i 32 hi, nm_r (e' := nI (o i)) (by rw [hc]) (xw_out0 ho (br_t rfl ⟨pk_in (o i) 12 ho, ?_⟩))⟩
  rw [hco]
  by_cases e : w' (o i) = 32
  · have hS2 := fm_St hS hi hl ho (Or.inl e)
    exact br_t (by rw [e]; exact fm_w32) (xw_t47 hi ho (by omega) (by omega) (H0 _ hS2) (H1 _ hS2))
  · have t := hS.1 (o i) ho
    have hw : w' (o i) < i := by
      rcases t with t | t
      · exact absurd t.1 e
      · exact t.1
    have hlv : k (w' (o i)) = 1 ∨ k (w' (o i)) = 2 := by
      rcases t with t | t
      · exact absurd t.1 e
      · exact t.2.1
    have hs2 := (a4 (w' (o i)) (by omega) hlv).2
    refine br_f (fm_wm (by omega)) ⟨pk_in (o i) 12 ho, fm_win (by omega), pk_in i 32 hi, ?_⟩
    rw [hc, fm_wc (show w' (o i) < 32 by omega)]
    by_cases l : s i ≤ s (w' (o i))
    · have hS2 := fm_Sf hS hl ho e l
      exact br_t ((lN_le (by omega) (by omega)).mpr l) (xw_t54 hi (by omega) (by omega) (H0 _ hS2) (H1 _ hS2))
    · have hS2 := fm_St hS hi hl ho (Or.inr (by omega))
      exact br_f (fun z => l ((lN_le (by omega) (by omega)).mp z)) (xw_t47 hi ho (by omega) (by omega) (H0 _ hS2) (H1 _ hS2))
theorem xw_s33 {k o : Nat → Nat} {c : Nat → Int32} {s w w' pr P : Nat → Nat} {act ns n' sp i A : Nat} {post : SX → Prop} {J : Int32 → Int32 → Int64 → Int32 → (Nat → Int32) → (Nat → Int32) → (Nat → Int32) → (Nat → Int64) → (Nat → Int32) → (Nat → Int32) → Prop} (hA : fm_A k o s w pr act ns) (hns : ns < 2 ^ 31) (hi : i < 32) (hS : fm_S k o s w w' i) (h1 : 1 ≤ n') (hn : n' ≤ ns) (hj : ∀ j, j < i → (k j = 1 ∨ k j = 2) → s j < n')
    (H : ∀ (w2 : Nat → Nat) (n2 : Nat), fm_S k o s w w2 (i + 1) → 1 ≤ n2 → n2 ≤ ns → (∀ j, j < i + 1 → (k j = 1 ∨ k j = 2) → s j < n2) → J (nI (i + 1)) (fm_a A) (lN n2) (nI sp) (fun zz => nI (k zz)) (fun zz => nI (o zz)) c (fun zz => lN (s zz)) (fun zz => fm_w (w2 zz)) (fun zz => nI (P zz))) : wX_start_33 post J (nI i) (fm_a A) (lN n') (nI sp) (fun zz => nI (k zz)) (fun zz => nI (o zz)) c (fun zz => lN (s zz)) (fun zz => fm_w (w' zz)) (fun zz => nI (P zz)) := by
  have hk := (hA.1 i hi).1
  have hc : (nI i).toNatClampNeg = i := nI_clamp (by omega)
  have T : (k i = 1 ∨ k i = 2) → wX_start_53 post J (nI i) (fm_a A) (lN n') (nI sp) (fun zz => nI (k zz)) (fun zz => nI (o zz)) c (fun zz => lN (s zz)) (fun zz => fm_w (w' zz)) (fun zz => nI (P zz)) := by
    intro hl
    unfold wX_start_53
    refine xw_take hA hns hi hl hS h1 hn hj (fun w2 n2 b1 b2 b3 b4 => ?_)
    exact nm_r (nI_1 i) (H w2 n2 b1 b2 b3 b4)
  unfold wX_start_33
  refine ⟨pk_in i 32 hi, ?_⟩
  dsimp only
  rw [hc]
  refine pk_eq (k i) 1 (fun e => T (Or.inl e)) (fun e => ⟨pk_in i 32 hi, ?_⟩)
  refine pk_eq (k i) 2 (fun e2 => T (Or.inr e2)) (fun e2 => ?_)
  have hnl : ¬ (k i = 1 ∨ k i = 2) := by omega
  refine nm_r (nI_1 i) (H w' n' (fm_Sn hS hnl) h1 hn (fun j hj2 hjl => ?_))
  by_cases z : j = i
  · rw [z] at hjl; exact absurd hjl hnl
  · exact hj j (by omega) hjl
theorem xw_last {k o : Nat → Nat} {c : Nat → Int32} {s w pr : Nat → Nat} {ns sp : Nat} {post : SX → Prop} (hp : ∀ b, b < 8 → pr b ≤ 4) (H : ∀ a, (a = 8 ∧ ∀ b, b < 8 → ¬ (0 < pr b ∧ pr b < 4)) ∨ (a < 8 ∧ 0 < pr a ∧ pr a < 4) → post (fm_st k o c s w pr a ns sp)) : ∃ n, wX_start_66 post (lN ns) (nI sp) (fun zz => nI (k zz)) (fun zz => nI (o zz)) c (fun zz => lN (s zz)) (fun zz => fm_w (w zz)) (fun zz => nI (pr zz)) n 0 (fm_a 8) := by
  refine loop_0 (fun n i (a : Nat) => wX_start_66 post (lN ns) (nI sp) (fun zz => nI (k zz)) (fun zz => nI (o zz)) c (fun zz => lN (s zz)) (fun zz => fm_w (w zz)) (fun zz => nI (pr zz)) n (nI i) (fm_a a)) (fun i a => (a = 8 ∧ ∀ b, b < i → ¬ (0 < pr b ∧ pr b < 4)) ∨ (a < i ∧ 0 < pr a ∧ pr a < 4)) 8 8 (Or.inl ⟨rfl, fun b hb => absurd hb (by omega)⟩) ?_ ?_
  · intro n a ha
    exact br_t (nI_le (a := 8) (b := 8) (Nat.le_refl _) (by decide)) (H a ha)
  · intro n i a hi ha hn
    have hc : (nI i).toNatClampNeg = i := nI_clamp (by omega)
    have hpi := hp i hi
    have K : ¬ (0 < pr i ∧ pr i < 4) → wX_start_66 post (lN ns) (nI sp) (fun zz => nI (k zz)) (fun zz => nI (o zz)) c (fun zz => lN (s zz)) (fun zz => fm_w (w zz)) (fun zz => nI (pr zz)) n (nI (i + 1)) (fm_a a) := by
      intro hne
      refine hn a ?_
      rcases ha with ⟨e1, e2⟩ | ⟨e1, e2, e3⟩
      · refine Or.inl ⟨e1, fun b hb => ?_⟩
        by_cases z : b = i
        · rw [z]; exact hne
        · exact e2 b (by omega)
      · exact Or.inr ⟨by omega, e2, e3⟩
    refine br_f (nI_ge (b := 8) hi (by decide)) ⟨pk_in i 8 hi, ?_⟩
    refine pk_le (pr i) 0 (fun l => nm_r (nI_1 i) (K (by omega))) (fun l => ⟨pk_in i 8 hi, ?_⟩) (congrArg (fun j => nI (pr j)) hc) rfl
    refine pk_le 4 (pr i) (fun l4 => nm_r (nI_1 i) (K (by omega))) (fun l4 => nm_r (nI_1 i) ?_) rfl (congrArg (fun j => nI (pr j)) hc)
    have t : wX_start_66 post (lN ns) (nI sp) (fun zz => nI (k zz)) (fun zz => nI (o zz)) c (fun zz => lN (s zz)) (fun zz => fm_w (w zz)) (fun zz => nI (pr zz)) n (nI (i + 1)) (fm_a i) := hn i (Or.inr ⟨by omega, l, l4⟩)
    rw [fm_al hi] at t
    exact t
theorem xw_scan {k o : Nat → Nat} {c : Nat → Int32} {s w pr : Nat → Nat} {act ns sp : Nat} {post : SX → Prop} (hA : fm_A k o s w pr act ns) (hns : ns < 2 ^ 31)
    (H : ∀ (a n : Nat), fm_A k o s w pr a n → fm_ez pr act 8 ≤ fm_ez pr a 8 → n ≤ ns → post (fm_st k o c s w pr a n sp)) :
    ∀ (d i : Nat) (w' : Nat → Nat) (n' : Nat), i + d = 32 → fm_S k o s w w' i → 1 ≤ n' → n' ≤ ns → (∀ j, j < i → (k j = 1 ∨ k j = 2) → s j < n') → wX_start_6 post (d + 1) (nI i) (fm_a 8) (lN n') (nI sp) (fun zz => nI (k zz)) (fun zz => nI (o zz)) c (fun zz => lN (s zz)) (fun zz => fm_w (w' zz)) (fun zz => nI ((fm_pc pr i) zz)) := by
  have hA2 := hA
  obtain ⟨a1, a2, a3, a4, a5, a6, a7, a8, a9⟩ := hA2
  have hp4 : ∀ b, pr b ≤ 4 := by
    intro b
    by_cases hb : b < 8
    · exact a2 b hb
    · rw [a3 b (by omega)]; omega
  intro d
  induction d with
  | zero =>
    intro i w' n' hid hS h1 hn hj
    have hi : i = 32 := by omega
    rw [hi] at hS hj ⊢
    refine br_t (nI_le (a := 32) (b := 32) (Nat.le_refl _) (by decide)) ?_
    rw [fm_S32 hA hS, fm_pc32 a2 a3]
    refine xw_last a2 (fun a ha => ?_)
    have t := fm_fin hA ha h1 hj
    exact H a n' t.1 t.2 hn
  | succ d ih =>
    intro i w' n' hid hS h1 hn hj
    have hi : i < 32 := by omega
    have hc : (nI i).toNatClampNeg = i := nI_clamp (by omega)
    have hki := a1 i hi
    have hb : i / 4 < 8 := by omega
    have ed : nI i / 4 = nI (i / 4) := pk_div (d := 4) (by omega) (by decide) (by decide)
    refine br_f (nI_ge (b := 32) hi (by decide)) ⟨pk_in i 32 hi, ?_⟩
    refine pk_eq (k i) 0 (fun e => ?_) (fun e => ?_) (congrArg (fun j => nI (k j)) hc) rfl
    · have ep := fm_pcn hp4 (hki.2.mp e)
      rw [← ep]
      exact xw_s33 hA hns hi hS h1 hn hj (fun w2 n2 b1 b2 b3 b4 => ih (i + 1) w2 n2 (by omega) b1 b2 b3 b4)
    · have ep := fm_pcs hp4 (show i % 4 < pr (i / 4) by omega)
      refine ⟨by decide, ?_⟩
      rw [ed]
      refine ⟨pk_in (i / 4) 8 hb, pk_in (i / 4) 8 hb, nm_r (e' := fun j => nI (fm_pc pr (i + 1) j)) ?_ ?_⟩
      · rw [nI_clamp (show i / 4 < 2 ^ 31 by omega), nI_1, ep]
        exact fm_updI
      · exact xw_s33 hA hns hi hS h1 hn hj (fun w2 n2 b1 b2 b3 b4 => ih (i + 1) w2 n2 (by omega) b1 b2 b3 b4)
theorem xw_start0 {k o : Nat → Nat} {c : Nat → Int32} {s w pr : Nat → Nat} {act ns sp : Nat} {post : SX → Prop} {w0 pr0 : Nat → Nat} {act0 ns0 : Nat} (hA : fm_A k o s w pr act ns) (hns : ns < 2 ^ 31) (hw0 : ∀ p, 12 ≤ p → w0 p = w p) (hp0 : ∀ b, 8 ≤ b → pr0 b = 0)
    (H : ∀ (a n : Nat), fm_A k o s w pr a n → fm_ez pr act 8 ≤ fm_ez pr a 8 → n ≤ ns → post (fm_st k o c s w pr a n sp)) : wpX_start post (fm_st k o c s w0 pr0 act0 ns0 sp) := by
  unfold wpX_start
  dsimp only
  refine xw_forget ?_
  have e : fm_pf pr0 0 8 = fm_pc pr 0 := by
    rw [fm_pc0]
    funext b
    show (if b < 8 then 0 else pr0 b) = 0
    by_cases l : b < 8
    · rw [if_pos l]
    · rw [if_neg l]; exact hp0 b (by omega)
  rw [e]
  refine ⟨33, xw_scan hA hns H 32 0 (fm_pf w0 32 12) 1 rfl (fm_S0 (fun p hp => if_pos hp) (fun p hp => ?_)) (Nat.le_refl 1) hA.2.2.2.2.2.2.2.2 (fun j hj => absurd hj (by omega))⟩
  exact (if_neg (show ¬ p < 12 by omega)).trans (hw0 p hp)
theorem xw_start {post : SX → Prop} {u : SX} {m : Nat → Option Int32} {n : Nat} (G : fm_G n m u) (hn31 : n < 2 ^ 31) (H : ∀ u', fm_G n m u' → post u') : wpX_start post u := by
  obtain ⟨k, o, c, s, w, pr, act, ns, sp, rfl, hA, h1, h3, hz, hn, hv⟩ := G
  refine xw_start0 hA (by omega) (fun p _ => rfl) hA.2.2.1 (fun a n' hA' hz' hn' => H _ ?_)
  exact ⟨k, o, c, s, w, pr, a, n', sp, rfl, hA', h1, h3, by omega, by omega, hv⟩
