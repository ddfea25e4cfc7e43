/-! what holds of the flash and of the working memory between two steps -/
def fm_A (k o s w pr : Nat → Nat) (act ns : Nat) : Prop :=
  (∀ i, i < 32 → k i ≤ 3 ∧ (k i = 0 ↔ pr (i / 4) ≤ i % 4)) ∧
  (∀ b, b < 8 → pr b ≤ 4) ∧ (∀ b, 8 ≤ b → pr b = 0) ∧
  (∀ i, i < 32 → (k i = 1 ∨ k i = 2) → o i < 12 ∧ s i < ns) ∧
  (∀ p, p < 12 → w p ≤ 32 ∧ (w p < 32 → (k (w p) = 1 ∨ k (w p) = 2) ∧ o (w p) = p)) ∧
  (∀ i, i < 32 → (k i = 1 ∨ k i = 2) → w (o i) < 32 ∧ (i = w (o i) ∨ s i < s (w (o i)))) ∧
  (∀ b, b < 8 → b ≠ act → pr b = 0 ∨ pr b = 4) ∧ act ≤ 8 ∧ 1 ≤ ns
/-- a record of a value or of a lack -/
theorem fm_prog {k o s w pr : Nat → Nat} {act ns p kd a : Nat} (h : fm_A k o s w pr act ns) (ha : act < 8) (hr : pr act < 4) (hp : p < 12) (hk : kd = 1 ∨ kd = 2) (ea : a = 4 * act + pr act) :
    fm_A (fm_u k a kd) (fm_u o a p) (fm_u s a ns) (fm_u w p a) (fm_u pr act (pr act + 1)) act (ns + 1) := by
  obtain ⟨h1, h2, h3, h4, h5, h6, h7, h8, h9⟩ := h
  have e1 : a / 4 = act := by omega
  have e2 : a % 4 = pr act := by omega
  have hA : a < 32 := by omega
  have hk0 : k a = 0 := (h1 a hA).2.mpr (by rw [e1, e2]; exact Nat.le_refl _)
  have hne : ∀ q, q < 12 → w q < 32 → w q ≠ a := by
    intro q hq hw z
    have t := ((h5 q hq).2 hw).1
    rw [z] at t
    omega
  refine ⟨?_, ?_, ?_, ?_, ?_, ?_, ?_, h8, by omega⟩
  · intro i hi
    by_cases e : i = a
    · rw [e, fm_us (f := k), e1, fm_us (f := pr), e2] <;> omega
    · rw [fm_un (f := k) e]
      have t := h1 i hi
      by_cases e3 : i / 4 = act
      · rw [e3, fm_us (f := pr)]; rw [e3] at t; omega
      · rw [fm_un (f := pr) e3]; exact t
  · intro b hb
    by_cases e : b = act
    · rw [e, fm_us (f := pr)] <;> omega
    · rw [fm_un (f := pr) e]; exact h2 b hb
  · intro b hb
    rw [fm_un (f := pr) (show b ≠ act by omega)]; exact h3 b hb
  · intro i hi hl
    by_cases e : i = a
    · rw [e, fm_us (f := o), fm_us (f := s)] <;> omega
    · rw [fm_un (f := k) e] at hl
      rw [fm_un (f := o) e, fm_un (f := s) e]
      have t := h4 i hi hl
      omega
  · intro q hq
    by_cases e : q = p
    · rw [e, fm_us (f := w), fm_us (f := k), fm_us (f := o)]
      exact ⟨by omega, fun _ => ⟨hk, rfl⟩⟩
    · rw [fm_un (f := w) e]
      have t := h5 q hq
      refine ⟨t.1, fun hw => ?_⟩
      rw [fm_un (f := k) (hne q hq hw), fm_un (f := o) (hne q hq hw)]
      exact t.2 hw
  · intro i hi hl
    by_cases e : i = a
    · rw [e, fm_us (f := o), fm_us (f := w)]
      exact ⟨hA, Or.inl rfl⟩
    · rw [fm_un (f := k) e] at hl
      rw [fm_un (f := o) e, fm_un (f := s) e]
      have t := h6 i hi hl
      have t4 := h4 i hi hl
      by_cases e5 : o i = p
      · rw [e5, fm_us (f := w), fm_us (f := s)]
        exact ⟨hA, Or.inr t4.2⟩
      · rw [fm_un (f := w) e5, fm_un (f := s) (hne _ t4.1 t.1)]
        exact t
  · intro b hb hb2
    rw [fm_un (f := pr) hb2]; exact h7 b hb hb2
/-- a spoiled record -/
theorem fm_prog3 {k o s w pr : Nat → Nat} {act ns p a : Nat} (h : fm_A k o s w pr act ns) (ha : act < 8) (hr : pr act < 4) (ea : a = 4 * act + pr act) :
    fm_A (fm_u k a 3) (fm_u o a p) (fm_u s a ns) w (fm_u pr act (pr act + 1)) act (ns + 1) := by
  obtain ⟨h1, h2, h3, h4, h5, h6, h7, h8, h9⟩ := h
  have e1 : a / 4 = act := by omega
  have e2 : a % 4 = pr act := by omega
  have hA : a < 32 := by omega
  have hk0 : k a = 0 := (h1 a hA).2.mpr (by rw [e1, e2]; exact Nat.le_refl _)
  have hne : ∀ q, q < 12 → w q < 32 → w q ≠ a := by
    intro q hq hw z
    have t := ((h5 q hq).2 hw).1
    rw [z] at t
    omega
  refine ⟨?_, ?_, ?_, ?_, ?_, ?_, ?_, h8, by omega⟩
  · intro i hi
    by_cases e : i = a
    · rw [e, fm_us (f := k), e1, fm_us (f := pr), e2] <;> omega
    · rw [fm_un (f := k) e]
      have t := h1 i hi
      by_cases e3 : i / 4 = act
      · rw [e3, fm_us (f := pr)]; rw [e3] at t; omega
      · rw [fm_un (f := pr) e3]; exact t
  · intro b hb
    by_cases e : b = act
    · rw [e, fm_us (f := pr)] <;> omega
    · rw [fm_un (f := pr) e]; exact h2 b hb
  · intro b hb
    rw [fm_un (f := pr) (show b ≠ act by omega)]; exact h3 b hb
  · intro i hi hl
    by_cases e : i = a
    · rw [e, fm_us (f := k)] at hl; omega
    · rw [fm_un (f := k) e] at hl
      rw [fm_un (f := o) e, fm_un (f := s) e]
      have t := h4 i hi hl
      omega
  · intro q hq
    have t := h5 q hq
    refine ⟨t.1, fun hw => ?_⟩
    rw [fm_un (f := k) (hne q hq hw), fm_un (f := o) (hne q hq hw)]
    exact t.2 hw
  · intro i hi hl
    by_cases e : i = a
    · rw [e, fm_us (f := k)] at hl; omega
    · rw [fm_un (f := k) e] at hl
      rw [fm_un (f := o) e, fm_un (f := s) e]
      have t := h6 i hi hl
      have t4 := h4 i hi hl
      rw [fm_un (f := s) (hne _ t4.1 t.1)]
      exact t
  · intro b hb hb2
    rw [fm_un (f := pr) hb2]; exact h7 b hb hb2
theorem fm_erase {k o s w pr : Nat → Nat} {act ns b : Nat} (h : fm_A k o s w pr act ns) (hb : b < 8) (hw : ∀ q, q < 12 → w q / 4 ≠ b) :
    fm_A (fm_e k b) (fm_e o b) (fm_e s b) w (fm_u pr b 0) act ns := by
  obtain ⟨h1, h2, h3, h4, h5, h6, h7, h8, h9⟩ := h
  refine ⟨?_, ?_, ?_, ?_, ?_, ?_, ?_, h8, h9⟩
  · intro i hi
    by_cases e : i / 4 = b
    · rw [fm_ep (f := k) e, e, fm_us (f := pr)] <;> omega
    · rw [fm_en (f := k) e, fm_un (f := pr) e]; exact h1 i hi
  · intro c hc
    by_cases e : c = b
    · rw [e, fm_us (f := pr)] <;> omega
    · rw [fm_un (f := pr) e]; exact h2 c hc
  · intro c hc
    rw [fm_un (f := pr) (show c ≠ b by omega)]; exact h3 c hc
  · intro i hi hl
    by_cases e : i / 4 = b
    · rw [fm_ep (f := k) e] at hl; omega
    · rw [fm_en (f := k) e] at hl
      rw [fm_en (f := o) e, fm_en (f := s) e]; exact h4 i hi hl
  · intro q hq
    rw [fm_en (f := k) (hw q hq), fm_en (f := o) (hw q hq)]; exact h5 q hq
  · intro i hi hl
    by_cases e : i / 4 = b
    · rw [fm_ep (f := k) e] at hl; omega
    · rw [fm_en (f := k) e] at hl
      have t4 := h4 i hi hl
      rw [fm_en (f := o) e, fm_en (f := s) e, fm_en (f := s) (hw _ t4.1)]; exact h6 i hi hl
  · intro c hc hca
    by_cases e : c = b
    · rw [e, fm_us (f := pr)]; exact Or.inl rfl
    · rw [fm_un (f := pr) e]; exact h7 c hc hca
/-- another block is in use, the one before having no page left -/
theorem fm_take {k o s w pr : Nat → Nat} {act ns a : Nat} (h : fm_A k o s w pr act ns) (hf : act < 8 → pr act = 4) (ha : a < 8) :
    fm_A k o s w pr a ns := by
  obtain ⟨h1, h2, h3, h4, h5, h6, h7, h8, h9⟩ := h
  refine ⟨h1, h2, h3, h4, h5, h6, ?_, by omega, h9⟩
  intro b hb _
  by_cases e : b = act
  · exact Or.inr (by rw [e]; exact hf (by omega))
  · exact h7 b hb e
/-- what the scan of the first i flash pages has found -/
def fm_S (k o s w w' : Nat → Nat) (i : Nat) : Prop :=
  (∀ p, p < 12 → (w' p = 32 ∧ ∀ j, j < i → (k j = 1 ∨ k j = 2) → o j ≠ p) ∨ (w' p < i ∧ (k (w' p) = 1 ∨ k (w' p) = 2) ∧ o (w' p) = p ∧ ∀ j, j < i → (k j = 1 ∨ k j = 2) → o j = p → s j ≤ s (w' p))) ∧
  (∀ p, 12 ≤ p → w' p = w p)
theorem fm_S0 {k o s w w' : Nat → Nat} (h1 : ∀ p, p < 12 → w' p = 32) (h2 : ∀ p, 12 ≤ p → w' p = w p) : fm_S k o s w w' 0 :=
  ⟨fun p hp => Or.inl ⟨h1 p hp, fun j hj => absurd hj (by omega)⟩, h2⟩
theorem fm_Sn {k o s w w' : Nat → Nat} {i : Nat} (h : fm_S k o s w w' i) (hn : ¬ (k i = 1 ∨ k i = 2)) : fm_S k o s w w' (i + 1) := by
  refine ⟨fun p hp => ?_, h.2⟩
  rcases h.1 p hp with ⟨e, t⟩ | ⟨e, t1, t2, t3⟩
  · refine Or.inl ⟨e, fun j hj hl => ?_⟩
    by_cases z : j = i
    · rw [z] at hl; exact absurd hl hn
    · exact t j (by omega) hl
  · refine Or.inr ⟨by omega, t1, t2, fun j hj hl => ?_⟩
    by_cases z : j = i
    · rw [z] at hl; exact absurd hl hn
    · exact t3 j (by omega) hl
theorem fm_St {k o s w w' : Nat → Nat} {i : Nat} (h : fm_S k o s w w' i) (hi : i < 32) (hl : k i = 1 ∨ k i = 2) (ho : o i < 12) (hc : w' (o i) = 32 ∨ s (w' (o i)) < s i) : fm_S k o s w (fm_u w' (o i) i) (i + 1) := by
  refine ⟨fun p hp => ?_, fun p hp => ?_⟩
  · by_cases e : p = o i
    · rw [e, fm_us (f := w')]
      refine Or.inr ⟨by omega, hl, rfl, fun j hj hjl hjo => ?_⟩
      by_cases z : j = i
      · rw [z]; exact Nat.le_refl _
      · rcases h.1 (o i) ho with ⟨_, t⟩ | ⟨e2, t1, t2, t3⟩
        · exact absurd hjo (t j (by omega) hjl)
        · have t4 := t3 j (by omega) hjl hjo
          omega
    · rw [fm_un (f := w') e]
      rcases h.1 p hp with ⟨e2, t⟩ | ⟨e2, t1, t2, t3⟩
      · refine Or.inl ⟨e2, fun j hj hjl => ?_⟩
        by_cases z : j = i
        · rw [z]; exact fun y => e y.symm
        · exact t j (by omega) hjl
      · refine Or.inr ⟨by omega, t1, t2, fun j hj hjl hjo => ?_⟩
        by_cases z : j = i
        · rw [z] at hjo; exact absurd hjo.symm e
        · exact t3 j (by omega) hjl hjo
  · rw [fm_un (f := w') (show p ≠ o i by omega)]; exact h.2 p hp
theorem fm_Sf {k o s w w' : Nat → Nat} {i : Nat} (h : fm_S k o s w w' i) (hl : k i = 1 ∨ k i = 2) (ho : o i < 12) (hc : w' (o i) ≠ 32) (hs : s i ≤ s (w' (o i))) : fm_S k o s w w' (i + 1) := by
  refine ⟨fun p hp => ?_, h.2⟩
  rcases h.1 p hp with ⟨e, t⟩ | ⟨e, t1, t2, t3⟩
  · refine Or.inl ⟨e, fun j hj hjl => ?_⟩
    by_cases z : j = i
    · rw [z]; intro y; rw [y] at hc; exact hc e
    · exact t j (by omega) hjl
  · refine Or.inr ⟨by omega, t1, t2, fun j hj hjl hjo => ?_⟩
    by_cases z : j = i
    · rw [z] at hjo ⊢; rw [hjo] at hs; exact hs
    · exact t3 j (by omega) hjl hjo
theorem fm_S32 {k o s w w' pr : Nat → Nat} {act ns : Nat} (h : fm_A k o s w pr act ns) (hS : fm_S k o s w w' 32) : w' = w := by
  obtain ⟨h1, h2, h3, h4, h5, h6, h7, h8, h9⟩ := h
  funext p
  by_cases hp : p < 12
  · have t5 := h5 p hp
    rcases hS.1 p hp with ⟨e, t⟩ | ⟨e, t1, t2, t3⟩
    · by_cases hw : w p < 32
      · have t6 := t5.2 hw
        exact absurd t6.2 (t (w p) hw t6.1)
      · omega
    · have t6 := h6 (w' p) e t1
      rw [t2] at t6
      have t7 := t5.2 t6.1
      have t8 := t3 (w p) t6.1 t7.1 t7.2
      omega
  · exact hS.2 p (by omega)
/-- the count of the block's programmed pages among the first i flash pages -/
def fm_pc (pr : Nat → Nat) (i : Nat) : Nat → Nat := fun b => if pr b ≤ i - 4 * b then pr b else i - 4 * b
theorem fm_pc0 {pr : Nat → Nat} : fm_pc pr 0 = fun _ => 0 := by
  funext b
  show (if pr b ≤ 0 - 4 * b then pr b else 0 - 4 * b) = 0
  by_cases h : pr b ≤ 0 - 4 * b
  · rw [if_pos h] <;> omega
  · rw [if_neg h] <;> omega
theorem fm_pc32 {pr : Nat → Nat} (h2 : ∀ b, b < 8 → pr b ≤ 4) (h3 : ∀ b, 8 ≤ b → pr b = 0) : fm_pc pr 32 = pr := by
  funext b
  show (if pr b ≤ 32 - 4 * b then pr b else 32 - 4 * b) = pr b
  by_cases hb : b < 8
  · have t := h2 b hb
    rw [if_pos (show pr b ≤ 32 - 4 * b by omega)]
  · have t := h3 b (by omega)
    rw [if_pos (show pr b ≤ 32 - 4 * b by omega)]
theorem fm_pcn {pr : Nat → Nat} {i : Nat} (h2 : ∀ b, pr b ≤ 4) (h : pr (i / 4) ≤ i % 4) : fm_pc pr (i + 1) = fm_pc pr i := by
  funext b
  show (if pr b ≤ i + 1 - 4 * b then pr b else i + 1 - 4 * b) = (if pr b ≤ i - 4 * b then pr b else i - 4 * b)
  have t := h2 b
  by_cases e : b = i / 4
  · rw [← e] at h
    rw [if_pos (show pr b ≤ i + 1 - 4 * b by omega), if_pos (show pr b ≤ i - 4 * b by omega)]
  · by_cases l : pr b ≤ i - 4 * b
    · rw [if_pos l, if_pos (show pr b ≤ i + 1 - 4 * b by omega)]
    · rw [if_neg l, if_neg (show ¬ pr b ≤ i + 1 - 4 * b by omega)] <;> omega
theorem fm_pcs {pr : Nat → Nat} {i : Nat} (h2 : ∀ b, pr b ≤ 4) (h : i % 4 < pr (i / 4)) : fm_pc pr (i + 1) = fm_u (fm_pc pr i) (i / 4) (fm_pc pr i (i / 4) + 1) := by
  funext b
  by_cases e : b = i / 4
  · rw [e, fm_us (f := fm_pc pr i)]
    show (if pr (i / 4) ≤ i + 1 - 4 * (i / 4) then pr (i / 4) else i + 1 - 4 * (i / 4)) = (if pr (i / 4) ≤ i - 4 * (i / 4) then pr (i / 4) else i - 4 * (i / 4)) + 1
    rw [if_neg (show ¬ pr (i / 4) ≤ i - 4 * (i / 4) by omega)]
    by_cases l : pr (i / 4) ≤ i + 1 - 4 * (i / 4)
    · rw [if_pos l] <;> omega
    · rw [if_neg l] <;> omega
  · rw [fm_un (f := fm_pc pr i) e]
    show (if pr b ≤ i + 1 - 4 * b then pr b else i + 1 - 4 * b) = (if pr b ≤ i - 4 * b then pr b else i - 4 * b)
    have t := h2 b
    by_cases l : pr b ≤ i - 4 * b
    · rw [if_pos l, if_pos (show pr b ≤ i + 1 - 4 * b by omega)]
    · rw [if_neg l, if_neg (show ¬ pr b ≤ i + 1 - 4 * b by omega)] <;> omega
/-- what start finds again -/
theorem fm_fin {k o s w pr : Nat → Nat} {act ns a n : Nat} (h : fm_A k o s w pr act ns) (ha : (a = 8 ∧ ∀ b, b < 8 → ¬ (0 < pr b ∧ pr b < 4)) ∨ (a < 8 ∧ 0 < pr a ∧ pr a < 4)) (hn : 1 ≤ n) (hs : ∀ i, i < 32 → (k i = 1 ∨ k i = 2) → s i < n) :
    fm_A k o s w pr a n ∧ fm_ez pr act 8 ≤ fm_ez pr a 8 := by
  obtain ⟨h1, h2, h3, h4, h5, h6, h7, h8, h9⟩ := h
  have h4' : ∀ i, i < 32 → (k i = 1 ∨ k i = 2) → o i < 12 ∧ s i < n := fun i hi hl => ⟨(h4 i hi hl).1, hs i hi hl⟩
  rcases ha with ⟨e, hb⟩ | ⟨e, e2, e3⟩
  · refine ⟨⟨h1, h2, h3, h4', h5, h6, ?_, by omega, hn⟩, by rw [e]; exact fm_ez_8 pr act 8 (Nat.le_refl 8)⟩
    intro b hb8 _
    have t := hb b hb8
    have t2 := h2 b hb8
    omega
  · have e4 : a = act := by
      by_cases z : a = act
      · exact z
      · have t := h7 a e z
        omega
    rw [e4]
    exact ⟨⟨h1, h2, h3, h4', h5, h6, h7, h8, hn⟩, Nat.le_refl _⟩
/-- the fresh object -/
theorem fm_A0 : fm_A (fun _ => 0) (fun _ => 0) (fun _ => 0) (fun p => if p < 12 then 32 else 0) (fun _ => 0) 8 1 := by
  refine ⟨?_, ?_, ?_, ?_, ?_, ?_, ?_, Nat.le_refl 8, Nat.le_refl 1⟩
  · intro i _
    show 0 ≤ 3 ∧ (0 = 0 ↔ 0 ≤ i % 4)
    omega
  · intro b _
    exact Nat.zero_le 4
  · intro b _
    rfl
  · intro i _ hl
    have hl : (0 = 1 ∨ 0 = 2) := hl
    omega
  · intro p hp
    show (if p < 12 then 32 else 0) ≤ 32 ∧ ((if p < 12 then 32 else 0) < 32 → _)
    rw [if_pos hp]
    exact ⟨Nat.le_refl 32, fun z => absurd z (by omega)⟩
  · intro i _ hl
    have hl : (0 = 1 ∨ 0 = 2) := hl
    omega
  · intro b _ _
    exact Or.inl rfl
