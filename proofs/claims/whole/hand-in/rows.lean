section
/-! rows taken from kit/rows/PURE-ROWS (stores, numbers, branches by naturals) -/
theorem pk_us {f : Nat → Int32} {k : Nat} {x : Int32} : upd f k x k = x := if_pos rfl
theorem pk_un {f : Nat → Int32} {k j : Nat} {x : Int32} (h : j ≠ k) : upd f k x j = f j := if_neg h
theorem pk_uLs {f : Nat → Int64} {k : Nat} {x : Int64} : vp_updL f k x k = x := if_pos rfl
theorem pk_uLn {f : Nat → Int64} {k j : Nat} {x : Int64} (h : j ≠ k) : vp_updL f k x j = f j := if_neg h
theorem pk_sub {a b : Nat} (h : b ≤ a) : nI a - nI b = nI (a - b) := by
  obtain ⟨c, rfl⟩ : ∃ c, a = c + b := ⟨a - b, by omega⟩
  rw [← nI_add, Int32.add_sub_cancel, Nat.add_sub_cancel]
theorem pk_m1 (n : Nat) : nI (n + 1) + (-1) = nI n := by
  rw [← nI_1, Int32.add_assoc, show (1 : Int32) + (-1) = 0 from rfl, Int32.add_zero]
theorem pk_mul (a b : Nat) : nI a * nI b = nI (a * b) := (Int32.ofNat_mul a b).symm
theorem pk_div {a d : Nat} (ha : a < 2 ^ 31) (h0 : 0 < d) (hd : d < 2 ^ 31) : nI a / nI d = nI (a / d) := by
  apply Int32.toInt_inj.mp
  rw [lg_idiv_nonneg (by rw [nI_toInt ha]; omega) (by rw [nI_toInt hd]; omega), nI_toInt ha, nI_toInt hd, nI_toInt (Nat.lt_of_le_of_lt (Nat.div_le_self a d) ha)]
  first | rfl | exact (Int.natCast_ediv _ _).symm
theorem pk_rem {a d : Nat} (ha : a < 2 ^ 31) (h0 : 0 < d) (hd : d < 2 ^ 31) : nI a - nI a / nI d * nI d = nI (a % d) := by
  rw [pk_div ha h0 hd, pk_mul, pk_sub (Nat.div_mul_le_self a d)]
  exact congrArg nI (by have := Nat.div_add_mod' a d; omega)
theorem pk_sub_toInt {a b : Nat} (ha : a < 2 ^ 30) (hb : b < 2 ^ 30) : (nI a - nI b).toInt = (a : Int) - b := by
  rw [Int32.toInt_sub, nI_toInt (by omega), nI_toInt (by omega)]
  exact Int.bmod_eq_of_le (by omega) (by omega)
theorem pk_sneg {a b : Nat} (hb : b < 2 ^ 30) (h : a < b) : nI a - nI b < 0 := by
  rw [Int32.lt_iff_toInt_lt, pk_sub_toInt (by omega) hb, show (0 : Int32).toInt = 0 from by decide]
  omega
theorem pk_ix (x : Int32) {n : Nat} (hn : n < 2 ^ 31) : x < 0 ∨ nI n ≤ x ∨ ∃ j : Nat, j < n ∧ x = nI j := by
  by_cases h : x < 0
  · exact Or.inl h
  · obtain ⟨j, hj, rfl⟩ := nI_of h
    by_cases h2 : j < n
    · exact Or.inr (Or.inr ⟨j, h2, rfl⟩)
    · exact Or.inr (Or.inl (nI_le (by omega) hj))
theorem pk_le {x y : Int32} {A B : Prop} (a b : Nat) (f : a ≤ b → A) (g : b < a → B) (hx : x = nI a := by rfl) (hy : y = nI b := by rfl) (ha : a < 2 ^ 31 := by omega) (hb : b < 2 ^ 31 := by omega) : (x ≤ y → A) ∧ (¬ x ≤ y → B) := by
  subst hx hy
  rw [nI_leI ha hb]
  exact ⟨f, fun z => g (by omega)⟩
theorem pk_lt {x y : Int32} {A B : Prop} (a b : Nat) (f : a < b → A) (g : b ≤ a → B) (hx : x = nI a := by rfl) (hy : y = nI b := by rfl) (ha : a < 2 ^ 31 := by omega) (hb : b < 2 ^ 31 := by omega) : (x < y → A) ∧ (¬ x < y → B) := by
  subst hx hy
  rw [nI_ltI ha hb]
  exact ⟨f, fun z => g (by omega)⟩
theorem pk_eq {x y : Int32} {A B : Prop} (a b : Nat) (f : a = b → A) (g : a ≠ b → B) (hx : x = nI a := by rfl) (hy : y = nI b := by rfl) (ha : a < 2 ^ 31 := by omega) (hb : b < 2 ^ 31 := by omega) : (x = y → A) ∧ (¬ x = y → B) := by
  subst hx hy
  rw [nI_eq ha hb]
  exact ⟨f, g⟩
theorem pk_in {x : Int32} (n N : Nat) (h : n < N) (hx : x = nI n := by rfl) (hN : N < 2 ^ 31 := by omega) : vp_in x N := by
  subst hx
  exact vp_in_nI h hN
theorem pk_cl {x : Int32} (n : Nat) (hx : x = nI n := by rfl) (h : n < 2 ^ 31 := by omega) : x.toNatClampNeg = n := by
  subst hx
  exact nI_clamp h
theorem pk_lT {n : Nat} (h : n < 2 ^ 63) : (lN n).toInt = (n : Int) := lg_ofNat_toInt h
theorem pk_lLT {a b : Nat} (ha : a < 2 ^ 63) (hb : b < 2 ^ 63) : lN a < lN b ↔ a < b := by
  rw [Int64.lt_iff_toInt_lt, pk_lT ha, pk_lT hb]; omega
theorem pk_lLE {a b : Nat} (ha : a < 2 ^ 63) (hb : b < 2 ^ 63) : lN a ≤ lN b ↔ a ≤ b := by
  rw [Int64.le_iff_toInt_le, pk_lT ha, pk_lT hb]; omega
theorem pk_lEQ {a b : Nat} (ha : a < 2 ^ 63) (hb : b < 2 ^ 63) : lN a = lN b ↔ a = b := by
  rw [← Int64.toInt_inj, pk_lT ha, pk_lT hb]; omega
theorem pk_loop {σ : Type} (W : Nat → Nat → σ → Prop) (I : Nat → σ → Prop) (e i0 : Nat) (s : σ) (hi : i0 ≤ e) (h0 : I i0 s) (hx : ∀ n s, I e s → W (n + 1) e s)
    (hs : ∀ n i s, i < e → I i s → (∀ s', I (i + 1) s' → W n (i + 1) s') → W (n + 1) i s) : ∃ n, W n i0 s :=
  ⟨e + 1, loop_i W I e hx hs (e + 1) i0 s hi (by omega) h0⟩
end
section
/-! the ghosts of the flash, and counts over them -/
def fm_w (x : Nat) : Int32 := if x = 32 then -1 else nI x
def fm_a (x : Nat) : Int32 := if x = 8 then -1 else nI x
def fm_u (f : Nat → Nat) (i v : Nat) : Nat → Nat := fun j => if j = i then v else f j
def fm_e (f : Nat → Nat) (b : Nat) : Nat → Nat := fun i => if i / 4 = b then 0 else f i
theorem fm_us {f : Nat → Nat} {i v : Nat} : fm_u f i v i = v := if_pos rfl
theorem fm_un {f : Nat → Nat} {i v j : Nat} (h : j ≠ i) : fm_u f i v j = f j := if_neg h
theorem fm_ep {f : Nat → Nat} {b i : Nat} (h : i / 4 = b) : fm_e f b i = 0 := if_pos h
theorem fm_en {f : Nat → Nat} {b i : Nat} (h : i / 4 ≠ b) : fm_e f b i = f i := if_neg h
theorem fm_m1 {n : Nat} (h : n < 2 ^ 31) : ¬ nI n = -1 := by
  intro e
  have e1 := congrArg Int32.toInt e
  rw [nI_toInt h, show (-1 : Int32).toInt = -1 from by decide] at e1
  omega
theorem fm_w32 : fm_w 32 = -1 := if_pos rfl
theorem fm_wl {x : Nat} (h : x < 32) : fm_w x = nI x := if_neg (by omega)
theorem fm_a8 : fm_a 8 = -1 := if_pos rfl
theorem fm_al {x : Nat} (h : x < 8) : fm_a x = nI x := if_neg (by omega)
theorem fm_wm {x : Nat} (h : x < 32) : ¬ fm_w x = -1 := by rw [fm_wl h]; exact fm_m1 (by omega)
theorem fm_am {x : Nat} (h : x < 8) : ¬ fm_a x = -1 := by rw [fm_al h]; exact fm_m1 (by omega)
theorem fm_updI {k : Nat → Nat} {i v : Nat} : upd (fun j => nI (k j)) i (nI v) = fun j => nI (fm_u k i v j) := by
  funext j
  by_cases h : j = i
  · subst h; exact pk_us.trans (congrArg nI fm_us).symm
  · exact (pk_un h).trans (congrArg nI (fm_un h)).symm
theorem fm_updW {w : Nat → Nat} {i v : Nat} (hv : v < 32) : upd (fun j => fm_w (w j)) i (nI v) = fun j => fm_w (fm_u w i v j) := by
  funext j
  by_cases h : j = i
  · subst h; exact pk_us.trans ((fm_wl hv).symm.trans (congrArg fm_w fm_us).symm)
  · exact (pk_un h).trans (congrArg fm_w (fm_un h)).symm
theorem fm_updM {w : Nat → Nat} {i : Nat} : upd (fun j => fm_w (w j)) i (-1) = fun j => fm_w (fm_u w i 32 j) := by
  funext j
  by_cases h : j = i
  · subst h; exact pk_us.trans (fm_w32.symm.trans (congrArg fm_w fm_us).symm)
  · exact (pk_un h).trans (congrArg fm_w (fm_un h)).symm
theorem fm_updL {s : Nat → Nat} {i v : Nat} : vp_updL (fun j => lN (s j)) i (lN v) = fun j => lN (fm_u s i v j) := by
  funext j
  by_cases h : j = i
  · subst h; exact pk_uLs.trans (congrArg lN fm_us).symm
  · exact (pk_uLn h).trans (congrArg lN (fm_un h)).symm
/-- how many of the first n logical pages have their newest record in block b -/
def fm_lc (w : Nat → Nat) (b : Nat) : Nat → Nat
  | 0 => 0
  | n + 1 => fm_lc w b n + (if w n / 4 = b then 1 else 0)
/-- how many of the first n blocks but act are erased -/
def fm_ez (pr : Nat → Nat) (act : Nat) : Nat → Nat
  | 0 => 0
  | n + 1 => fm_ez pr act n + (if pr n = 0 ∧ n ≠ act then 1 else 0)
def fm_sm (f : Nat → Nat) : Nat → Nat
  | 0 => 0
  | n + 1 => fm_sm f n + f n
theorem fm_lcS (w : Nat → Nat) (b n : Nat) : fm_lc w b (n + 1) = fm_lc w b n + (if w n / 4 = b then 1 else 0) := rfl
theorem fm_ezS (pr : Nat → Nat) (act n : Nat) : fm_ez pr act (n + 1) = fm_ez pr act n + (if pr n = 0 ∧ n ≠ act then 1 else 0) := rfl
theorem fm_smS (f : Nat → Nat) (n : Nat) : fm_sm f (n + 1) = fm_sm f n + f n := rfl
theorem fm_lc_le (w : Nat → Nat) (b : Nat) : ∀ n, fm_lc w b n ≤ n
  | 0 => Nat.le_refl 0
  | n + 1 => by
    have ih := fm_lc_le w b n
    rw [fm_lcS]
    by_cases h : w n / 4 = b
    · rw [if_pos h] <;> omega
    · rw [if_neg h] <;> omega
theorem fm_ez_le (pr : Nat → Nat) (act : Nat) : ∀ n, fm_ez pr act n ≤ n
  | 0 => Nat.le_refl 0
  | n + 1 => by
    have ih := fm_ez_le pr act n
    rw [fm_ezS]
    by_cases h : pr n = 0 ∧ n ≠ act
    · rw [if_pos h] <;> omega
    · rw [if_neg h] <;> omega
theorem fm_lc_pos {w : Nat → Nat} {b p : Nat} (h : w p / 4 = b) : ∀ n, p < n → 1 ≤ fm_lc w b n
  | 0, hp => absurd hp (by omega)
  | n + 1, hp => by
    rw [fm_lcS]
    by_cases e : p = n
    · rw [if_pos (show w n / 4 = b from e ▸ h)] <;> omega
    · have ih := fm_lc_pos h n (by omega)
      omega
theorem fm_lc_same {w : Nat → Nat} {b p x : Nat} : ∀ n, n ≤ p → fm_lc (fm_u w p x) b n = fm_lc w b n
  | 0, _ => rfl
  | n + 1, hp => by
    have ih := fm_lc_same (w := w) (b := b) (p := p) (x := x) n (by omega)
    rw [fm_lcS, fm_lcS, ih, fm_un (f := w) (show n ≠ p by omega)]
theorem fm_lc_move {w : Nat → Nat} {b p x : Nat} (h : w p / 4 = b) (hx : x / 4 ≠ b) : ∀ n, p < n → fm_lc (fm_u w p x) b n + 1 = fm_lc w b n
  | 0, hp => absurd hp (by omega)
  | n + 1, hp => by
    rw [fm_lcS, fm_lcS]
    by_cases e : n = p
    · rw [e, fm_us (f := w), if_pos h, if_neg hx, fm_lc_same p (Nat.le_refl p)] <;> omega
    · rw [fm_un (f := w) e]
      have ih := fm_lc_move h hx n (by omega)
      omega
theorem fm_ez_act (pr : Nat → Nat) (act v : Nat) : ∀ n, fm_ez (fm_u pr act v) act n = fm_ez pr act n
  | 0 => rfl
  | n + 1 => by
    rw [fm_ezS, fm_ezS, fm_ez_act pr act v n]
    by_cases e : n = act
    · rw [if_neg (show ¬ (fm_u pr act v n = 0 ∧ n ≠ act) from fun z => z.2 e), if_neg (show ¬ (pr n = 0 ∧ n ≠ act) from fun z => z.2 e)]
    · rw [fm_un (f := pr) e]
theorem fm_ez_er {pr : Nat → Nat} {act b : Nat} (hp : pr b ≠ 0) (hb : b ≠ act) : ∀ n, fm_ez (fm_u pr b 0) act n = fm_ez pr act n + (if b < n then 1 else 0)
  | 0 => by rw [if_neg (show ¬ b < 0 by omega)] <;> rfl
  | n + 1 => by
    rw [fm_ezS, fm_ezS, fm_ez_er hp hb n]
    by_cases e : n = b
    · rw [e, fm_us (f := pr), if_pos (show 0 = 0 ∧ b ≠ act from ⟨rfl, hb⟩), if_neg (show ¬ (pr b = 0 ∧ b ≠ act) from fun z => hp z.1), if_neg (show ¬ b < b by omega), if_pos (show b < b + 1 by omega)]
    · rw [fm_un (f := pr) e]
      by_cases l : b < n
      · rw [if_pos l, if_pos (show b < n + 1 by omega)] <;> omega
      · rw [if_neg l, if_neg (show ¬ b < n + 1 by omega)] <;> omega
/-- an erased block is taken, the block before having no page left -/
theorem fm_ez_op {pr : Nat → Nat} {act a : Nat} (ha : pr a = 0) (h : pr act ≠ 0 ∨ 8 ≤ act) : ∀ n, n ≤ 8 → fm_ez pr a n + (if a < n then 1 else 0) = fm_ez pr act n
  | 0, _ => by rw [if_neg (show ¬ a < 0 by omega)] <;> rfl
  | n + 1, hn => by
    have ih := fm_ez_op ha h n (by omega)
    rw [fm_ezS, fm_ezS]
    by_cases e : n = a
    · have h2 : n ≠ act := by
        intro z
        rcases h with h | h
        · exact h (by rw [← z, e]; exact ha)
        · omega
      rw [if_neg (show ¬ (pr n = 0 ∧ n ≠ a) from fun z => z.2 e), if_pos (show a < n + 1 by omega), if_pos (show pr n = 0 ∧ n ≠ act from ⟨by rw [e]; exact ha, h2⟩)]
      rw [if_neg (show ¬ a < n by omega)] at ih
      omega
    · by_cases z : pr n = 0
      · have h2 : n ≠ act := by
          intro y
          rcases h with h | h
          · exact h (by rw [← y]; exact z)
          · omega
        rw [if_pos (show pr n = 0 ∧ n ≠ a from ⟨z, e⟩), if_pos (show pr n = 0 ∧ n ≠ act from ⟨z, h2⟩)]
        by_cases l : a < n
        · rw [if_pos (show a < n + 1 by omega)]; rw [if_pos l] at ih; omega
        · rw [if_neg (show ¬ a < n + 1 by omega)]; rw [if_neg l] at ih; omega
      · rw [if_neg (show ¬ (pr n = 0 ∧ n ≠ a) from fun y => z y.1), if_neg (show ¬ (pr n = 0 ∧ n ≠ act) from fun y => z y.1)]
        by_cases l : a < n
        · rw [if_pos (show a < n + 1 by omega)]; rw [if_pos l] at ih; omega
        · rw [if_neg (show ¬ a < n + 1 by omega)]; rw [if_neg l] at ih; omega
theorem fm_ez_8 (pr : Nat → Nat) (act : Nat) : ∀ n, n ≤ 8 → fm_ez pr act n ≤ fm_ez pr 8 n
  | 0, _ => Nat.le_refl 0
  | n + 1, hn => by
    have ih := fm_ez_8 pr act n (by omega)
    rw [fm_ezS, fm_ezS]
    by_cases z : pr n = 0 ∧ n ≠ act
    · rw [if_pos z, if_pos (show pr n = 0 ∧ n ≠ 8 from ⟨z.1, by omega⟩)] <;> omega
    · rw [if_neg z] <;> omega
theorem fm_ez_no {pr : Nat → Nat} (act : Nat) : ∀ n, (∀ b, b < n → pr b ≠ 0) → fm_ez pr act n = 0
  | 0, _ => rfl
  | n + 1, h => by
    rw [fm_ezS, fm_ez_no act n (fun b hb => h b (by omega)), if_neg (show ¬ (pr n = 0 ∧ n ≠ act) from fun y => h n (by omega) y.1)] <;> rfl
theorem fm_ex0 {pr : Nat → Nat} {act : Nat} (h : 1 ≤ fm_ez pr act 8) (hn : ∀ b, b < 8 → pr b ≠ 0) : False := by
  rw [fm_ez_no act 8 hn] at h
  omega
theorem fm_sum0 (w : Nat → Nat) : ∀ m, fm_sm (fun b => fm_lc w b 0) m = 0
  | 0 => rfl
  | m + 1 => by rw [fm_smS, fm_sum0 w m] <;> rfl
theorem fm_sum1 (w : Nat → Nat) (n : Nat) : ∀ m, fm_sm (fun b => fm_lc w b (n + 1)) m = fm_sm (fun b => fm_lc w b n) m + (if w n / 4 < m then 1 else 0)
  | 0 => by rw [if_neg (show ¬ w n / 4 < 0 by omega)] <;> rfl
  | m + 1 => by
    have ih := fm_sum1 w n m
    show fm_sm (fun b => fm_lc w b (n + 1)) m + (fm_lc w m n + (if w n / 4 = m then 1 else 0)) = fm_sm (fun b => fm_lc w b n) m + fm_lc w m n + (if w n / 4 < m + 1 then 1 else 0)
    by_cases h1 : w n / 4 < m
    · rw [ih, if_pos h1, if_neg (show ¬ w n / 4 = m by omega), if_pos (show w n / 4 < m + 1 by omega)] <;> omega
    · by_cases h2 : w n / 4 = m
      · rw [ih, if_neg h1, if_pos h2, if_pos (show w n / 4 < m + 1 by omega)] <;> omega
      · rw [ih, if_neg h1, if_neg h2, if_neg (show ¬ w n / 4 < m + 1 by omega)] <;> omega
theorem fm_sum2 (w : Nat → Nat) : ∀ n, fm_sm (fun b => fm_lc w b n) 8 ≤ n
  | 0 => by rw [fm_sum0] <;> omega
  | n + 1 => by
    have ih := fm_sum2 w n
    rw [fm_sum1]
    by_cases h : w n / 4 < 8
    · rw [if_pos h] <;> omega
    · rw [if_neg h] <;> omega
theorem fm_cnt (f pr : Nat → Nat) (act : Nat) : ∀ n, (∀ b, b < n → b ≠ act → pr b = 0 ∨ pr b = 4) → (∀ b, b < n → pr b = 4 → 3 ≤ f b) → 3 * n ≤ fm_sm f n + 3 * fm_ez pr act n + (if act < n then 3 else 0)
  | 0, _, _ => Nat.zero_le _
  | n + 1, h1, h2 => by
    have ih := fm_cnt f pr act n (fun b hb => h1 b (by omega)) (fun b hb => h2 b (by omega))
    rw [fm_smS, fm_ezS]
    by_cases ea : n = act
    · rw [if_neg (show ¬ (pr n = 0 ∧ n ≠ act) from fun z => z.2 ea), if_pos (show act < n + 1 by omega)]
      rw [if_neg (show ¬ act < n by omega)] at ih
      omega
    · rcases h1 n (by omega) ea with e0 | e4
      · rw [if_pos (show pr n = 0 ∧ n ≠ act from ⟨e0, ea⟩)]
        by_cases l : act < n
        · rw [if_pos (show act < n + 1 by omega)]; rw [if_pos l] at ih; omega
        · rw [if_neg (show ¬ act < n + 1 by omega)]; rw [if_neg l] at ih; omega
      · have h3 := h2 n (by omega) e4
        rw [if_neg (show ¬ (pr n = 0 ∧ n ≠ act) by omega)]
        by_cases l : act < n
        · rw [if_pos (show act < n + 1 by omega)]; rw [if_pos l] at ih; omega
        · rw [if_neg (show ¬ act < n + 1 by omega)]; rw [if_neg l] at ih; omega
/-- with at most two erased blocks beside the one in use, not every full block has three live records -/
theorem fm_few {w pr : Nat → Nat} {act : Nat} (ha : act < 8) (h1 : ∀ b, b < 8 → b ≠ act → pr b = 0 ∨ pr b = 4) (h2 : fm_ez pr act 8 ≤ 2) (h3 : ∀ b, b < 8 → pr b = 4 → 3 ≤ fm_lc w b 12) : False := by
  have h := fm_cnt (fun b => fm_lc w b 12) pr act 8 h1 h3
  have h4 := fm_sum2 w 12
  rw [if_pos ha] at h
  omega
end
section
/-! what holds of the flash and of the working memory between two steps -/
def fm_A (k o s w pr : Nat → Nat) (act ns : Nat) : Prop :=
  (∀ i, i < 32 → k i ≤ 3 ∧ (k i = 0 ↔ pr (i / 4) ≤ i % 4)) ∧
  (∀ b, b < 8 → pr b ≤ 4) ∧ (∀ b, 8 ≤ b → pr b = 0) ∧
  (∀ i, i < 32 → (k i = 1 ∨ k i = 2) → o i < 12 ∧ s i < ns) ∧
  (∀ p, p < 12 → w p ≤ 32 ∧ (w p < 32 → (k (w p) = 1 ∨ k (w p) = 2) ∧ o (w p) = p)) ∧
  (∀ i, i < 32 → (k i = 1 ∨ k i = 2) → w (o i) < 32 ∧ (i = w (o i) ∨ s i < s (w (o i)))) ∧
  (∀ b, b < 8 → b ≠ act → pr b = 0 ∨ pr b = 4) ∧ act ≤ 8 ∧ 1 ≤ ns
/-- a record of a value or of a lack -/
theorem fm_prog {k o s w pr : Nat → Nat} {act ns p kd a : Nat} (h : fm_A k o s w pr act ns) (ha : act < 8) (hr : pr act < 4) (hp : p < 12) (hk : kd = 1 ∨ kd = 2) (ea : a = 4 * act + pr act) :
    fm_A (fm_u k a kd) (fm_u o a p) (fm_u s a ns) (fm_u w p a) (fm_u pr act (pr act + 1)) act (ns + 1) := by
  obtain ⟨h1, h2, h3, h4, h5, h6, h7, h8, h9⟩ := h
  have e1 : a / 4 = act := by omega
  have e2 : a % 4 = pr act := by omega
  have hA : a < 32 := by omega
  have hk0 : k a = 0 := (h1 a hA).2.mpr (by rw [e1, e2]; exact Nat.le_refl _)
  have hne : ∀ q, q < 12 → w q < 32 → w q ≠ a := by
    intro q hq hw z
    have t := ((h5 q hq).2 hw).1
    rw [z] at t
    omega
  refine ⟨?_, ?_, ?_, ?_, ?_, ?_, ?_, h8, by omega⟩
  · intro i hi
    by_cases e : i = a
    · rw [e, fm_us (f := k), e1, fm_us (f := pr), e2] <;> omega
    · rw [fm_un (f := k) e]
      have t := h1 i hi
      by_cases e3 : i / 4 = act
      · rw [e3, fm_us (f := pr)]; rw [e3] at t; omega
      · rw [fm_un (f := pr) e3]; exact t
  · intro b hb
    by_cases e : b = act
    · rw [e, fm_us (f := pr)] <;> omega
    · rw [fm_un (f := pr) e]; exact h2 b hb
  · intro b hb
    rw [fm_un (f := pr) (show b ≠ act by omega)]; exact h3 b hb
  · intro i hi hl
    by_cases e : i = a
    · rw [e, fm_us (f := o), fm_us (f := s)] <;> omega
    · rw [fm_un (f := k) e] at hl
      rw [fm_un (f := o) e, fm_un (f := s) e]
      have t := h4 i hi hl
      omega
  · intro q hq
    by_cases e : q = p
    · rw [e, fm_us (f := w), fm_us (f := k), fm_us (f := o)]
      exact ⟨by omega, fun _ => ⟨hk, rfl⟩⟩
    · rw [fm_un (f := w) e]
      have t := h5 q hq
      refine ⟨t.1, fun hw => ?_⟩
      rw [fm_un (f := k) (hne q hq hw), fm_un (f := o) (hne q hq hw)]
      exact t.2 hw
  · intro i hi hl
    by_cases e : i = a
    · rw [e, fm_us (f := o), fm_us (f := w)]
      exact ⟨hA, Or.inl rfl⟩
    · rw [fm_un (f := k) e] at hl
      rw [fm_un (f := o) e, fm_un (f := s) e]
      have t := h6 i hi hl
      have t4 := h4 i hi hl
      by_cases e5 : o i = p
      · rw [e5, fm_us (f := w), fm_us (f := s)]
        exact ⟨hA, Or.inr t4.2⟩
      · rw [fm_un (f := w) e5, fm_un (f := s) (hne _ t4.1 t.1)]
        exact t
  · intro b hb hb2
    rw [fm_un (f := pr) hb2]; exact h7 b hb hb2
/-- a spoiled record -/
theorem fm_prog3 {k o s w pr : Nat → Nat} {act ns p a : Nat} (h : fm_A k o s w pr act ns) (ha : act < 8) (hr : pr act < 4) (ea : a = 4 * act + pr act) :
    fm_A (fm_u k a 3) (fm_u o a p) (fm_u s a ns) w (fm_u pr act (pr act + 1)) act (ns + 1) := by
  obtain ⟨h1, h2, h3, h4, h5, h6, h7, h8, h9⟩ := h
  have e1 : a / 4 = act := by omega
  have e2 : a % 4 = pr act := by omega
  have hA : a < 32 := by omega
  have hk0 : k a = 0 := (h1 a hA).2.mpr (by rw [e1, e2]; exact Nat.le_refl _)
  have hne : ∀ q, q < 12 → w q < 32 → w q ≠ a := by
    intro q hq hw z
    have t := ((h5 q hq).2 hw).1
    rw [z] at t
    omega
  refine ⟨?_, ?_, ?_, ?_, ?_, ?_, ?_, h8, by omega⟩
  · intro i hi
    by_cases e : i = a
    · rw [e, fm_us (f := k), e1, fm_us (f := pr), e2] <;> omega
    · rw [fm_un (f := k) e]
      have t := h1 i hi
      by_cases e3 : i / 4 = act
      · rw [e3, fm_us (f := pr)]; rw [e3] at t; omega
      · rw [fm_un (f := pr) e3]; exact t
  · intro b hb
    by_cases e : b = act
    · rw [e, fm_us (f := pr)] <;> omega
    · rw [fm_un (f := pr) e]; exact h2 b hb
  · intro b hb
    rw [fm_un (f := pr) (show b ≠ act by omega)]; exact h3 b hb
  · intro i hi hl
    by_cases e : i = a
    · rw [e, fm_us (f := k)] at hl; omega
    · rw [fm_un (f := k) e] at hl
      rw [fm_un (f := o) e, fm_un (f := s) e]
      have t := h4 i hi hl
      omega
  · intro q hq
    have t := h5 q hq
    refine ⟨t.1, fun hw => ?_⟩
    rw [fm_un (f := k) (hne q hq hw), fm_un (f := o) (hne q hq hw)]
    exact t.2 hw
  · intro i hi hl
    by_cases e : i = a
    · rw [e, fm_us (f := k)] at hl; omega
    · rw [fm_un (f := k) e] at hl
      rw [fm_un (f := o) e, fm_un (f := s) e]
      have t := h6 i hi hl
      have t4 := h4 i hi hl
      rw [fm_un (f := s) (hne _ t4.1 t.1)]
      exact t
  · intro b hb hb2
    rw [fm_un (f := pr) hb2]; exact h7 b hb hb2
theorem fm_erase {k o s w pr : Nat → Nat} {act ns b : Nat} (h : fm_A k o s w pr act ns) (hb : b < 8) (hw : ∀ q, q < 12 → w q / 4 ≠ b) :
    fm_A (fm_e k b) (fm_e o b) (fm_e s b) w (fm_u pr b 0) act ns := by
  obtain ⟨h1, h2, h3, h4, h5, h6, h7, h8, h9⟩ := h
  refine ⟨?_, ?_, ?_, ?_, ?_, ?_, ?_, h8, h9⟩
  · intro i hi
    by_cases e : i / 4 = b
    · rw [fm_ep (f := k) e, e, fm_us (f := pr)] <;> omega
    · rw [fm_en (f := k) e, fm_un (f := pr) e]; exact h1 i hi
  · intro c hc
    by_cases e : c = b
    · rw [e, fm_us (f := pr)] <;> omega
    · rw [fm_un (f := pr) e]; exact h2 c hc
  · intro c hc
    rw [fm_un (f := pr) (show c ≠ b by omega)]; exact h3 c hc
  · intro i hi hl
    by_cases e : i / 4 = b
    · rw [fm_ep (f := k) e] at hl; omega
    · rw [fm_en (f := k) e] at hl
      rw [fm_en (f := o) e, fm_en (f := s) e]; exact h4 i hi hl
  · intro q hq
    rw [fm_en (f := k) (hw q hq), fm_en (f := o) (hw q hq)]; exact h5 q hq
  · intro i hi hl
    by_cases e : i / 4 = b
    · rw [fm_ep (f := k) e] at hl; omega
    · rw [fm_en (f := k) e] at hl
      have t4 := h4 i hi hl
      rw [fm_en (f := o) e, fm_en (f := s) e, fm_en (f := s) (hw _ t4.1)]; exact h6 i hi hl
  · intro c hc hca
    by_cases e : c = b
    · rw [e, fm_us (f := pr)]; exact Or.inl rfl
    · rw [fm_un (f := pr) e]; exact h7 c hc hca
/-- another block is in use, the one before having no page left -/
theorem fm_take {k o s w pr : Nat → Nat} {act ns a : Nat} (h : fm_A k o s w pr act ns) (hf : act < 8 → pr act = 4) (ha : a < 8) :
    fm_A k o s w pr a ns := by
  obtain ⟨h1, h2, h3, h4, h5, h6, h7, h8, h9⟩ := h
  refine ⟨h1, h2, h3, h4, h5, h6, ?_, by omega, h9⟩
  intro b hb _
  by_cases e : b = act
  · exact Or.inr (by rw [e]; exact hf (by omega))
  · exact h7 b hb e
/-- what the scan of the first i flash pages has found -/
def fm_S (k o s w w' : Nat → Nat) (i : Nat) : Prop :=
  (∀ p, p < 12 → (w' p = 32 ∧ ∀ j, j < i → (k j = 1 ∨ k j = 2) → o j ≠ p) ∨ (w' p < i ∧ (k (w' p) = 1 ∨ k (w' p) = 2) ∧ o (w' p) = p ∧ ∀ j, j < i → (k j = 1 ∨ k j = 2) → o j = p → s j ≤ s (w' p))) ∧
  (∀ p, 12 ≤ p → w' p = w p)
theorem fm_S0 {k o s w w' : Nat → Nat} (h1 : ∀ p, p < 12 → w' p = 32) (h2 : ∀ p, 12 ≤ p → w' p = w p) : fm_S k o s w w' 0 :=
  ⟨fun p hp => Or.inl ⟨h1 p hp, fun j hj => absurd hj (by omega)⟩, h2⟩
theorem fm_Sn {k o s w w' : Nat → Nat} {i : Nat} (h : fm_S k o s w w' i) (hn : ¬ (k i = 1 ∨ k i = 2)) : fm_S k o s w w' (i + 1) := by
  refine ⟨fun p hp => ?_, h.2⟩
  rcases h.1 p hp with ⟨e, t⟩ | ⟨e, t1, t2, t3⟩
  · refine Or.inl ⟨e, fun j hj hl => ?_⟩
    by_cases z : j = i
    · rw [z] at hl; exact absurd hl hn
    · exact t j (by omega) hl
  · refine Or.inr ⟨by omega, t1, t2, fun j hj hl => ?_⟩
    by_cases z : j = i
    · rw [z] at hl; exact absurd hl hn
    · exact t3 j (by omega) hl
theorem fm_St {k o s w w' : Nat → Nat} {i : Nat} (h : fm_S k o s w w' i) (hi : i < 32) (hl : k i = 1 ∨ k i = 2) (ho : o i < 12) (hc : w' (o i) = 32 ∨ s (w' (o i)) < s i) : fm_S k o s w (fm_u w' (o i) i) (i + 1) := by
  refine ⟨fun p hp => ?_, fun p hp => ?_⟩
  · by_cases e : p = o i
    · rw [e, fm_us (f := w')]
      refine Or.inr ⟨by omega, hl, rfl, fun j hj hjl hjo => ?_⟩
      by_cases z : j = i
      · rw [z]; exact Nat.le_refl _
      · rcases h.1 (o i) ho with ⟨_, t⟩ | ⟨e2, t1, t2, t3⟩
        · exact absurd hjo (t j (by omega) hjl)
        · have t4 := t3 j (by omega) hjl hjo
          omega
    · rw [fm_un (f := w') e]
      rcases h.1 p hp with ⟨e2, t⟩ | ⟨e2, t1, t2, t3⟩
      · refine Or.inl ⟨e2, fun j hj hjl => ?_⟩
        by_cases z : j = i
        · rw [z]; exact fun y => e y.symm
        · exact t j (by omega) hjl
      · refine Or.inr ⟨by omega, t1, t2, fun j hj hjl hjo => ?_⟩
        by_cases z : j = i
        · rw [z] at hjo; exact absurd hjo.symm e
        · exact t3 j (by omega) hjl hjo
  · rw [fm_un (f := w') (show p ≠ o i by omega)]; exact h.2 p hp
theorem fm_Sf {k o s w w' : Nat → Nat} {i : Nat} (h : fm_S k o s w w' i) (hl : k i = 1 ∨ k i = 2) (ho : o i < 12) (hc : w' (o i) ≠ 32) (hs : s i ≤ s (w' (o i))) : fm_S k o s w w' (i + 1) := by
  refine ⟨fun p hp => ?_, h.2⟩
  rcases h.1 p hp with ⟨e, t⟩ | ⟨e, t1, t2, t3⟩
  · refine Or.inl ⟨e, fun j hj hjl => ?_⟩
    by_cases z : j = i
    · rw [z]; intro y; rw [y] at hc; exact hc e
    · exact t j (by omega) hjl
  · refine Or.inr ⟨by omega, t1, t2, fun j hj hjl hjo => ?_⟩
    by_cases z : j = i
    · rw [z] at hjo ⊢; rw [hjo] at hs; exact hs
    · exact t3 j (by omega) hjl hjo
theorem fm_S32 {k o s w w' pr : Nat → Nat} {act ns : Nat} (h : fm_A k o s w pr act ns) (hS : fm_S k o s w w' 32) : w' = w := by
  obtain ⟨h1, h2, h3, h4, h5, h6, h7, h8, h9⟩ := h
  funext p
  by_cases hp : p < 12
  · have t5 := h5 p hp
    rcases hS.1 p hp with ⟨e, t⟩ | ⟨e, t1, t2, t3⟩
    · by_cases hw : w p < 32
      · have t6 := t5.2 hw
        exact absurd t6.2 (t (w p) hw t6.1)
      · omega
    · have t6 := h6 (w' p) e t1
      rw [t2] at t6
      have t7 := t5.2 t6.1
      have t8 := t3 (w p) t6.1 t7.1 t7.2
      omega
  · exact hS.2 p (by omega)
/-- the count of the block's programmed pages among the first i flash pages -/
def fm_pc (pr : Nat → Nat) (i : Nat) : Nat → Nat := fun b => if pr b ≤ i - 4 * b then pr b else i - 4 * b
theorem fm_pc0 {pr : Nat → Nat} : fm_pc pr 0 = fun _ => 0 := by
  funext b
  show (if pr b ≤ 0 - 4 * b then pr b else 0 - 4 * b) = 0
  by_cases h : pr b ≤ 0 - 4 * b
  · rw [if_pos h] <;> omega
  · rw [if_neg h] <;> omega
theorem fm_pc32 {pr : Nat → Nat} (h2 : ∀ b, b < 8 → pr b ≤ 4) (h3 : ∀ b, 8 ≤ b → pr b = 0) : fm_pc pr 32 = pr := by
  funext b
  show (if pr b ≤ 32 - 4 * b then pr b else 32 - 4 * b) = pr b
  by_cases hb : b < 8
  · have t := h2 b hb
    rw [if_pos (show pr b ≤ 32 - 4 * b by omega)]
  · have t := h3 b (by omega)
    rw [if_pos (show pr b ≤ 32 - 4 * b by omega)]
theorem fm_pcn {pr : Nat → Nat} {i : Nat} (h2 : ∀ b, pr b ≤ 4) (h : pr (i / 4) ≤ i % 4) : fm_pc pr (i + 1) = fm_pc pr i := by
  funext b
  show (if pr b ≤ i + 1 - 4 * b then pr b else i + 1 - 4 * b) = (if pr b ≤ i - 4 * b then pr b else i - 4 * b)
  have t := h2 b
  by_cases e : b = i / 4
  · rw [← e] at h
    rw [if_pos (show pr b ≤ i + 1 - 4 * b by omega), if_pos (show pr b ≤ i - 4 * b by omega)]
  · by_cases l : pr b ≤ i - 4 * b
    · rw [if_pos l, if_pos (show pr b ≤ i + 1 - 4 * b by omega)]
    · rw [if_neg l, if_neg (show ¬ pr b ≤ i + 1 - 4 * b by omega)] <;> omega
theorem fm_pcs {pr : Nat → Nat} {i : Nat} (h2 : ∀ b, pr b ≤ 4) (h : i % 4 < pr (i / 4)) : fm_pc pr (i + 1) = fm_u (fm_pc pr i) (i / 4) (fm_pc pr i (i / 4) + 1) := by
  funext b
  by_cases e : b = i / 4
  · rw [e, fm_us (f := fm_pc pr i)]
    show (if pr (i / 4) ≤ i + 1 - 4 * (i / 4) then pr (i / 4) else i + 1 - 4 * (i / 4)) = (if pr (i / 4) ≤ i - 4 * (i / 4) then pr (i / 4) else i - 4 * (i / 4)) + 1
    rw [if_neg (show ¬ pr (i / 4) ≤ i - 4 * (i / 4) by omega)]
    by_cases l : pr (i / 4) ≤ i + 1 - 4 * (i / 4)
    · rw [if_pos l] <;> omega
    · rw [if_neg l] <;> omega
  · rw [fm_un (f := fm_pc pr i) e]
    show (if pr b ≤ i + 1 - 4 * b then pr b else i + 1 - 4 * b) = (if pr b ≤ i - 4 * b then pr b else i - 4 * b)
    have t := h2 b
    by_cases l : pr b ≤ i - 4 * b
    · rw [if_pos l, if_pos (show pr b ≤ i + 1 - 4 * b by omega)]
    · rw [if_neg l, if_neg (show ¬ pr b ≤ i + 1 - 4 * b by omega)] <;> omega
/-- what start finds again -/
theorem fm_fin {k o s w pr : Nat → Nat} {act ns a n : Nat} (h : fm_A k o s w pr act ns) (ha : (a = 8 ∧ ∀ b, b < 8 → ¬ (0 < pr b ∧ pr b < 4)) ∨ (a < 8 ∧ 0 < pr a ∧ pr a < 4)) (hn : 1 ≤ n) (hs : ∀ i, i < 32 → (k i = 1 ∨ k i = 2) → s i < n) :
    fm_A k o s w pr a n ∧ fm_ez pr act 8 ≤ fm_ez pr a 8 := by
  obtain ⟨h1, h2, h3, h4, h5, h6, h7, h8, h9⟩ := h
  have h4' : ∀ i, i < 32 → (k i = 1 ∨ k i = 2) → o i < 12 ∧ s i < n := fun i hi hl => ⟨(h4 i hi hl).1, hs i hi hl⟩
  rcases ha with ⟨e, hb⟩ | ⟨e, e2, e3⟩
  · refine ⟨⟨h1, h2, h3, h4', h5, h6, ?_, by omega, hn⟩, by rw [e]; exact fm_ez_8 pr act 8 (Nat.le_refl 8)⟩
    intro b hb8 _
    have t := hb b hb8
    have t2 := h2 b hb8
    omega
  · have e4 : a = act := by
      by_cases z : a = act
      · exact z
      · have t := h7 a e z
        omega
    rw [e4]
    exact ⟨⟨h1, h2, h3, h4', h5, h6, h7, h8, hn⟩, Nat.le_refl _⟩
/-- the fresh object -/
theorem fm_A0 : fm_A (fun _ => 0) (fun _ => 0) (fun _ => 0) (fun p => if p < 12 then 32 else 0) (fun _ => 0) 8 1 := by
  refine ⟨?_, ?_, ?_, ?_, ?_, ?_, ?_, Nat.le_refl 8, Nat.le_refl 1⟩
  · intro i _
    show 0 ≤ 3 ∧ (0 = 0 ↔ 0 ≤ i % 4)
    omega
  · intro b _
    exact Nat.zero_le 4
  · intro b _
    rfl
  · intro i _ hl
    have hl : (0 = 1 ∨ 0 = 2) := hl
    omega
  · intro p hp
    show (if p < 12 then 32 else 0) ≤ 32 ∧ ((if p < 12 then 32 else 0) < 32 → _)
    rw [if_pos hp]
    exact ⟨Nat.le_refl 32, fun z => absurd z (by omega)⟩
  · intro i _ hl
    have hl : (0 = 1 ∨ 0 = 2) := hl
    omega
  · intro b _ _
    exact Or.inl rfl
end
section
/-! what the logical pages hold -/
def fm_v (k w : Nat → Nat) (c : Nat → Int32) (p : Nat) : Option Int32 := if w p < 32 ∧ k (w p) = 1 then some (c (w p)) else none
/-- the map with page p changed by a record of kind kd -/
def fm_mu (m : Nat → Option Int32) (p kd : Nat) (x : Int32) : Nat → Option Int32 := fun q => if q = p ∧ kd ≠ 3 then (if kd = 1 then some x else none) else m q
theorem fm_v1 {k w : Nat → Nat} {c : Nat → Int32} {p : Nat} (h : w p < 32 ∧ k (w p) = 1) : fm_v k w c p = some (c (w p)) := if_pos h
theorem fm_v0 {k w : Nat → Nat} {c : Nat → Int32} {p : Nat} (h : ¬ (w p < 32 ∧ k (w p) = 1)) : fm_v k w c p = none := if_neg h
/-- a page that holds no record counted before changes nothing for the others -/
theorem fm_vo {k w : Nat → Nat} {c : Nat → Int32} {q a kd : Nat} {x : Int32} (h : w q ≠ a) : fm_v (fm_u k a kd) w (upd c a x) q = fm_v k w c q := by
  unfold fm_v
  rw [fm_un (f := k) h, pk_un h]
theorem fm_vw {k w w' : Nat → Nat} {c : Nat → Int32} {q : Nat} (h : w' q = w q) : fm_v k w' c q = fm_v k w c q := by
  unfold fm_v
  rw [h]
/-- the record just programmed -/
theorem fm_vp {k w : Nat → Nat} {c : Nat → Int32} {p a kd : Nat} {x : Int32} (ha : a < 32) : fm_v (fm_u k a kd) (fm_u w p a) (upd c a x) p = if kd = 1 then some x else none := by
  unfold fm_v
  rw [fm_us (f := w), fm_us (f := k), pk_us]
  by_cases h : kd = 1
  · rw [if_pos (show a < 32 ∧ kd = 1 from ⟨ha, h⟩), if_pos h]
  · rw [if_neg (show ¬ (a < 32 ∧ kd = 1) from fun z => h z.2), if_neg h]
/-- the page that a new record takes holds no newest one -/
theorem fm_free {k o s w pr : Nat → Nat} {act ns a q : Nat} (h : fm_A k o s w pr act ns) (ha : act < 8) (hr : pr act < 4) (ea : a = 4 * act + pr act) (hq : q < 12) : w q ≠ a := by
  obtain ⟨h1, h2, h3, h4, h5, h6, h7, h8, h9⟩ := h
  intro z
  have hA : a < 32 := by omega
  have hk0 : k a = 0 := (h1 a hA).2.mpr (by rw [show a / 4 = act by omega, show a % 4 = pr act by omega]; exact Nat.le_refl _)
  have t := ((h5 q hq).2 (by omega)).1
  rw [z] at t
  omega
/-- after a record of a value or of a lack -/
theorem fm_v12 {k o s w pr : Nat → Nat} {c : Nat → Int32} {act ns a p q kd : Nat} {x : Int32} (h : fm_A k o s w pr act ns) (ha : act < 8) (hr : pr act < 4) (ea : a = 4 * act + pr act) (hk : kd = 1 ∨ kd = 2) (hq : q < 12) :
    fm_v (fm_u k a kd) (fm_u w p a) (upd c a x) q = fm_mu (fm_v k w c) p kd x q := by
  unfold fm_mu
  by_cases e : q = p
  · rw [if_pos (show q = p ∧ kd ≠ 3 from ⟨e, by omega⟩), e]
    exact fm_vp (by omega)
  · rw [if_neg (show ¬ (q = p ∧ kd ≠ 3) from fun z => e z.1), fm_vw (w' := fm_u w p a) (w := w) (fm_un e)]
    exact fm_vo (fm_free h ha hr ea hq)
theorem fm_v3 {k o s w pr : Nat → Nat} {c : Nat → Int32} {act ns a p q : Nat} {x : Int32} (h : fm_A k o s w pr act ns) (ha : act < 8) (hr : pr act < 4) (ea : a = 4 * act + pr act) (hq : q < 12) :
    fm_v (fm_u k a 3) w (upd c a x) q = fm_mu (fm_v k w c) p 3 x q := by
  unfold fm_mu
  rw [if_neg (show ¬ (q = p ∧ 3 ≠ 3) from fun z => z.2 rfl)]
  exact fm_vo (fm_free h ha hr ea hq)
/-- moving a record: kind and content as they were -/
theorem fm_vm {k o s w pr : Nat → Nat} {c : Nat → Int32} {act ns a p q : Nat} (h : fm_A k o s w pr act ns) (ha : act < 8) (hr : pr act < 4) (ea : a = 4 * act + pr act) (hp : p < 12) (hw : w p < 32) (hq : q < 12) :
    fm_v (fm_u k a (k (w p))) (fm_u w p a) (upd c a (c (w p))) q = fm_v k w c q := by
  have hk : k (w p) = 1 ∨ k (w p) = 2 := ((h.2.2.2.2.1 p hp).2 hw).1
  rw [fm_v12 h ha hr ea hk hq]
  unfold fm_mu
  by_cases e : q = p
  · rw [if_pos (show q = p ∧ k (w p) ≠ 3 from ⟨e, by omega⟩), e]
    unfold fm_v
    by_cases h1 : k (w p) = 1
    · rw [if_pos h1, if_pos (show w p < 32 ∧ k (w p) = 1 from ⟨hw, h1⟩)]
    · rw [if_neg h1, if_neg (show ¬ (w p < 32 ∧ k (w p) = 1) from fun z => h1 z.2)]
  · rw [if_neg (show ¬ (q = p ∧ k (w p) ≠ 3) from fun z => e z.1)]
def fm_ec (c : Nat → Int32) (b : Nat) : Nat → Int32 := fun i => if i / 4 = b then 0 else c i
/-- erasing a block that holds no newest record -/
theorem fm_ve {k w : Nat → Nat} {c : Nat → Int32} {b q : Nat} (hw : w q / 4 ≠ b) : fm_v (fm_e k b) w (fm_ec c b) q = fm_v k w c q := by
  unfold fm_v
  rw [fm_en (f := k) hw, show fm_ec c b (w q) = c (w q) from if_neg hw]
/-! erasing goes page by page: the first j pages of block b -/
def fm_ej (f : Nat → Nat) (b j : Nat) : Nat → Nat := fun i => if 4 * b ≤ i ∧ i < 4 * b + j then 0 else f i
def fm_ecj (f : Nat → Int32) (b j : Nat) : Nat → Int32 := fun i => if 4 * b ≤ i ∧ i < 4 * b + j then 0 else f i
theorem fm_ej0 {f : Nat → Nat} {b : Nat} : fm_ej f b 0 = f := by
  funext i
  exact if_neg (by omega)
theorem fm_ecj0 {f : Nat → Int32} {b : Nat} : fm_ecj f b 0 = f := by
  funext i
  exact if_neg (by omega)
theorem fm_ejs {f : Nat → Nat} {b j : Nat} : fm_u (fm_ej f b j) (4 * b + j) 0 = fm_ej f b (j + 1) := by
  funext i
  by_cases e : i = 4 * b + j
  · rw [e, fm_us (f := fm_ej f b j)]
    exact (if_pos (by omega)).symm
  · rw [fm_un (f := fm_ej f b j) e]
    show (if 4 * b ≤ i ∧ i < 4 * b + j then 0 else f i) = (if 4 * b ≤ i ∧ i < 4 * b + (j + 1) then 0 else f i)
    by_cases l : 4 * b ≤ i ∧ i < 4 * b + j
    · rw [if_pos l, if_pos (show 4 * b ≤ i ∧ i < 4 * b + (j + 1) by omega)]
    · rw [if_neg l, if_neg (show ¬ (4 * b ≤ i ∧ i < 4 * b + (j + 1)) by omega)]
theorem fm_ecjs {f : Nat → Int32} {b j : Nat} : upd (fm_ecj f b j) (4 * b + j) 0 = fm_ecj f b (j + 1) := by
  funext i
  by_cases e : i = 4 * b + j
  · rw [e, pk_us]
    exact (if_pos (by omega)).symm
  · rw [pk_un e]
    show (if 4 * b ≤ i ∧ i < 4 * b + j then 0 else f i) = (if 4 * b ≤ i ∧ i < 4 * b + (j + 1) then 0 else f i)
    by_cases l : 4 * b ≤ i ∧ i < 4 * b + j
    · rw [if_pos l, if_pos (show 4 * b ≤ i ∧ i < 4 * b + (j + 1) by omega)]
    · rw [if_neg l, if_neg (show ¬ (4 * b ≤ i ∧ i < 4 * b + (j + 1)) by omega)]
theorem fm_ej4 {f : Nat → Nat} {b : Nat} : fm_ej f b 4 = fm_e f b := by
  funext i
  show (if 4 * b ≤ i ∧ i < 4 * b + 4 then 0 else f i) = (if i / 4 = b then 0 else f i)
  by_cases l : i / 4 = b
  · rw [if_pos l, if_pos (show 4 * b ≤ i ∧ i < 4 * b + 4 by omega)]
  · rw [if_neg l, if_neg (show ¬ (4 * b ≤ i ∧ i < 4 * b + 4) by omega)]
theorem fm_ecj4 {f : Nat → Int32} {b : Nat} : fm_ecj f b 4 = fm_ec f b := by
  funext i
  show (if 4 * b ≤ i ∧ i < 4 * b + 4 then 0 else f i) = (if i / 4 = b then 0 else f i)
  by_cases l : i / 4 = b
  · rw [if_pos l, if_pos (show 4 * b ≤ i ∧ i < 4 * b + 4 by omega)]
  · rw [if_neg l, if_neg (show ¬ (4 * b ≤ i ∧ i < 4 * b + 4) by omega)]
/-! the map of the logical pages -/
def fm_ms (m : Nat → Option Int32) (p : Nat) (y : Option Int32) : Nat → Option Int32 := fun q => if q = p then y else m q
theorem fm_mss {m : Nat → Option Int32} {p : Nat} {y : Option Int32} : fm_ms m p y p = y := if_pos rfl
theorem fm_msn {m : Nat → Option Int32} {p q : Nat} {y : Option Int32} (h : q ≠ p) : fm_ms m p y q = m q := if_neg h
theorem fm_mu1 (m : Nat → Option Int32) (p : Nat) (x : Int32) (q : Nat) : fm_mu m p 1 x q = fm_ms m p (some x) q := by
  unfold fm_mu fm_ms
  by_cases h : q = p
  · rw [if_pos (show q = p ∧ 1 ≠ 3 from ⟨h, by decide⟩), if_pos h, if_pos (show 1 = 1 from rfl)]
  · rw [if_neg (show ¬ (q = p ∧ 1 ≠ 3) from fun z => h z.1), if_neg h]
theorem fm_mu2 (m : Nat → Option Int32) (p : Nat) (x : Int32) (q : Nat) : fm_mu m p 2 x q = fm_ms m p none q := by
  unfold fm_mu fm_ms
  by_cases h : q = p
  · rw [if_pos (show q = p ∧ 2 ≠ 3 from ⟨h, by decide⟩), if_pos h, if_neg (show ¬ 2 = 1 by decide)]
  · rw [if_neg (show ¬ (q = p ∧ 2 ≠ 3) from fun z => h z.1), if_neg h]
theorem fm_mu3 (m : Nat → Option Int32) (p : Nat) (x : Int32) (q : Nat) : fm_mu m p 3 x q = m q := by
  unfold fm_mu
  rw [if_neg (show ¬ (q = p ∧ 3 ≠ 3) from fun z => z.2 rfl)]
def fm_ob : Option Int32 → Nat
  | none => 0
  | some _ => 1
def fm_gv : Option Int32 → Int32
  | none => 0
  | some x => x
def fm_uc (m : Nat → Option Int32) : Nat → Nat
  | 0 => 0
  | n + 1 => fm_uc m n + fm_ob (m n)
def fm_ts (m : Nat → Option Int32) : Nat → Int64
  | 0 => 0
  | n + 1 => fm_ts m n + (fm_gv (m n)).toInt64
theorem fm_ucS (m : Nat → Option Int32) (n : Nat) : fm_uc m (n + 1) = fm_uc m n + fm_ob (m n) := rfl
theorem fm_tsS (m : Nat → Option Int32) (n : Nat) : fm_ts m (n + 1) = fm_ts m n + (fm_gv (m n)).toInt64 := rfl
theorem fm_ob_le (x : Option Int32) : fm_ob x ≤ 1 := by
  cases x
  · exact Nat.zero_le 1
  · exact Nat.le_refl 1
/-- pages q up to i (left out) hold y -/
def fm_fl (m : Nat → Option Int32) (y : Option Int32) (q i : Nat) : Nat → Option Int32 := fun x => if q ≤ x ∧ x < i then y else m x
theorem fm_fl0 {m : Nat → Option Int32} {y : Option Int32} {q : Nat} : fm_fl m y q q = m := by
  funext x
  exact if_neg (by omega)
theorem fm_fls {m : Nat → Option Int32} {y : Option Int32} {q i : Nat} (h : q ≤ i) : fm_ms (fm_fl m y q i) i y = fm_fl m y q (i + 1) := by
  funext x
  by_cases e : x = i
  · rw [e, fm_mss]
    exact (if_pos (by omega)).symm
  · rw [fm_msn e]
    show (if q ≤ x ∧ x < i then y else m x) = (if q ≤ x ∧ x < i + 1 then y else m x)
    by_cases l : q ≤ x ∧ x < i
    · rw [if_pos l, if_pos (show q ≤ x ∧ x < i + 1 by omega)]
    · rw [if_neg l, if_neg (show ¬ (q ≤ x ∧ x < i + 1) by omega)]
end
section
/-! the state by its ghosts, and the methods that only read -/
abbrev fm_st (k o : Nat → Nat) (c : Nat → Int32) (s w pr : Nat → Nat) (act ns sp : Nat) : SX :=
  ((fm_a act), (lN ns), (nI sp), (fun zz => nI (k zz)), (fun zz => nI (o zz)), c, (fun zz => lN (s zz)), (fun zz => fm_w (w zz)), (fun zz => nI (pr zz)))
theorem xw_1 : ¬ (1 : Int32) = 0 := by decide
theorem xw_out0 {post : Int32 → Prop} {u : SX} {p : Nat} (hp : p < 12) (h : post 0) : wpX_isOutside post u (nI p) := by
  obtain ⟨u1, u2, u3, u4, u5, u6, u7, u8, u9⟩ := u
  exact br_f (nI_pos (by omega)) (pk_lt p 12 (fun _ => h) (fun z => absurd hp (by omega)))
theorem xw_out1 {post : Int32 → Prop} {u : SX} {x : Int32} (hx : x < 0 ∨ nI 12 ≤ x) (h : post 1) : wpX_isOutside post u x := by
  obtain ⟨u1, u2, u3, u4, u5, u6, u7, u8, u9⟩ := u
  by_cases z : x < 0
  · exact br_t z h
  · rcases hx with hx | hx
    · exact absurd hx z
    · exact br_f z (br_f (Int32.not_lt.mpr hx) h)
theorem fm_wc {x : Nat} (h : x < 32) : (fm_w x).toNatClampNeg = x := by rw [fm_wl h]; exact nI_clamp (by omega)
theorem fm_ac {x : Nat} (h : x < 8) : (fm_a x).toNatClampNeg = x := by rw [fm_al h]; exact nI_clamp (by omega)
theorem fm_win {x : Nat} (h : x < 32) : vp_in (fm_w x) 32 := by rw [fm_wl h]; exact vp_in_nI h (by omega)
theorem fm_ain {x : Nat} (h : x < 8) : vp_in (fm_a x) 8 := by rw [fm_al h]; exact vp_in_nI h (by omega)
theorem fm_aeq {b act : Nat} (hb : b < 8) (ha : act ≤ 8) : nI b = fm_a act ↔ b = act := by
  by_cases e : act = 8
  · rw [e, fm_a8]
    exact ⟨fun z => absurd z (fm_m1 (by omega)), fun z => absurd z (by omega)⟩
  · rw [fm_al (show act < 8 by omega)]
    exact nI_eq (by omega) (by omega)
theorem xw_has {k o : Nat → Nat} {c : Nat → Int32} {s w pr : Nat → Nat} {act ns sp : Nat} {post : Int32 → Prop} {p : Nat} (hp : p < 12) (hw : w p ≤ 32) (hk : w p < 32 → k (w p) ≤ 3) (h : post (nI (fm_ob (fm_v k w c p)))) : wpX_has post (fm_st k o c s w pr act ns sp) (nI p) := by
  unfold wpX_has
  dsimp only
  have hc : (nI p).toNatClampNeg = p := nI_clamp (by omega)
  refine xw_out0 hp (br_t rfl ⟨pk_in p 12 hp, nm_r (e' := fm_w (w p)) (by rw [hc]) ?_⟩)
  by_cases h32 : w p = 32
  · rw [fm_v0 (show ¬ (w p < 32 ∧ k (w p) = 1) by omega)] at h
    exact br_t (by rw [h32]; exact fm_w32) h
  · have hl : w p < 32 := by omega
    have hk := hk hl
    refine br_f (fm_wm hl) ⟨fm_win hl, ?_⟩
    rw [fm_wc hl]
    by_cases h1 : k (w p) = 1
    · rw [fm_v1 (show w p < 32 ∧ k (w p) = 1 from ⟨hl, h1⟩)] at h
      exact br_t (by rw [h1]; rfl) h
    · rw [fm_v0 (show ¬ (w p < 32 ∧ k (w p) = 1) from fun z => h1 z.2)] at h
      exact br_f (fun z => h1 ((nI_eq (by omega) (by decide)).mp (z.trans (show (1 : Int32) = nI 1 from rfl)))) h
theorem xw_count {k o : Nat → Nat} {c : Nat → Int32} {s w pr : Nat → Nat} {act ns sp : Nat} {post : Int32 → Prop} {p : Nat} (hp : p < 12) (hw : w p ≤ 32) (hk : w p < 32 → k (w p) ≤ 3) (h : post (nI (fm_ob (fm_v k w c p)))) : wpX_countOf post (fm_st k o c s w pr act ns sp) (nI p) := by
  unfold wpX_countOf
  dsimp only
  refine xw_has hp hw hk ?_
  generalize fm_v k w c p = x at h
  cases x with
  | none => exact br_t rfl h
  | some y => exact br_f xw_1 h
theorem xw_read {k o : Nat → Nat} {c : Nat → Int32} {s w pr : Nat → Nat} {act ns sp : Nat} {post : Int32 → Prop} {p : Nat} (hp : p < 12) (hw : w p ≤ 32) (hk : w p < 32 → k (w p) ≤ 3) (h : post (fm_gv (fm_v k w c p))) : wpX_read post (fm_st k o c s w pr act ns sp) (nI p) := by
  unfold wpX_read
  dsimp only
  refine xw_has hp hw hk ?_
  have hc : (nI p).toNatClampNeg = p := nI_clamp (by omega)
  by_cases hv : w p < 32 ∧ k (w p) = 1
  · rw [fm_v1 hv] at h ⊢
    refine br_f xw_1 ⟨pk_in p 12 hp, ?_⟩
    rw [hc, fm_wc hv.1]
    exact ⟨fm_win hv.1, h⟩
  · rw [fm_v0 hv] at h ⊢
    exact br_t rfl h
theorem xw_room1 {k o : Nat → Nat} {c : Nat → Int32} {s w pr : Nat → Nat} {act ns sp : Nat} {post : Int32 → Prop} (ha : act < 8) (hr : pr act < 4) (h : post 1) : wpX_hasRoom post (fm_st k o c s w pr act ns sp) := by
  unfold wpX_hasRoom
  dsimp only
  refine br_f (fm_am ha) ⟨fm_ain ha, ?_⟩
  rw [fm_ac ha]
  exact br_f (nI_ge (b := 4) hr (by decide)) h
theorem xw_room0 {k o : Nat → Nat} {c : Nat → Int32} {s w pr : Nat → Nat} {act ns sp : Nat} {post : Int32 → Prop} (hr : act = 8 ∨ (act < 8 ∧ pr act = 4)) (h : post 0) : wpX_hasRoom post (fm_st k o c s w pr act ns sp) := by
  unfold wpX_hasRoom
  dsimp only
  rcases hr with hr | ⟨ha, hr⟩
  · exact br_t (by rw [hr]; exact fm_a8) h
  · refine br_f (fm_am ha) ⟨fm_ain ha, ?_⟩
    rw [fm_ac ha, hr]
    exact br_t (nI_le (a := 4) (b := 4) (Nat.le_refl 4) (by decide)) h
theorem xw_isIn {post : Int32 → Prop} {u : SX} {a b : Nat} (ha : a ≤ 32) (hb : b < 8) (h1 : a / 4 = b → post 1) (h0 : a / 4 ≠ b → post 0) : wpX_isIn post u (fm_w a) (nI b) := by
  obtain ⟨u1, u2, u3, u4, u5, u6, u7, u8, u9⟩ := u
  by_cases e : a = 32
  · exact br_t (by rw [e]; exact fm_w32) (h0 (by omega))
  · have hl : a < 32 := by omega
    refine br_f (fm_wm hl) ⟨by decide, ?_⟩
    exact pk_eq (a / 4) b h1 h0 (by rw [fm_wl hl]; exact pk_div (d := 4) (by omega) (by decide) (by decide)) rfl
theorem xw_live {k o : Nat → Nat} {c : Nat → Int32} {s w pr : Nat → Nat} {act ns sp : Nat} {post : Int32 → Prop} {b : Nat} (hw : ∀ p, p < 12 → w p ≤ 32) (hb : b < 8) (h : post (nI (fm_lc w b 12))) : wpX_liveIn post (fm_st k o c s w pr act ns sp) (nI b) := by
  unfold wpX_liveIn
  dsimp only
  refine loop_0 (fun n i (x : Nat) => wX_liveIn_4 post (nI b) (fm_a act) (lN ns) (nI sp) (fun zz => nI (k zz)) (fun zz => nI (o zz)) c (fun zz => lN (s zz)) (fun zz => fm_w (w zz)) (fun zz => nI (pr zz)) n (nI x) (nI i)) (fun i x => x = fm_lc w b i) 12 0 rfl ?_ ?_
  · intro n x hx
    exact br_t (nI_le (a := 12) (b := 12) (Nat.le_refl _) (by decide)) (hx ▸ h)
  · intro n i x hi hx hn
    have hc : (nI i).toNatClampNeg = i := nI_clamp (by omega)
    refine br_f (nI_ge (b := 12) hi (by decide)) ⟨pk_in i 12 hi, ?_⟩
    show wpX_isIn _ (fm_st k o c s w pr act ns sp) (fm_w (w (nI i).toNatClampNeg)) (nI b)
    rw [hc]
    refine xw_isIn (hw i hi) hb (fun e => ?_) (fun e => ?_)
    · refine br_f xw_1 (nm_r (nI_1 x) (nm_r (nI_1 i) (hn (x + 1) ?_)))
      show x + 1 = fm_lc w b (i + 1)
      rw [hx, fm_lcS, if_pos e]
    · refine br_t rfl (nm_r (nI_1 i) (hn x ?_))
      show x = fm_lc w b (i + 1)
      rw [hx, fm_lcS, if_neg e] <;> rfl
theorem xw_erased {k o : Nat → Nat} {c : Nat → Int32} {s w pr : Nat → Nat} {act ns sp : Nat} {post : Int32 → Prop} (hp : ∀ b, b < 8 → pr b ≤ 4) (ha : act ≤ 8) (h : post (nI (fm_ez pr act 8))) : wpX_erasedBlocks post (fm_st k o c s w pr act ns sp) := by
  unfold wpX_erasedBlocks
  dsimp only
  refine loop_0 (fun n i (x : Nat) => wX_erasedBlocks_4 post (fm_a act) (lN ns) (nI sp) (fun zz => nI (k zz)) (fun zz => nI (o zz)) c (fun zz => lN (s zz)) (fun zz => fm_w (w zz)) (fun zz => nI (pr zz)) n (nI x) (nI i)) (fun i x => x = fm_ez pr act i) 8 0 rfl ?_ ?_
  · intro n x hx
    exact br_t (nI_le (a := 8) (b := 8) (Nat.le_refl _) (by decide)) (hx ▸ h)
  · intro n i x hi hx hn
    have hc : (nI i).toNatClampNeg = i := nI_clamp (by omega)
    have hpi := hp i hi
    refine br_f (nI_ge (b := 8) hi (by decide)) ⟨pk_in i 8 hi, ?_⟩
    refine pk_eq (pr i) 0 (fun e => ?_) (fun e => ?_) (congrArg (fun j => nI (pr j)) hc) rfl
    · by_cases ea : i = act
      · refine br_t ((fm_aeq hi ha).mpr ea) (nm_r (nI_1 i) (hn x ?_))
        show x = fm_ez pr act (i + 1)
        rw [hx, fm_ezS, if_neg (show ¬ (pr i = 0 ∧ i ≠ act) from fun z => z.2 ea)] <;> rfl
      · refine br_f (fun z => ea ((fm_aeq hi ha).mp z)) (nm_r (nI_1 x) (nm_r (nI_1 i) (hn (x + 1) ?_)))
        show x + 1 = fm_ez pr act (i + 1)
        rw [hx, fm_ezS, if_pos (show pr i = 0 ∧ i ≠ act from ⟨e, ea⟩)]
    · refine nm_r (nI_1 i) (hn x ?_)
      show x = fm_ez pr act (i + 1)
      rw [hx, fm_ezS, if_neg (show ¬ (pr i = 0 ∧ i ≠ act) from fun z => e z.1)] <;> rfl
end
section
/-! the block that is taken, and the one that is emptied -/
theorem xw_empt {k o : Nat → Nat} {c : Nat → Int32} {s w pr : Nat → Nat} {act ns sp : Nat} {post : Int32 → Prop} (h : fm_A k o s w pr act ns) (ha : act < 8) (hz : fm_ez pr act 8 ≤ 2) (H : ∀ b, b < 8 → pr b = 4 → fm_lc w b 12 ≤ 2 → post (nI b)) : wpX_emptiestFullBlock post (fm_st k o c s w pr act ns sp) := by
  obtain ⟨h1, h2, h3, h4, h5, h6, h7, h8, h9⟩ := h
  unfold wpX_emptiestFullBlock
  dsimp only
  refine loop_0 (fun n i (x : Nat × Nat) => wX_emptiestFullBlock_6 post (fm_a act) (lN ns) (nI sp) (fun zz => nI (k zz)) (fun zz => nI (o zz)) c (fun zz => lN (s zz)) (fun zz => fm_w (w zz)) (fun zz => nI (pr zz)) n (fm_a x.1) (nI x.2) (nI i)) (fun i x => (x.1 = 8 ∧ x.2 = 5 ∧ ∀ b, b < i → pr b = 4 → 5 ≤ fm_lc w b 12) ∨ (x.1 < i ∧ pr x.1 = 4 ∧ x.2 = fm_lc w x.1 12 ∧ ∀ b, b < i → pr b = 4 → x.2 ≤ fm_lc w b 12)) 8 (8, 5) (Or.inl ⟨rfl, rfl, fun b hb => absurd hb (by omega)⟩) ?_ ?_
  · intro n x hx
    refine br_t (nI_le (a := 8) (b := 8) (Nat.le_refl _) (by decide)) ?_
    rcases hx with ⟨e1, e2, e3⟩ | ⟨e1, e2, e3, e4⟩
    · exact (fm_few (w := w) ha h7 hz (fun b hb hb4 => by have := e3 b hb hb4; omega)).elim
    · rw [fm_al e1]
      by_cases z : 3 ≤ x.2
      · exact (fm_few (w := w) ha h7 hz (fun b hb hb4 => by have := e4 b hb hb4; omega)).elim
      · exact H x.1 e1 e2 (by omega)
  · intro n i x hi hx hn
    obtain ⟨x1, x2⟩ := x
    have hc : (nI i).toNatClampNeg = i := nI_clamp (by omega)
    have hpi := h2 i hi
    have hli := fm_lc_le w i 12
    have hx2 : x2 ≤ 12 := by
      rcases hx with ⟨e1, e2, e3⟩ | ⟨e1, e2, e3, e4⟩
      · have e2 : x2 = 5 := e2
        omega
      · have e3 : x2 = fm_lc w x1 12 := e3
        have := fm_lc_le w x1 12
        omega
    refine br_f (nI_ge (b := 8) hi (by decide)) ?_
    refine xw_live (fun p hp => (h5 p hp).1) hi ⟨pk_in i 8 hi, ?_⟩
    refine pk_eq (pr i) 4 (fun e => ?_) (fun e => ?_) (congrArg (fun j => nI (pr j)) hc) rfl
    · refine pk_le x2 (fm_lc w i 12) (fun l => ?_) (fun l => ?_)
      · refine nm_r (nI_1 i) (hn (x1, x2) ?_)
        rcases hx with ⟨e1, e2, e3⟩ | ⟨e1, e2, e3, e4⟩
        · refine Or.inl ⟨e1, e2, fun b hb hb4 => ?_⟩
          by_cases q : b = i
          · have e2 : x2 = 5 := e2
            rw [q]; omega
          · exact e3 b (by omega) hb4
        · refine Or.inr ⟨Nat.lt_succ_of_lt e1, e2, e3, fun b hb hb4 => ?_⟩
          by_cases q : b = i
          · rw [q]; exact l
          · exact e4 b (by omega) hb4
      · refine nm_r (nI_1 i) ?_
        have t := hn (i, fm_lc w i 12) (Or.inr ⟨Nat.lt_succ_self i, e, rfl, fun b hb hb4 => by
          show fm_lc w i 12 ≤ fm_lc w b 12
          by_cases q : b = i
          · rw [q]; exact Nat.le_refl _
          · rcases hx with ⟨e1, e2, e3⟩ | ⟨e1, e2, e3, e4⟩
            · have e2 : x2 = 5 := e2
              have := e3 b (by omega) hb4
              omega
            · have e4 := e4 b (by omega) hb4
              have e4 : x2 ≤ fm_lc w b 12 := e4
              omega⟩)
        have t : wX_emptiestFullBlock_6 post (fm_a act) (lN ns) (nI sp) (fun zz => nI (k zz)) (fun zz => nI (o zz)) c (fun zz => lN (s zz)) (fun zz => fm_w (w zz)) (fun zz => nI (pr zz)) n (fm_a i) (nI (fm_lc w i 12)) (nI (i + 1)) := t
        rw [fm_al hi] at t
        exact t
    · refine nm_r (nI_1 i) (hn (x1, x2) ?_)
      rcases hx with ⟨e1, e2, e3⟩ | ⟨e1, e2, e3, e4⟩
      · refine Or.inl ⟨e1, e2, fun b hb hb4 => ?_⟩
        by_cases q : b = i
        · rw [q] at hb4; exact absurd hb4 e
        · exact e3 b (by omega) hb4
      · refine Or.inr ⟨Nat.lt_succ_of_lt e1, e2, e3, fun b hb hb4 => ?_⟩
        by_cases q : b = i
        · rw [q] at hb4; exact absurd hb4 e
        · exact e4 b (by omega) hb4
theorem xw_openB {k o : Nat → Nat} {c : Nat → Int32} {s w pr : Nat → Nat} {act ns sp : Nat} {post : SX → Prop} (hp : ∀ b, b < 8 → pr b ≤ 4) (hz : 1 ≤ fm_ez pr act 8) (H : ∀ a, a < 8 → pr a = 0 → post (fm_st k o c s w pr a ns sp)) : wpX_openBlock post (fm_st k o c s w pr act ns sp) := by
  unfold wpX_openBlock
  dsimp only
  refine loop_0 (fun n i (_ : Unit) => wX_openBlock_7 post (fm_a 8) (lN ns) (nI sp) (fun zz => nI (k zz)) (fun zz => nI (o zz)) c (fun zz => lN (s zz)) (fun zz => fm_w (w zz)) (fun zz => nI (pr zz)) n (nI i)) (fun i _ => ∀ b, b < i → pr b ≠ 0) 8 () (fun b hb => absurd hb (by omega)) ?_ ?_
  · intro n x hx
    exact (fm_ex0 hz hx).elim
  · intro n i x hi hx hn
    have hc : (nI i).toNatClampNeg = i := nI_clamp (by omega)
    have hpi := hp i hi
    refine br_f (nI_ge (b := 8) hi (by decide)) ⟨pk_in i 8 hi, ?_⟩
    refine pk_eq (pr i) 0 (fun e => ?_) (fun e => ?_) (congrArg (fun j => nI (pr j)) hc) rfl
    · have t := H i hi e
      unfold fm_st at t
      rw [fm_al hi] at t
      exact t
    · refine nm_r (nI_1 i) (hn () ?_)
      intro b hb
      by_cases q : b = i
      · rw [q]; exact e
      · exact hx b (by omega)
theorem xw_prog {k o : Nat → Nat} {c : Nat → Int32} {s w pr : Nat → Nat} {act ns sp : Nat} {post : SX → Prop} {p kd a : Nat} {x : Int32} (ha : act < 8) (hr : pr act < 4) (hp : p < 12) (hk : kd = 1 ∨ kd = 2) (ea : a = 4 * act + pr act)
    (H : post (fm_st (fm_u k a kd) (fm_u o a p) (upd c a x) (fm_u s a ns) (fm_u w p a) (fm_u pr act (pr act + 1)) act (ns + 1) sp)) : wpX_program post (fm_st k o c s w pr act ns sp) (nI p) (nI kd) x := by
  unfold wpX_program
  dsimp only
  have hA : a < 32 := by omega
  have hia : vp_in (nI a) 32 := vp_in_nI hA (by omega)
  have hcl : (nI a).toNatClampNeg = a := nI_clamp (by omega)
  have hca := fm_ac ha
  refine xw_room1 ha hr (br_f xw_1 ⟨fm_ain ha, nm_r (e' := nI a) ?_ ⟨hia, nm_r (e' := fun j => nI (fm_u k a kd j)) ?_ ⟨hia, nm_r (e' := fun j => nI (fm_u o a p j)) ?_ ⟨hia, nm_r (e' := upd c a x) ?_ ⟨hia, nm_r (e' := fun j => lN (fm_u s a ns j)) ?_ ⟨fm_ain ha, fm_ain ha, nm_r (e' := fun j => nI (fm_u pr act (pr act + 1) j)) ?_ (nm_r (lN_1 ns) (br_f ?_ ⟨pk_in p 12 hp, nm_r (e' := fun j => fm_w (fm_u w p a j)) ?_ H⟩))⟩⟩⟩⟩⟩⟩)
  · rw [hca, fm_al ha, show (4 : Int32) = nI 4 from rfl, pk_mul, nI_add]
    exact congrArg nI (by omega)
  · rw [hcl]; exact fm_updI
  · rw [hcl]; exact fm_updI
  · rw [hcl]
  · rw [hcl]; exact fm_updL
  · rw [hca, nI_1]; exact fm_updI
  · exact fun z => absurd ((nI_eq (by omega) (by decide)).mp (z.trans (show (3 : Int32) = nI 3 from rfl))) (by omega)
  · rw [nI_clamp (show p < 2 ^ 31 by omega)]; exact fm_updW hA
theorem xw_prog3 {k o : Nat → Nat} {c : Nat → Int32} {s w pr : Nat → Nat} {act ns sp : Nat} {post : SX → Prop} {p a : Nat} {x : Int32} (ha : act < 8) (hr : pr act < 4) (ea : a = 4 * act + pr act)
    (H : post (fm_st (fm_u k a 3) (fm_u o a p) (upd c a x) (fm_u s a ns) w (fm_u pr act (pr act + 1)) act (ns + 1) sp)) : wpX_program post (fm_st k o c s w pr act ns sp) (nI p) (nI 3) x := by
  unfold wpX_program
  dsimp only
  have hA : a < 32 := by omega
  have hia : vp_in (nI a) 32 := vp_in_nI hA (by omega)
  have hcl : (nI a).toNatClampNeg = a := nI_clamp (by omega)
  have hca := fm_ac ha
  refine xw_room1 ha hr (br_f xw_1 ⟨fm_ain ha, nm_r (e' := nI a) ?_ ⟨hia, nm_r (e' := fun j => nI (fm_u k a 3 j)) ?_ ⟨hia, nm_r (e' := fun j => nI (fm_u o a p j)) ?_ ⟨hia, nm_r (e' := upd c a x) ?_ ⟨hia, nm_r (e' := fun j => lN (fm_u s a ns j)) ?_ ⟨fm_ain ha, fm_ain ha, nm_r (e' := fun j => nI (fm_u pr act (pr act + 1) j)) ?_ (nm_r (lN_1 ns) (br_t rfl H))⟩⟩⟩⟩⟩⟩)
  · rw [hca, fm_al ha, show (4 : Int32) = nI 4 from rfl, pk_mul, nI_add]
    exact congrArg nI (by omega)
  · rw [hcl]; exact fm_updI
  · rw [hcl]; exact fm_updI
  · rw [hcl]
  · rw [hcl]; exact fm_updL
  · rw [hca, nI_1]; exact fm_updI
theorem xw_erase {k o : Nat → Nat} {c : Nat → Int32} {s w pr : Nat → Nat} {act ns sp : Nat} {post : SX → Prop} {b : Nat} (hb : b < 8) (H : post (fm_st (fm_e k b) (fm_e o b) (fm_ec c b) (fm_e s b) w (fm_u pr b 0) act ns sp)) : wpX_eraseBlock post (fm_st k o c s w pr act ns sp) (nI b) := by
  unfold wpX_eraseBlock
  dsimp only
  refine nm_r (e' := nI (4 * b)) ?_ ?_
  · rw [show (4 : Int32) = nI 4 from rfl, pk_mul]
    exact congrArg nI (by omega)
  have key := loop_0 (fun n j (_ : Unit) => wX_eraseBlock_6 post (nI b) (nI (4 * b)) (fm_a act) (lN ns) (nI sp) n (nI (4 * b + j)) (fun zz => nI ((fm_ej k b j) zz)) (fun zz => nI ((fm_ej o b j) zz)) (fm_ecj c b j) (fun zz => lN ((fm_ej s b j) zz)) (fun zz => fm_w (w zz)) (fun zz => nI (pr zz))) (fun _ _ => True) 4 () trivial ?_ ?_
  · obtain ⟨n, hn⟩ := key
    refine ⟨n, ?_⟩
    have hn : wX_eraseBlock_6 post (nI b) (nI (4 * b)) (fm_a act) (lN ns) (nI sp) n (nI (4 * b)) (fun zz => nI ((fm_ej k b 0) zz)) (fun zz => nI ((fm_ej o b 0) zz)) (fm_ecj c b 0) (fun zz => lN ((fm_ej s b 0) zz)) (fun zz => fm_w (w zz)) (fun zz => nI (pr zz)) := hn
    rw [fm_ej0, fm_ej0, fm_ej0, fm_ecj0] at hn
    exact hn
  · intro n _ _
    have e4 : nI (4 * b) + 4 = nI (4 * b + 4) := by rw [show (4 : Int32) = nI 4 from rfl, nI_add]
    refine br_t (by rw [e4]; exact nI_le (Nat.le_refl _) (by omega)) ⟨pk_in b 8 hb, nm_r (e' := fun j => nI (fm_u pr b 0 j)) ?_ ?_⟩
    · rw [nI_clamp (show b < 2 ^ 31 by omega)]; exact fm_updI
    · rw [fm_ej4, fm_ej4, fm_ej4, fm_ecj4]
      exact H
  · intro n j _ hj _ hn
    have e4 : nI (4 * b) + 4 = nI (4 * b + 4) := by rw [show (4 : Int32) = nI 4 from rfl, nI_add]
    have hv : vp_in (nI (4 * b + j)) 32 := vp_in_nI (by omega) (by omega)
    have hc : (nI (4 * b + j)).toNatClampNeg = 4 * b + j := nI_clamp (by omega)
    refine br_f (by rw [e4]; exact nI_ge (by omega) (by omega)) ⟨hv, nm_r (e' := fun i => nI (fm_ej k b (j + 1) i)) ?_ ⟨hv, nm_r (e' := fun i => nI (fm_ej o b (j + 1) i)) ?_ ⟨hv, nm_r (e' := fm_ecj c b (j + 1)) ?_ ⟨hv, nm_r (e' := fun i => lN (fm_ej s b (j + 1) i)) ?_ (nm_r (nI_1 (4 * b + j)) (hn () trivial))⟩⟩⟩⟩
    · rw [hc, ← fm_ejs]; exact fm_updI
    · rw [hc, ← fm_ejs]; exact fm_updI
    · rw [hc, ← fm_ecjs]
    · rw [hc, ← fm_ejs]; exact fm_updL
end
section
/-! emptying a block, and appending a record -/
theorem xw_recl {post : SX → Prop} {m : Nat → Option Int32} {b act sp N e : Nat} (ha : act < 8) (hb : b < 8) (hba : b ≠ act)
    (H : ∀ (k o : Nat → Nat) (c : Nat → Int32) (s w pr : Nat → Nat) (ns : Nat), fm_A k o s w pr act ns → pr act < 4 → fm_ez pr act 8 = e + 1 → ns ≤ N → (∀ q, q < 12 → fm_v k w c q = m q) → post (fm_st k o c s w pr act ns sp)) :
    ∀ (d p : Nat) (k o : Nat → Nat) (c : Nat → Int32) (s w pr : Nat → Nat) (ns : Nat), p + d = 12 → fm_A k o s w pr act ns → pr b = 4 → pr act + fm_lc w b 12 ≤ 2 → ns + fm_lc w b 12 ≤ N → fm_ez pr act 8 = e → (∀ q, q < p → w q / 4 ≠ b) → (∀ q, q < 12 → fm_v k w c q = m q) → wX_reclaim_8 post (nI b) (d + 1) (nI p) (fm_a act) (lN ns) (nI sp) (fun zz => nI (k zz)) (fun zz => nI (o zz)) c (fun zz => lN (s zz)) (fun zz => fm_w (w zz)) (fun zz => nI (pr zz)) := by
  intro d
  induction d with
  | zero =>
    intro p k o c s w pr ns hpd hA h4 hpr hN he hq hv
    have hp : p = 12 := by omega
    rw [hp]
    refine br_t (nI_le (a := 12) (b := 12) (Nat.le_refl _) (by decide)) (xw_erase hb ?_)
    refine H _ _ _ _ _ _ _ (fm_erase hA hb (fun q hq12 => hq q (by omega))) ?_ ?_ (by omega) ?_
    · rw [fm_un (f := pr) (show act ≠ b from fun z => hba z.symm)]; omega
    · rw [fm_ez_er (show pr b ≠ 0 by omega) hba 8, if_pos hb, he]
    · intro q hq12
      rw [fm_ve (hq q (by omega))]
      exact hv q hq12
  | succ d ih =>
    intro p k o c s w pr ns hpd hA h4 hpr hN he hq hv
    have hp : p < 12 := by omega
    have hc : (nI p).toNatClampNeg = p := nI_clamp (by omega)
    have hA2 := hA
    obtain ⟨h1, h2, h3, h4', h5, h6, h7, h8, h9⟩ := hA2
    refine br_f (nI_ge (b := 12) hp (by decide)) ⟨pk_in p 12 hp, nm_r (e' := fm_w (w p)) (congrArg (fun j => fm_w (w j)) hc) ?_⟩
    refine xw_isIn (h5 p hp).1 hb (fun e1 => ?_) (fun e0 => ?_)
    · have hl : w p < 32 := by omega
      have hk := ((h5 p hp).2 hl).1
      have hpos := fm_lc_pos (w := w) (b := b) (p := p) e1 12 hp
      refine br_f xw_1 ⟨fm_win hl, fm_win hl, ?_⟩
      show wpX_program _ (fm_st k o c s w pr act ns sp) (nI p) (nI (k (fm_w (w p)).toNatClampNeg)) (c (fm_w (w p)).toNatClampNeg)
      rw [fm_wc hl]
      refine xw_prog (a := 4 * act + pr act) ha (by omega) hp hk rfl ?_
      have hmv := fm_lc_move (w := w) (b := b) (p := p) (x := 4 * act + pr act) e1 (by omega) 12 hp
      refine nm_r (nI_1 p) (ih (p + 1) _ _ _ _ _ _ _ (by omega) (fm_prog hA ha (by omega) hp hk rfl) ?_ ?_ (by omega) ?_ ?_ ?_)
      · rw [fm_un (f := pr) hba]; exact h4
      · rw [fm_us (f := pr)]; omega
      · rw [fm_ez_act]; exact he
      · intro q hqp
        by_cases z : q = p
        · rw [z, fm_us (f := w)]; omega
        · rw [fm_un (f := w) z]; exact hq q (by omega)
      · intro q hq12
        rw [fm_vm hA ha (by omega) rfl hp hl hq12]
        exact hv q hq12
    · refine br_t rfl (nm_r (nI_1 p) (ih (p + 1) k o c s w pr ns (by omega) hA h4 hpr hN he ?_ hv))
      intro q hqp
      by_cases z : q = p
      · rw [z]; exact e0
      · exact hq q (by omega)
theorem xw_reclaim {k o : Nat → Nat} {c : Nat → Int32} {s w pr : Nat → Nat} {act ns sp : Nat} {post : SX → Prop} {m : Nat → Option Int32} {b : Nat} (hA : fm_A k o s w pr act ns) (ha : act < 8) (h0 : pr act = 0) (hb : b < 8) (h4 : pr b = 4) (hl : fm_lc w b 12 ≤ 2) (hv : ∀ q, q < 12 → fm_v k w c q = m q)
    (H : ∀ (k' o' : Nat → Nat) (c' : Nat → Int32) (s' w' pr' : Nat → Nat) (ns' : Nat), fm_A k' o' s' w' pr' act ns' → pr' act < 4 → fm_ez pr' act 8 = fm_ez pr act 8 + 1 → ns' ≤ ns + 2 → (∀ q, q < 12 → fm_v k' w' c' q = m q) → post (fm_st k' o' c' s' w' pr' act ns' sp)) : wpX_reclaim post (fm_st k o c s w pr act ns sp) (nI b) := by
  unfold wpX_reclaim
  dsimp only
  have hba : b ≠ act := by
    intro z
    rw [z] at h4
    omega
  exact br_f (fm_m1 (by omega)) ⟨13, xw_recl ha hb hba H 12 0 k o c s w pr ns rfl hA h4 (by omega) (by omega) rfl (fun q hq => absurd hq (by omega)) hv⟩
/-- the object at a call's end: at most n stamps, the map m -/
def fm_G (n : Nat) (m : Nat → Option Int32) (u : SX) : Prop :=
  ∃ (k o : Nat → Nat) (c : Nat → Int32) (s w pr : Nat → Nat) (act ns sp : Nat), u = (fm_st k o c s w pr act ns sp) ∧ fm_A k o s w pr act ns ∧ 1 ≤ sp ∧ sp ≤ 3 ∧ sp ≤ fm_ez pr act 8 ∧ ns ≤ n ∧ ∀ q, q < 12 → fm_v k w c q = m q
theorem fm_Gc {n n' : Nat} {m m' : Nat → Option Int32} {u : SX} (h : fm_G n m u) (hn : n ≤ n') (hm : ∀ q, q < 12 → m q = m' q) : fm_G n' m' u := by
  obtain ⟨k, o, c, s, w, pr, act, ns, sp, hu, hA, h1, h2, h3, h4, h5⟩ := h
  exact ⟨k, o, c, s, w, pr, act, ns, sp, hu, hA, h1, h2, h3, by omega, fun q hq => (h5 q hq).trans (hm q hq)⟩
theorem fm_muc {m m' : Nat → Option Int32} {p kd q : Nat} {x : Int32} (h : m q = m' q) : fm_mu m p kd x q = fm_mu m' p kd x q := by
  unfold fm_mu
  rw [h]
theorem xw_a34 {k o : Nat → Nat} {c : Nat → Int32} {s w pr : Nat → Nat} {act ns sp : Nat} {post : SX → Prop} {m : Nat → Option Int32} {p kd n : Nat} {x : Int32} (hA : fm_A k o s w pr act ns) (ha : act < 8) (hr : pr act < 4) (hp : p < 12) (hk : kd = 1 ∨ kd = 2 ∨ kd = 3) (h1 : 1 ≤ sp) (h3 : sp ≤ 3) (hz : sp ≤ fm_ez pr act 8) (hn : ns + 1 ≤ n) (hv : ∀ q, q < 12 → fm_v k w c q = m q)
    (H : ∀ u, fm_G n (fm_mu m p kd x) u → post u) : wX_append_34 post (nI p) (nI kd) x (fm_a act) (lN ns) (nI sp) (fun zz => nI (k zz)) (fun zz => nI (o zz)) c (fun zz => lN (s zz)) (fun zz => fm_w (w zz)) (fun zz => nI (pr zz)) := by
  unfold wX_append_34
  by_cases h : kd = 3
  · rw [h]
    rw [h] at H
    refine xw_prog3 (a := 4 * act + pr act) ha hr rfl (H _ ?_)
    refine ⟨_, _, _, _, _, _, _, _, _, rfl, fm_prog3 (p := p) hA ha hr rfl, h1, h3, ?_, by omega, fun q hq => ?_⟩
    · rw [fm_ez_act]; exact hz
    · rw [fm_v3 (p := p) hA ha hr rfl hq]
      exact fm_muc (hv q hq)
  · have hk2 : kd = 1 ∨ kd = 2 := by omega
    refine xw_prog (a := 4 * act + pr act) ha hr hp hk2 rfl (H _ ?_)
    refine ⟨_, _, _, _, _, _, _, _, _, rfl, fm_prog hA ha hr hp hk2 rfl, h1, h3, ?_, by omega, fun q hq => ?_⟩
    · rw [fm_ez_act]; exact hz
    · rw [fm_v12 hA ha hr rfl hk2 hq]
      exact fm_muc (hv q hq)
theorem xw_append {post : SX → Prop} {u : SX} {m : Nat → Option Int32} {p kd n : Nat} {x : Int32} (G : fm_G n m u) (hp : p < 12) (hk : kd = 1 ∨ kd = 2 ∨ kd = 3)
    (H : ∀ u', fm_G (n + 3) (fm_mu m p kd x) u' → post u') : wpX_append post u (nI p) (nI kd) x := by
  obtain ⟨k, o, c, s, w, pr, act, ns, sp, rfl, hA, h1, h3, hz, hn, hv⟩ := G
  have hA2 := hA
  obtain ⟨a1, a2, a3, a4, a5, a6, a7, a8, a9⟩ := hA2
  unfold wpX_append
  dsimp only
  by_cases hr : act < 8 ∧ pr act < 4
  · exact xw_room1 hr.1 hr.2 (br_f xw_1 (xw_a34 hA hr.1 hr.2 hp hk h1 h3 hz (by omega) hv H))
  · have hf : act < 8 → pr act = 4 := by
      intro z
      have := a2 act z
      omega
    refine xw_room0 (by omega) (br_t rfl ?_)
    refine xw_openB a2 (by omega) (fun a ha h0 => ?_)
    have hA3 := fm_take hA hf ha
    have ez := fm_ez_op (act := act) h0 (by
      by_cases z : act < 8
      · exact Or.inl (by rw [hf z]; decide)
      · exact Or.inr (by omega)) 8 (Nat.le_refl 8)
    rw [if_pos ha] at ez
    dsimp only
    refine xw_erased a2 (by omega) ?_
    by_cases hs : sp ≤ fm_ez pr a 8
    · exact br_t (nI_le hs (by have := fm_ez_le pr a 8; omega)) (xw_a34 hA3 ha (by omega) hp hk h1 h3 hs (by omega) hv H)
    · refine br_f (nI_ge (by omega) (by omega)) ?_
      refine xw_empt hA3 ha (by omega) (fun b hb hb4 hl => ?_)
      refine xw_reclaim hA3 ha h0 hb hb4 hl hv (fun k' o' c' s' w' pr' ns' hA' hr' hz' hn' hv' => ?_)
      exact xw_a34 hA' ha hr' hp hk h1 h3 (by omega) (by omega) hv' H
end
section
/-! the start: the working memory is found again from the flash -/
def fm_pf (f : Nat → Nat) (v i : Nat) : Nat → Nat := fun j => if j < i then v else f j
theorem fm_pf0 {f : Nat → Nat} {v : Nat} : fm_pf f v 0 = f := by
  funext j
  exact if_neg (by omega)
theorem fm_pfs {f : Nat → Nat} {v i : Nat} : fm_u (fm_pf f v i) i v = fm_pf f v (i + 1) := by
  funext j
  by_cases e : j = i
  · rw [e, fm_us (f := fm_pf f v i)]
    exact (if_pos (by omega)).symm
  · rw [fm_un (f := fm_pf f v i) e]
    show (if j < i then v else f j) = (if j < i + 1 then v else f j)
    by_cases l : j < i
    · rw [if_pos l, if_pos (show j < i + 1 by omega)]
    · rw [if_neg l, if_neg (show ¬ j < i + 1 by omega)]
theorem xw_forget {k o : Nat → Nat} {c : Nat → Int32} {s w pr : Nat → Nat} {act ns sp : Nat} {post : SX → Prop} (H : post (fm_st k o c s (fm_pf w 32 12) (fm_pf pr 0 8) 8 1 sp)) : wpX_forget post (fm_st k o c s w pr act ns sp) := by
  unfold wpX_forget
  dsimp only
  have key2 := loop_0 (fun n i (_ : Unit) => wX_forget_23 post (fm_a act) (lN ns) (nI sp) n (nI i) (fun zz => nI (k zz)) (fun zz => nI (o zz)) c (fun zz => lN (s zz)) (fun zz => fm_w ((fm_pf w 32 12) zz)) (fun zz => nI ((fm_pf pr 0 i) zz))) (fun _ _ => True) 8 () trivial
    (by
      intro n _ _
      exact br_t (nI_le (a := 8) (b := 8) (Nat.le_refl _) (by decide)) H)
    (by
      intro n i _ hi _ hn
      have hc : (nI i).toNatClampNeg = i := nI_clamp (by omega)
      refine br_f (nI_ge (b := 8) hi (by decide)) ⟨pk_in i 8 hi, nm_r (e' := fun j => nI (fm_pf pr 0 (i + 1) j)) ?_ (nm_r (nI_1 i) (hn () trivial))⟩
      rw [hc, ← fm_pfs]
      exact fm_updI)
  have key := loop_0 (fun n i (_ : Unit) => wX_forget_2 post (fm_a act) (lN ns) (nI sp) n (nI i) (fun zz => nI (k zz)) (fun zz => nI (o zz)) c (fun zz => lN (s zz)) (fun zz => fm_w ((fm_pf w 32 i) zz)) (fun zz => nI (pr zz))) (fun _ _ => True) 12 () trivial
    (by
      intro n _ _
      refine br_t (nI_le (a := 12) (b := 12) (Nat.le_refl _) (by decide)) ?_
      obtain ⟨n2, hn2⟩ := key2
      refine ⟨n2, ?_⟩
      have hn2 : wX_forget_23 post (fm_a act) (lN ns) (nI sp) n2 (nI 0) (fun zz => nI (k zz)) (fun zz => nI (o zz)) c (fun zz => lN (s zz)) (fun zz => fm_w ((fm_pf w 32 12) zz)) (fun zz => nI ((fm_pf pr 0 0) zz)) := hn2
      rw [fm_pf0] at hn2
      exact hn2)
    (by
      intro n i _ hi _ hn
      have hc : (nI i).toNatClampNeg = i := nI_clamp (by omega)
      refine br_f (nI_ge (b := 12) hi (by decide)) ⟨pk_in i 12 hi, nm_r (e' := fun j => fm_w (fm_pf w 32 (i + 1) j)) ?_ (nm_r (nI_1 i) (hn () trivial))⟩
      rw [hc, ← fm_pfs]
      exact fm_updM)
  obtain ⟨n, hn⟩ := key
  refine ⟨n, ?_⟩
  have hn : wX_forget_2 post (fm_a act) (lN ns) (nI sp) n (nI 0) (fun zz => nI (k zz)) (fun zz => nI (o zz)) c (fun zz => lN (s zz)) (fun zz => fm_w ((fm_pf w 32 0) zz)) (fun zz => nI (pr zz)) := hn
  rw [fm_pf0] at hn
  exact hn
theorem xw_t54 {k o : Nat → Nat} {c : Nat → Int32} {s w pr : Nat → Nat} {act sp : Nat} {post : SX → Prop} {i n' : Nat} (hi : i < 32) (hs : s i < 2 ^ 31) (hn : n' < 2 ^ 31) (h0 : s i < n' → post (fm_st k o c s w pr act n' sp)) (h1 : n' ≤ s i → post (fm_st k o c s w pr act (s i + 1) sp)) : wX_takeIn_54 post (nI i) (fm_a act) (lN n') (nI sp) (fun zz => nI (k zz)) (fun zz => nI (o zz)) c (fun zz => lN (s zz)) (fun zz => fm_w (w zz)) (fun zz => nI (pr zz)) := by
  unfold wX_takeIn_54
  have hc : (nI i).toNatClampNeg = i := nI_clamp (by omega)
  refine ⟨pk_in i 32 hi, ?_⟩
  dsimp only
  rw [hc]
  by_cases l : s i < n'
  · exact br_t ((lN_lt hs hn).mpr l) (h0 l)
  · exact br_f (fun z => l ((lN_lt hs hn).mp z)) ⟨pk_in i 32 hi, nm_r (lN_1 (s i)) (h1 (by omega))⟩
theorem xw_t47 {k o : Nat → Nat} {c : Nat → Int32} {s w pr : Nat → Nat} {act sp : Nat} {post : SX → Prop} {i n' p : Nat} (hi : i < 32) (hp : p < 12) (hs : s i < 2 ^ 31) (hn : n' < 2 ^ 31) (h0 : s i < n' → post (fm_st k o c s (fm_u w p i) pr act n' sp)) (h1 : n' ≤ s i → post (fm_st k o c s (fm_u w p i) pr act (s i + 1) sp)) : wX_takeIn_47 post (nI i) (nI p) (fm_a act) (lN n') (nI sp) (fun zz => nI (k zz)) (fun zz => nI (o zz)) c (fun zz => lN (s zz)) (fun zz => fm_w (w zz)) (fun zz => nI (pr zz)) := by
  unfold wX_takeIn_47
  refine ⟨pk_in p 12 hp, nm_r (e' := fun j => fm_w (fm_u w p i j)) ?_ (xw_t54 hi hs hn h0 h1)⟩
  rw [nI_clamp (show p < 2 ^ 31 by omega)]
  exact fm_updW hi
theorem xw_take {k o : Nat → Nat} {c : Nat → Int32} {s w w' pr P : Nat → Nat} {act ns n' sp i A : Nat} {post : SX → Prop} (hA : fm_A k o s w pr act ns) (hns : ns < 2 ^ 31) (hi : i < 32) (hl : k i = 1 ∨ k i = 2) (hS : fm_S k o s w w' i) (h1 : 1 ≤ n') (hn : n' ≤ ns) (hj : ∀ j, j < i → (k j = 1 ∨ k j = 2) → s j < n')
    (H : ∀ (w2 : Nat → Nat) (n2 : Nat), fm_S k o s w w2 (i + 1) → 1 ≤ n2 → n2 ≤ ns → (∀ j, j < i + 1 → (k j = 1 ∨ k j = 2) → s j < n2) → post (fm_st k o c s w2 P A n2 sp)) : wpX_takeIn post (fm_st k o c s w' P A n' sp) (nI i) := by
  obtain ⟨a1, a2, a3, a4, a5, a6, a7, a8, a9⟩ := hA
  have hc : (nI i).toNatClampNeg = i := nI_clamp (by omega)
  have ho := (a4 i hi hl).1
  have hs := (a4 i hi hl).2
  have hco : (nI (o i)).toNatClampNeg = o i := nI_clamp (by omega)
  have H0 : ∀ w2, fm_S k o s w w2 (i + 1) → s i < n' → post (fm_st k o c s w2 P A n' sp) := by
    intro w2 h2 l
    refine H w2 n' h2 h1 hn (fun j hj2 hjl => ?_)
    by_cases z : j = i
    · rw [z]; exact l
    · exact hj j (by omega) hjl
  have H1 : ∀ w2, fm_S k o s w w2 (i + 1) → n' ≤ s i → post (fm_st k o c s w2 P A (s i + 1) sp) := by
    intro w2 h2 l
    refine H w2 (s i + 1) h2 (by omega) (by omega) (fun j hj2 hjl => ?_)
    by_cases z : j = i
    · rw [z]; omega
    · have := hj j (by omega) hjl
      omega
  unfold wpX_takeIn
  dsimp only
  refine ⟨pk_in i 32 hi, nm_r (e' := nI (o i)) (by rw [hc]) (xw_out0 ho (br_t rfl ⟨pk_in (o i) 12 ho, ?_⟩))⟩
  rw [hco]
  by_cases e : w' (o i) = 32
  · have hS2 := fm_St hS hi hl ho (Or.inl e)
    exact br_t (by rw [e]; exact fm_w32) (xw_t47 hi ho (by omega) (by omega) (H0 _ hS2) (H1 _ hS2))
  · have t := hS.1 (o i) ho
    have hw : w' (o i) < i := by
      rcases t with t | t
      · exact absurd t.1 e
      · exact t.1
    have hlv : k (w' (o i)) = 1 ∨ k (w' (o i)) = 2 := by
      rcases t with t | t
      · exact absurd t.1 e
      · exact t.2.1
    have hs2 := (a4 (w' (o i)) (by omega) hlv).2
    refine br_f (fm_wm (by omega)) ⟨pk_in (o i) 12 ho, fm_win (by omega), pk_in i 32 hi, ?_⟩
    rw [hc, fm_wc (show w' (o i) < 32 by omega)]
    by_cases l : s i ≤ s (w' (o i))
    · have hS2 := fm_Sf hS hl ho e l
      exact br_t ((lN_le (by omega) (by omega)).mpr l) (xw_t54 hi (by omega) (by omega) (H0 _ hS2) (H1 _ hS2))
    · have hS2 := fm_St hS hi hl ho (Or.inr (by omega))
      exact br_f (fun z => l ((lN_le (by omega) (by omega)).mp z)) (xw_t47 hi ho (by omega) (by omega) (H0 _ hS2) (H1 _ hS2))
theorem xw_s33 {k o : Nat → Nat} {c : Nat → Int32} {s w w' pr P : Nat → Nat} {act ns n' sp i A : Nat} {post : SX → Prop} {J : Int32 → Int32 → Int64 → Int32 → (Nat → Int32) → (Nat → Int32) → (Nat → Int32) → (Nat → Int64) → (Nat → Int32) → (Nat → Int32) → Prop} (hA : fm_A k o s w pr act ns) (hns : ns < 2 ^ 31) (hi : i < 32) (hS : fm_S k o s w w' i) (h1 : 1 ≤ n') (hn : n' ≤ ns) (hj : ∀ j, j < i → (k j = 1 ∨ k j = 2) → s j < n')
    (H : ∀ (w2 : Nat → Nat) (n2 : Nat), fm_S k o s w w2 (i + 1) → 1 ≤ n2 → n2 ≤ ns → (∀ j, j < i + 1 → (k j = 1 ∨ k j = 2) → s j < n2) → J (nI (i + 1)) (fm_a A) (lN n2) (nI sp) (fun zz => nI (k zz)) (fun zz => nI (o zz)) c (fun zz => lN (s zz)) (fun zz => fm_w (w2 zz)) (fun zz => nI (P zz))) : wX_start_33 post J (nI i) (fm_a A) (lN n') (nI sp) (fun zz => nI (k zz)) (fun zz => nI (o zz)) c (fun zz => lN (s zz)) (fun zz => fm_w (w' zz)) (fun zz => nI (P zz)) := by
  have hk := (hA.1 i hi).1
  have hc : (nI i).toNatClampNeg = i := nI_clamp (by omega)
  have T : (k i = 1 ∨ k i = 2) → wX_start_53 post J (nI i) (fm_a A) (lN n') (nI sp) (fun zz => nI (k zz)) (fun zz => nI (o zz)) c (fun zz => lN (s zz)) (fun zz => fm_w (w' zz)) (fun zz => nI (P zz)) := by
    intro hl
    unfold wX_start_53
    refine xw_take hA hns hi hl hS h1 hn hj (fun w2 n2 b1 b2 b3 b4 => ?_)
    exact nm_r (nI_1 i) (H w2 n2 b1 b2 b3 b4)
  unfold wX_start_33
  refine ⟨pk_in i 32 hi, ?_⟩
  dsimp only
  rw [hc]
  refine pk_eq (k i) 1 (fun e => T (Or.inl e)) (fun e => ⟨pk_in i 32 hi, ?_⟩)
  refine pk_eq (k i) 2 (fun e2 => T (Or.inr e2)) (fun e2 => ?_)
  have hnl : ¬ (k i = 1 ∨ k i = 2) := by omega
  refine nm_r (nI_1 i) (H w' n' (fm_Sn hS hnl) h1 hn (fun j hj2 hjl => ?_))
  by_cases z : j = i
  · rw [z] at hjl; exact absurd hjl hnl
  · exact hj j (by omega) hjl
theorem xw_last {k o : Nat → Nat} {c : Nat → Int32} {s w pr : Nat → Nat} {ns sp : Nat} {post : SX → Prop} (hp : ∀ b, b < 8 → pr b ≤ 4) (H : ∀ a, (a = 8 ∧ ∀ b, b < 8 → ¬ (0 < pr b ∧ pr b < 4)) ∨ (a < 8 ∧ 0 < pr a ∧ pr a < 4) → post (fm_st k o c s w pr a ns sp)) : ∃ n, wX_start_66 post (lN ns) (nI sp) (fun zz => nI (k zz)) (fun zz => nI (o zz)) c (fun zz => lN (s zz)) (fun zz => fm_w (w zz)) (fun zz => nI (pr zz)) n 0 (fm_a 8) := by
  refine loop_0 (fun n i (a : Nat) => wX_start_66 post (lN ns) (nI sp) (fun zz => nI (k zz)) (fun zz => nI (o zz)) c (fun zz => lN (s zz)) (fun zz => fm_w (w zz)) (fun zz => nI (pr zz)) n (nI i) (fm_a a)) (fun i a => (a = 8 ∧ ∀ b, b < i → ¬ (0 < pr b ∧ pr b < 4)) ∨ (a < i ∧ 0 < pr a ∧ pr a < 4)) 8 8 (Or.inl ⟨rfl, fun b hb => absurd hb (by omega)⟩) ?_ ?_
  · intro n a ha
    exact br_t (nI_le (a := 8) (b := 8) (Nat.le_refl _) (by decide)) (H a ha)
  · intro n i a hi ha hn
    have hc : (nI i).toNatClampNeg = i := nI_clamp (by omega)
    have hpi := hp i hi
    have K : ¬ (0 < pr i ∧ pr i < 4) → wX_start_66 post (lN ns) (nI sp) (fun zz => nI (k zz)) (fun zz => nI (o zz)) c (fun zz => lN (s zz)) (fun zz => fm_w (w zz)) (fun zz => nI (pr zz)) n (nI (i + 1)) (fm_a a) := by
      intro hne
      refine hn a ?_
      rcases ha with ⟨e1, e2⟩ | ⟨e1, e2, e3⟩
      · refine Or.inl ⟨e1, fun b hb => ?_⟩
        by_cases z : b = i
        · rw [z]; exact hne
        · exact e2 b (by omega)
      · exact Or.inr ⟨by omega, e2, e3⟩
    refine br_f (nI_ge (b := 8) hi (by decide)) ⟨pk_in i 8 hi, ?_⟩
    refine pk_le (pr i) 0 (fun l => nm_r (nI_1 i) (K (by omega))) (fun l => ⟨pk_in i 8 hi, ?_⟩) (congrArg (fun j => nI (pr j)) hc) rfl
    refine pk_le 4 (pr i) (fun l4 => nm_r (nI_1 i) (K (by omega))) (fun l4 => nm_r (nI_1 i) ?_) rfl (congrArg (fun j => nI (pr j)) hc)
    have t : wX_start_66 post (lN ns) (nI sp) (fun zz => nI (k zz)) (fun zz => nI (o zz)) c (fun zz => lN (s zz)) (fun zz => fm_w (w zz)) (fun zz => nI (pr zz)) n (nI (i + 1)) (fm_a i) := hn i (Or.inr ⟨by omega, l, l4⟩)
    rw [fm_al hi] at t
    exact t
theorem xw_scan {k o : Nat → Nat} {c : Nat → Int32} {s w pr : Nat → Nat} {act ns sp : Nat} {post : SX → Prop} (hA : fm_A k o s w pr act ns) (hns : ns < 2 ^ 31)
    (H : ∀ (a n : Nat), fm_A k o s w pr a n → fm_ez pr act 8 ≤ fm_ez pr a 8 → n ≤ ns → post (fm_st k o c s w pr a n sp)) :
    ∀ (d i : Nat) (w' : Nat → Nat) (n' : Nat), i + d = 32 → fm_S k o s w w' i → 1 ≤ n' → n' ≤ ns → (∀ j, j < i → (k j = 1 ∨ k j = 2) → s j < n') → wX_start_6 post (d + 1) (nI i) (fm_a 8) (lN n') (nI sp) (fun zz => nI (k zz)) (fun zz => nI (o zz)) c (fun zz => lN (s zz)) (fun zz => fm_w (w' zz)) (fun zz => nI ((fm_pc pr i) zz)) := by
  have hA2 := hA
  obtain ⟨a1, a2, a3, a4, a5, a6, a7, a8, a9⟩ := hA2
  have hp4 : ∀ b, pr b ≤ 4 := by
    intro b
    by_cases hb : b < 8
    · exact a2 b hb
    · rw [a3 b (by omega)]; omega
  intro d
  induction d with
  | zero =>
    intro i w' n' hid hS h1 hn hj
    have hi : i = 32 := by omega
    rw [hi] at hS hj ⊢
    refine br_t (nI_le (a := 32) (b := 32) (Nat.le_refl _) (by decide)) ?_
    rw [fm_S32 hA hS, fm_pc32 a2 a3]
    refine xw_last a2 (fun a ha => ?_)
    have t := fm_fin hA ha h1 hj
    exact H a n' t.1 t.2 hn
  | succ d ih =>
    intro i w' n' hid hS h1 hn hj
    have hi : i < 32 := by omega
    have hc : (nI i).toNatClampNeg = i := nI_clamp (by omega)
    have hki := a1 i hi
    have hb : i / 4 < 8 := by omega
    have ed : nI i / 4 = nI (i / 4) := pk_div (d := 4) (by omega) (by decide) (by decide)
    refine br_f (nI_ge (b := 32) hi (by decide)) ⟨pk_in i 32 hi, ?_⟩
    refine pk_eq (k i) 0 (fun e => ?_) (fun e => ?_) (congrArg (fun j => nI (k j)) hc) rfl
    · have ep := fm_pcn hp4 (hki.2.mp e)
      rw [← ep]
      exact xw_s33 hA hns hi hS h1 hn hj (fun w2 n2 b1 b2 b3 b4 => ih (i + 1) w2 n2 (by omega) b1 b2 b3 b4)
    · have ep := fm_pcs hp4 (show i % 4 < pr (i / 4) by omega)
      refine ⟨by decide, ?_⟩
      rw [ed]
      refine ⟨pk_in (i / 4) 8 hb, pk_in (i / 4) 8 hb, nm_r (e' := fun j => nI (fm_pc pr (i + 1) j)) ?_ ?_⟩
      · rw [nI_clamp (show i / 4 < 2 ^ 31 by omega), nI_1, ep]
        exact fm_updI
      · exact xw_s33 hA hns hi hS h1 hn hj (fun w2 n2 b1 b2 b3 b4 => ih (i + 1) w2 n2 (by omega) b1 b2 b3 b4)
theorem xw_start0 {k o : Nat → Nat} {c : Nat → Int32} {s w pr : Nat → Nat} {act ns sp : Nat} {post : SX → Prop} {w0 pr0 : Nat → Nat} {act0 ns0 : Nat} (hA : fm_A k o s w pr act ns) (hns : ns < 2 ^ 31) (hw0 : ∀ p, 12 ≤ p → w0 p = w p) (hp0 : ∀ b, 8 ≤ b → pr0 b = 0)
    (H : ∀ (a n : Nat), fm_A k o s w pr a n → fm_ez pr act 8 ≤ fm_ez pr a 8 → n ≤ ns → post (fm_st k o c s w pr a n sp)) : wpX_start post (fm_st k o c s w0 pr0 act0 ns0 sp) := by
  unfold wpX_start
  dsimp only
  refine xw_forget ?_
  have e : fm_pf pr0 0 8 = fm_pc pr 0 := by
    rw [fm_pc0]
    funext b
    show (if b < 8 then 0 else pr0 b) = 0
    by_cases l : b < 8
    · rw [if_pos l]
    · rw [if_neg l]; exact hp0 b (by omega)
  rw [e]
  refine ⟨33, xw_scan hA hns H 32 0 (fm_pf w0 32 12) 1 rfl (fm_S0 (fun p hp => if_pos hp) (fun p hp => ?_)) (Nat.le_refl 1) hA.2.2.2.2.2.2.2.2 (fun j hj => absurd hj (by omega))⟩
  exact (if_neg (show ¬ p < 12 by omega)).trans (hw0 p hp)
theorem xw_start {post : SX → Prop} {u : SX} {m : Nat → Option Int32} {n : Nat} (G : fm_G n m u) (hn31 : n < 2 ^ 31) (H : ∀ u', fm_G n m u' → post u') : wpX_start post u := by
  obtain ⟨k, o, c, s, w, pr, act, ns, sp, rfl, hA, h1, h3, hz, hn, hv⟩ := G
  refine xw_start0 hA (by omega) (fun p _ => rfl) hA.2.2.1 (fun a n' hA' hz' hn' => H _ ?_)
  exact ⟨k, o, c, s, w, pr, a, n', sp, rfl, hA', h1, h3, by omega, by omega, hv⟩
end
section
/-! the methods over the map of the logical pages -/
theorem gw_has {post : Int32 → Prop} {u : SX} {m : Nat → Option Int32} {n p : Nat} (G : fm_G n m u) (hp : p < 12) (h : post (nI (fm_ob (m p)))) : wpX_has post u (nI p) := by
  obtain ⟨k, o, c, s, w, pr, act, ns, sp, rfl, hA, h1, h3, hz, hn, hv⟩ := G
  exact xw_has hp (hA.2.2.2.2.1 p hp).1 (fun l => (hA.1 _ l).1) (by rw [hv p hp]; exact h)
theorem gw_count {post : Int32 → Prop} {u : SX} {m : Nat → Option Int32} {n p : Nat} (G : fm_G n m u) (hp : p < 12) (h : post (nI (fm_ob (m p)))) : wpX_countOf post u (nI p) := by
  obtain ⟨k, o, c, s, w, pr, act, ns, sp, rfl, hA, h1, h3, hz, hn, hv⟩ := G
  exact xw_count hp (hA.2.2.2.2.1 p hp).1 (fun l => (hA.1 _ l).1) (by rw [hv p hp]; exact h)
theorem gw_read {post : Int32 → Prop} {u : SX} {m : Nat → Option Int32} {n p : Nat} (G : fm_G n m u) (hp : p < 12) (h : post (fm_gv (m p))) : wpX_read post u (nI p) := by
  obtain ⟨k, o, c, s, w, pr, act, ns, sp, rfl, hA, h1, h3, hz, hn, hv⟩ := G
  exact xw_read hp (hA.2.2.2.2.1 p hp).1 (fun l => (hA.1 _ l).1) (by rw [hv p hp]; exact h)
theorem xw_hasOut {post : Int32 → Prop} {u : SX} {x : Int32} (hx : x < 0 ∨ nI 12 ≤ x) (h : post 0) : wpX_has post u x := by
  obtain ⟨u1, u2, u3, u4, u5, u6, u7, u8, u9⟩ := u
  unfold wpX_has
  dsimp only
  exact xw_out1 hx (br_f xw_1 h)
theorem xw_readOut {post : Int32 → Prop} {u : SX} {x : Int32} (hx : x < 0 ∨ nI 12 ≤ x) (h : post 0) : wpX_read post u x := by
  obtain ⟨u1, u2, u3, u4, u5, u6, u7, u8, u9⟩ := u
  unfold wpX_read
  dsimp only
  exact xw_hasOut hx (br_t rfl h)
theorem gw_change {post : SX → Prop} {u : SX} {m : Nat → Option Int32} {n p : Nat} {y : Option Int32} (G : fm_G n m u) (hp : p < 12) (H : ∀ u', fm_G (n + 3) (fm_ms m p y) u' → post u') : wpX_change post u (nI p) (nI (fm_ob y)) (fm_gv y) := by
  obtain ⟨u1, u2, u3, u4, u5, u6, u7, u8, u9⟩ := u
  unfold wpX_change
  dsimp only
  cases y with
  | none =>
    refine br_t rfl (gw_has G hp ?_)
    cases hm : m p with
    | none =>
      refine br_t rfl (H _ (fm_Gc G (by omega) (fun q hq => ?_)))
      by_cases e : q = p
      · rw [e, hm]; exact fm_mss.symm
      · exact (fm_msn e).symm
    | some z =>
      refine br_f xw_1 (xw_append (kd := 2) G hp (by omega) (fun u' G' => ?_))
      obtain ⟨w1, w2, w3, w4, w5, w6, w7, w8, w9⟩ := u'
      exact H _ (fm_Gc G' (Nat.le_refl _) (fun q _ => fm_mu2 m p 0 q))
  | some x =>
    refine br_f xw_1 (xw_append (kd := 1) G hp (by omega) (fun u' G' => ?_))
    obtain ⟨w1, w2, w3, w4, w5, w6, w7, w8, w9⟩ := u'
    exact H _ (fm_Gc G' (Nat.le_refl _) (fun q _ => fm_mu1 m p x q))
theorem gw_used {post : Int32 → Prop} {u : SX} {m : Nat → Option Int32} {n : Nat} (G : fm_G n m u) (h : post (nI (fm_uc m 12))) : wpX_used post u := by
  obtain ⟨u1, u2, u3, u4, u5, u6, u7, u8, u9⟩ := u
  unfold wpX_used
  dsimp only
  refine loop_0 (fun n i (x : Nat) => wX_used_4 post u1 u2 u3 u4 u5 u6 u7 u8 u9 n (nI x) (nI i)) (fun i x => x = fm_uc m i) 12 0 rfl ?_ ?_
  · intro n x hx
    exact br_t (nI_le (a := 12) (b := 12) (Nat.le_refl _) (by decide)) (hx ▸ h)
  · intro n i x hi hx hn
    refine br_f (nI_ge (b := 12) hi (by decide)) (gw_count G hi (nm_r (nI_add x (fm_ob (m i))) (nm_r (nI_1 i) (hn (x + fm_ob (m i)) ?_))))
    show x + fm_ob (m i) = fm_uc m (i + 1)
    rw [hx, fm_ucS]
theorem gw_total {post : Int64 → Prop} {u : SX} {m : Nat → Option Int32} {n : Nat} (G : fm_G n m u) (h : post (fm_ts m 12)) : wpX_total post u := by
  obtain ⟨u1, u2, u3, u4, u5, u6, u7, u8, u9⟩ := u
  unfold wpX_total
  dsimp only
  refine loop_0 (fun n i (x : Int64) => wX_total_4 post u1 u2 u3 u4 u5 u6 u7 u8 u9 n x (nI i)) (fun i x => x = fm_ts m i) 12 0 rfl ?_ ?_
  · intro n x hx
    exact br_t (nI_le (a := 12) (b := 12) (Nat.le_refl _) (by decide)) (hx ▸ h)
  · intro n i x hi hx hn
    refine br_f (nI_ge (b := 12) hi (by decide)) (gw_read G hi (nm_e (nm_r (nI_1 i) (hn (x + (fm_gv (m i)).toInt64) ?_))))
    show x + (fm_gv (m i)).toInt64 = fm_ts m (i + 1)
    rw [hx, fm_tsS]
/-- p and q changed over: for p = q nothing is -/
theorem gw_exch {post : Int32 → SX → Prop} {u : SX} {m : Nat → Option Int32} {n p q : Nat} (G : fm_G n m u) (hp : p < 12) (hq : q < 12) (H : ∀ u', fm_G (n + 6) (fm_ms (fm_ms m p (m q)) q (m p)) u' → post (nI (fm_ob (m p) + fm_ob (m q))) u') : wpX_exchange post u (nI p) (nI q) := by
  obtain ⟨u1, u2, u3, u4, u5, u6, u7, u8, u9⟩ := u
  unfold wpX_exchange
  dsimp only
  refine xw_out0 hp (br_t rfl (xw_out0 hq (br_t rfl (gw_count G hp (gw_count G hq (nm_r (nI_add _ _) ?_))))))
  refine pk_eq p q (fun e => H _ (fm_Gc G (by omega) (fun r hr => ?_))) (fun e => ?_)
  · by_cases z : r = q
    · rw [z, fm_mss, e]
    · rw [fm_msn z, fm_msn (show r ≠ p by omega)]
  · refine gw_has G hp (gw_read G hp (gw_has G hq (gw_read G hq (gw_change (y := m q) G hp (fun u' G' => ?_)))))
    obtain ⟨w1, w2, w3, w4, w5, w6, w7, w8, w9⟩ := u'
    refine gw_change (y := m p) G' hq (fun u2 G2 => ?_)
    obtain ⟨y1, y2, y3, y4, y5, y6, y7, y8, y9⟩ := u2
    exact H _ (fm_Gc G2 (by omega) (fun r _ => rfl))
theorem gw_flp {post : Int32 → SX → Prop} {m : Nat → Option Int32} {y : Option Int32} {n q r : Nat} (hr : r < 12) (H : ∀ u', fm_G (n + 3 * (r + 1 - q)) (fm_fl m y q (r + 1)) u' → post (nI r - nI q + 1) u') :
    ∀ (d i : Nat) (u : SX), i + d = r + 1 → q ≤ i → fm_G (n + 3 * (i - q)) (fm_fl m y q i) u → wX_fill_48 post (nI q) (nI r) (nI (fm_ob y)) (fm_gv y) (d + 1) (nI i) u.1 u.2.1 u.2.2.1 u.2.2.2.1 u.2.2.2.2.1 u.2.2.2.2.2.1 u.2.2.2.2.2.2.1 u.2.2.2.2.2.2.2.1 u.2.2.2.2.2.2.2.2 := by
  intro d
  induction d with
  | zero =>
    intro i u hid hqi G
    have hi : i = r + 1 := by omega
    rw [hi] at G ⊢
    obtain ⟨u1, u2, u3, u4, u5, u6, u7, u8, u9⟩ := u
    exact br_t (nI_lt (Nat.lt_succ_self r) (by omega)) (H _ G)
  | succ d ih =>
    intro i u hid hqi G
    obtain ⟨u1, u2, u3, u4, u5, u6, u7, u8, u9⟩ := u
    refine br_f (nI_nlt (by omega) (by omega)) (gw_change G (show i < 12 by omega) (fun u' G' => ?_))
    obtain ⟨w1, w2, w3, w4, w5, w6, w7, w8, w9⟩ := u'
    refine nm_r (nI_1 i) (ih (i + 1) (w1, w2, w3, w4, w5, w6, w7, w8, w9) (by omega) (by omega) ?_)
    rw [fm_fls hqi] at G'
    exact fm_Gc G' (by omega) (fun _ _ => rfl)
theorem gw_fill {post : Int32 → SX → Prop} {u : SX} {m : Nat → Option Int32} {n p q r : Nat} (G : fm_G n m u) (hp : p < 12) (hq : q < 12) (hr : r < 12) (hqr : q ≤ r) (H : ∀ u', fm_G (n + 36) (fm_fl m (m p) q (r + 1)) u' → post (nI r - nI q + 1) u') : wpX_fill post u (nI p) (nI q) (nI r) := by
  obtain ⟨u1, u2, u3, u4, u5, u6, u7, u8, u9⟩ := u
  unfold wpX_fill
  dsimp only
  refine xw_out0 hp (br_t rfl (xw_out0 hq (br_t rfl (xw_out0 hr (br_t rfl (br_t (nI_le hqr (by omega)) (gw_has G hp (gw_read G hp ⟨r + 1 - q + 1, ?_⟩))))))))
  refine gw_flp (n := n) hr (fun u' G' => H u' (fm_Gc G' (by omega) (fun _ _ => rfl))) (r + 1 - q) q (u1, u2, u3, u4, u5, u6, u7, u8, u9) (by omega) (Nat.le_refl q) ?_
  rw [fm_fl0]
  exact fm_Gc G (by omega) (fun _ _ => rfl)
theorem xw_init {sp : Nat} {post : SX → Prop} (h1 : 1 ≤ sp) (h3 : sp ≤ 3) (H : ∀ u, fm_G 1 (fun _ => none) u → post u) : wX_init_72 post (nI sp) 0 0 0 (fun _ => 0) (fun _ => 0) (fun _ => 0) (fun _ => 0) (fun _ => 0) (fun _ => 0) := by
  unfold wX_init_72
  refine (show wpX_start _ (fm_st (fun _ => 0) (fun _ => 0) (fun _ => 0) (fun _ => 0) (fun _ => 0) (fun _ => 0) 0 0 sp) from xw_start0 fm_A0 (by decide) (fun p hp => (if_neg (show ¬ p < 12 by omega)).symm) (fun b _ => rfl) (fun a n hA hz hn => H _ ?_))
  have e8 : fm_ez (fun _ => 0) 8 8 = 8 := rfl
  refine ⟨_, _, _, _, _, _, _, _, _, rfl, hA, h1, h3, by omega, hn, fun q hq => ?_⟩
  exact fm_v0 (fun z => absurd z.2 (show ¬ 0 = 1 by decide))
end
section
/-! the reference over the same map -/
def fm_R (m : Nat → Option Int32) (v : SY) : Prop := ∀ q, q < 12 → v.2 q = nI (fm_ob (m q)) ∧ (m q ≠ none → v.1 q = fm_gv (m q))
theorem fm_nb0 : vp_nar .boolean 0 = 0 := by decide
theorem fm_nb1 : vp_nar .boolean 1 = 1 := by decide
theorem fm_nb (y : Option Int32) : vp_nar .boolean (nI (fm_ob y)) = nI (fm_ob y) := by
  cases y with
  | none => exact fm_nb0
  | some x => exact fm_nb1
theorem fm_Rs {m : Nat → Option Int32} {a t : Nat → Int32} {p : Nat} {y : Option Int32} {z : Int32} (R : fm_R m (a, t)) (hz : y ≠ none → z = fm_gv y) : fm_R (fm_ms m p y) (upd a p z, upd t p (nI (fm_ob y))) := by
  intro q hq
  show upd t p (nI (fm_ob y)) q = nI (fm_ob (fm_ms m p y q)) ∧ (fm_ms m p y q ≠ none → upd a p z q = fm_gv (fm_ms m p y q))
  by_cases e : q = p
  · rw [e, fm_mss, pk_us, pk_us]
    exact ⟨rfl, hz⟩
  · rw [fm_msn e, pk_un e, pk_un e]
    exact R q hq
theorem fm_Rt {m : Nat → Option Int32} {a t : Nat → Int32} {p : Nat} (R : fm_R m (a, t)) : fm_R (fm_ms m p none) (a, upd t p 0) := by
  intro q hq
  show upd t p 0 q = nI (fm_ob (fm_ms m p none q)) ∧ (fm_ms m p none q ≠ none → a q = fm_gv (fm_ms m p none q))
  by_cases e : q = p
  · rw [e, fm_mss, pk_us]
    exact ⟨rfl, fun z => absurd rfl z⟩
  · rw [fm_msn e, pk_un e]
    exact R q hq
theorem fm_Rc {m m' : Nat → Option Int32} {v : SY} (R : fm_R m v) (h : ∀ q, q < 12 → m q = m' q) : fm_R m' v := by
  intro q hq
  rw [← h q hq]
  exact R q hq
theorem yw_p1 {post : Int32 → Prop} {v : SY} {p : Nat} (hp : p < 12) (h : post 1) : wpY_isPage post v (nI p) := by
  obtain ⟨a, t⟩ := v
  exact br_f (nI_pos (by omega)) (pk_lt 11 p (fun z => absurd hp (by omega)) (fun _ => h))
theorem yw_p0 {post : Int32 → Prop} {v : SY} {x : Int32} (hx : x < 0 ∨ nI 12 ≤ x) (h : post 0) : wpY_isPage post v x := by
  obtain ⟨a, t⟩ := v
  by_cases z : x < 0
  · exact br_t z h
  · rcases hx with hx | hx
    · exact absurd hx z
    · refine br_f z (br_t ?_ h)
      rw [Int32.le_iff_toInt_le, nI_toInt (by decide)] at hx
      rw [Int32.lt_iff_toInt_lt, show (11 : Int32).toInt = 11 from by decide]
      omega
theorem yw_has {post : Int32 → Prop} {v : SY} {m : Nat → Option Int32} {p : Nat} (R : fm_R m v) (hp : p < 12) (h : post (nI (fm_ob (m p)))) : wpY_has post v (nI p) := by
  obtain ⟨a, t⟩ := v
  have hc : (nI p).toNatClampNeg = p := nI_clamp (by omega)
  have ht : t p = nI (fm_ob (m p)) := (R p hp).1
  unfold wpY_has
  dsimp only
  refine yw_p1 hp (br_f xw_1 ⟨pk_in p 12 hp, ?_⟩)
  rw [hc, ht]
  generalize m p = y at h
  cases y with
  | none => exact br_t rfl h
  | some x => exact br_f xw_1 h
theorem yw_hasOut {post : Int32 → Prop} {v : SY} {x : Int32} (hx : x < 0 ∨ nI 12 ≤ x) (h : post 0) : wpY_has post v x := by
  obtain ⟨a, t⟩ := v
  unfold wpY_has
  dsimp only
  exact yw_p0 hx (br_t rfl h)
theorem yw_read {post : Int32 → Prop} {v : SY} {m : Nat → Option Int32} {p : Nat} (R : fm_R m v) (hp : p < 12) (h : post (fm_gv (m p))) : wpY_read post v (nI p) := by
  obtain ⟨a, t⟩ := v
  have hc : (nI p).toNatClampNeg = p := nI_clamp (by omega)
  have hv : m p ≠ none → a p = fm_gv (m p) := (R p hp).2
  unfold wpY_read
  dsimp only
  refine yw_has R hp ?_
  generalize m p = y at h hv
  cases y with
  | none => exact br_t rfl h
  | some x =>
    refine br_f xw_1 ⟨pk_in p 12 hp, ?_⟩
    rw [hc, hv (fun z => nomatch z)]
    exact h
theorem yw_readOut {post : Int32 → Prop} {v : SY} {x : Int32} (hx : x < 0 ∨ nI 12 ≤ x) (h : post 0) : wpY_read post v x := by
  obtain ⟨a, t⟩ := v
  unfold wpY_read
  dsimp only
  exact yw_hasOut hx (br_t rfl h)
theorem yw_write {post : Int32 → SY → Prop} {v : SY} {m : Nat → Option Int32} {p : Nat} {x : Int32} (R : fm_R m v) (hp : p < 12) (H : ∀ v', fm_R (fm_ms m p (some x)) v' → post (nI (fm_ob (m p))) v') : wpY_write post v (nI p) x := by
  obtain ⟨a, t⟩ := v
  have hc : (nI p).toNatClampNeg = p := nI_clamp (by omega)
  have ht : t p = nI (fm_ob (m p)) := (R p hp).1
  have T : wY_write_24 post (nI p) x (nI (fm_ob (m p))) a t := by
    unfold wY_write_24
    refine ⟨pk_in p 12 hp, nm_r (e' := upd a p x) (by rw [hc]) ⟨pk_in p 12 hp, nm_r (e' := upd t p (nI (fm_ob (some x)))) (by rw [hc, fm_nb1]; rfl) (H _ (fm_Rs R (fun _ => rfl)))⟩⟩
  unfold wpY_write
  dsimp only
  refine yw_p1 hp (br_f xw_1 ⟨pk_in p 12 hp, ?_⟩)
  rw [hc, ht]
  generalize m p = y at T
  cases y with
  | none => exact br_t rfl T
  | some x => exact br_f xw_1 T
theorem yw_trim {post : Int32 → SY → Prop} {v : SY} {m : Nat → Option Int32} {p : Nat} (R : fm_R m v) (hp : p < 12) (H : ∀ v', fm_R (fm_ms m p none) v' → post (nI (fm_ob (m p))) v') : wpY_trim post v (nI p) := by
  obtain ⟨a, t⟩ := v
  have hc : (nI p).toNatClampNeg = p := nI_clamp (by omega)
  have ht : t p = nI (fm_ob (m p)) := (R p hp).1
  have T : wY_trim_24 post (nI p) (nI (fm_ob (m p))) a t := by
    unfold wY_trim_24
    refine ⟨pk_in p 12 hp, nm_r (e' := upd t p 0) (by rw [hc, fm_nb0]) (H _ (fm_Rt R))⟩
  unfold wpY_trim
  dsimp only
  refine yw_p1 hp (br_f xw_1 ⟨pk_in p 12 hp, ?_⟩)
  rw [hc, ht]
  generalize m p = y at T
  cases y with
  | none => exact br_t rfl T
  | some x => exact br_f xw_1 T
theorem yw_used {post : Int32 → Prop} {v : SY} {m : Nat → Option Int32} (R : fm_R m v) (h : post (nI (fm_uc m 12))) : wpY_used post v := by
  obtain ⟨a, t⟩ := v
  unfold wpY_used
  dsimp only
  refine loop_0 (fun n i (x : Nat) => wY_used_4 post a t n (nI x) (nI i)) (fun i x => x = fm_uc m i) 12 0 rfl ?_ ?_
  · intro n x hx
    exact br_t (nI_le (a := 12) (b := 12) (Nat.le_refl _) (by decide)) (hx ▸ h)
  · intro n i x hi hx hn
    have hc : (nI i).toNatClampNeg = i := nI_clamp (by omega)
    have ht : t i = nI (fm_ob (m i)) := (R i hi).1
    refine br_f (nI_ge (b := 12) hi (by decide)) ⟨pk_in i 12 hi, ?_⟩
    rw [hc, ht]
    cases hm : m i with
    | none =>
      refine br_t rfl (nm_r (nI_1 i) (hn x ?_))
      show x = fm_uc m (i + 1)
      rw [hx, fm_ucS, hm] <;> rfl
    | some y =>
      refine br_f xw_1 (nm_r (nI_1 x) (nm_r (nI_1 i) (hn (x + 1) ?_)))
      show x + 1 = fm_uc m (i + 1)
      rw [hx, fm_ucS, hm] <;> rfl
theorem yw_total {post : Int64 → Prop} {v : SY} {m : Nat → Option Int32} (R : fm_R m v) (h : post (fm_ts m 12)) : wpY_total post v := by
  obtain ⟨a, t⟩ := v
  unfold wpY_total
  dsimp only
  refine loop_0 (fun n i (x : Int64) => wY_total_4 post a t n x (nI i)) (fun i x => x = fm_ts m i) 12 0 rfl ?_ ?_
  · intro n x hx
    exact br_t (nI_le (a := 12) (b := 12) (Nat.le_refl _) (by decide)) (hx ▸ h)
  · intro n i x hi hx hn
    refine br_f (nI_ge (b := 12) hi (by decide)) (yw_read R hi (nm_e (nm_r (nI_1 i) (hn (x + (fm_gv (m i)).toInt64) ?_))))
    show x + (fm_gv (m i)).toInt64 = fm_ts m (i + 1)
    rw [hx, fm_tsS]
theorem yw_exch {post : Int32 → SY → Prop} {v : SY} {m : Nat → Option Int32} {p q : Nat} (R : fm_R m v) (hp : p < 12) (hq : q < 12) (H : ∀ v', fm_R (fm_ms (fm_ms m p (m q)) q (m p)) v' → post (nI (fm_ob (m p) + fm_ob (m q))) v') : wpY_exchange post v (nI p) (nI q) := by
  obtain ⟨a, t⟩ := v
  have hc : (nI p).toNatClampNeg = p := nI_clamp (by omega)
  have hd : (nI q).toNatClampNeg = q := nI_clamp (by omega)
  have ht : t p = nI (fm_ob (m p)) := (R p hp).1
  have hu : t q = nI (fm_ob (m q)) := (R q hq).1
  have ip := pk_in p 12 hp
  have iq := pk_in q 12 hq
  have T : wY_exchange_46 post (nI p) (nI q) (nI (fm_ob (m q))) (nI (fm_ob (m p))) a t := by
    unfold wY_exchange_46
    refine nm_r (nI_add _ _) ⟨ip, nm_r (e' := nI (fm_ob (m p))) (by rw [hc]; exact ht) ⟨ip, nm_r (e' := a p) (by rw [hc]) ⟨iq, ip, nm_r (e' := upd t p (nI (fm_ob (m q)))) ?_ ⟨iq, ip, nm_r (e' := upd a p (a q)) (by rw [hc, hd]) ⟨iq, nm_r (e' := upd (upd t p (nI (fm_ob (m q)))) q (nI (fm_ob (m p)))) ?_ ⟨iq, nm_r (e' := upd (upd a p (a q)) q (a p)) (by rw [hd]) (H _ ?_)⟩⟩⟩⟩⟩⟩
    · rw [hc, hd, hu, fm_nb]
    · rw [hd, fm_nb]
    · exact fm_Rs (fm_Rs R (R q hq).2) (R p hp).2
  have T2 : wY_exchange_32 post (nI p) (nI q) (nI (fm_ob (m p))) a t := by
    unfold wY_exchange_32
    refine ⟨iq, ?_⟩
    rw [hd, hu]
    generalize m q = y at T
    cases y with
    | none => exact br_t rfl T
    | some x => exact br_f xw_1 T
  unfold wpY_exchange
  dsimp only
  refine yw_p1 hp (br_f xw_1 (yw_p1 hq (br_f xw_1 ⟨ip, ?_⟩)))
  rw [hc, ht]
  generalize m p = y at T2
  cases y with
  | none => exact br_t rfl T2
  | some x => exact br_f xw_1 T2
theorem yw_flp {post : Int32 → SY → Prop} {m : Nat → Option Int32} {y : Option Int32} {z : Int32} {q r : Nat} (hr : r < 12) (hz : y ≠ none → z = fm_gv y) (H : ∀ v', fm_R (fm_fl m y q (r + 1)) v' → post (nI r - nI q + 1) v') :
    ∀ (d i : Nat) (a t : Nat → Int32), i + d = r + 1 → q ≤ i → fm_R (fm_fl m y q i) (a, t) → wY_fill_50 post (nI q) (nI r) (nI (fm_ob y)) z (d + 1) (nI i) a t := by
  intro d
  induction d with
  | zero =>
    intro i a t hid hqi R
    have hi : i = r + 1 := by omega
    rw [hi] at R ⊢
    exact br_t (nI_lt (Nat.lt_succ_self r) (by omega)) (H _ R)
  | succ d ih =>
    intro i a t hid hqi R
    have hc : (nI i).toNatClampNeg = i := nI_clamp (by omega)
    have ii := pk_in i 12 (show i < 12 by omega)
    refine br_f (nI_nlt (by omega) (by omega)) ⟨ii, nm_r (e' := upd t i (nI (fm_ob y))) (by rw [hc, fm_nb]) ⟨ii, nm_r (e' := upd a i z) (by rw [hc]) (nm_r (nI_1 i) (ih (i + 1) _ _ (by omega) (by omega) ?_))⟩⟩
    rw [← fm_fls hqi]
    exact fm_Rs R hz
theorem yw_fill {post : Int32 → SY → Prop} {v : SY} {m : Nat → Option Int32} {p q r : Nat} (R : fm_R m v) (hp : p < 12) (hq : q < 12) (hr : r < 12) (hqr : q ≤ r) (H : ∀ v', fm_R (fm_fl m (m p) q (r + 1)) v' → post (nI r - nI q + 1) v') : wpY_fill post v (nI p) (nI q) (nI r) := by
  obtain ⟨a, t⟩ := v
  have hc : (nI p).toNatClampNeg = p := nI_clamp (by omega)
  have ht : t p = nI (fm_ob (m p)) := (R p hp).1
  have ip := pk_in p 12 hp
  unfold wpY_fill
  dsimp only
  refine yw_p1 hp (br_f xw_1 (yw_p1 hq (br_f xw_1 (yw_p1 hr (br_f xw_1 (br_t (nI_le hqr (by omega)) ⟨ip, nm_r (e' := nI (fm_ob (m p))) (by rw [hc]; exact ht) ⟨ip, nm_r (e' := a p) (by rw [hc]) ⟨r + 1 - q + 1, ?_⟩⟩⟩))))))
  refine yw_flp hr (R p hp).2 H (r + 1 - q) q a t (by omega) (Nat.le_refl q) ?_
  rw [fm_fl0]
  exact R
/-- X's scan and the reference's, side by side -/
theorem zw_next {u1 : Int32} {u2 : Int64} {u3 : Int32} {u4 u5 u6 : Nat → Int32} {u7 : Nat → Int64} {u8 u9 a t : Nat → Int32} {m : Nat → Option Int32} {n : Nat} (G : fm_G n m (u1, u2, u3, u4, u5, u6, u7, u8, u9)) (R : fm_R m (a, t)) (x : Int32) :
    ∀ d j : Nat, j + d = 12 → ∃ r : Int32, (∀ post : Int32 → Prop, post r → wX_nextUsed_2 post x u1 u2 u3 u4 u5 u6 u7 u8 u9 (d + 1) (nI j)) ∧ (∀ post : Int32 → Prop, post r → wY_nextUsed_2 post x a t (d + 1) (nI j)) := by
  intro d
  induction d with
  | zero =>
    intro j hj
    have e : j = 12 := by omega
    rw [e]
    exact ⟨-2, fun _ hp => br_t (nI_le (a := 12) (b := 12) (Nat.le_refl _) (by decide)) hp, fun _ hp => br_t (nI_le (a := 12) (b := 12) (Nat.le_refl _) (by decide)) hp⟩
  | succ d ih =>
    intro j hj
    have hj2 : j < 12 := by omega
    have hc : (nI j).toNatClampNeg = j := nI_clamp (by omega)
    have ht : t j = nI (fm_ob (m j)) := (R j hj2).1
    have h12 : ¬ (12 : Int32) ≤ nI j := nI_ge (b := 12) hj2 (by decide)
    obtain ⟨r, hX, hY⟩ := ih (j + 1) (by omega)
    by_cases l : nI j ≤ x
    · exact ⟨r, fun post hp => br_f h12 (br_t l (nm_r (nI_1 j) (hX post hp))), fun post hp => br_f h12 (br_t l (nm_r (nI_1 j) (hY post hp)))⟩
    · cases hm : m j with
      | none =>
        refine ⟨r, fun post hp => br_f h12 (br_f l (gw_has G hj2 ?_)), fun post hp => br_f h12 (br_f l ⟨pk_in j 12 hj2, ?_⟩)⟩
        · rw [hm]; exact br_t rfl (nm_r (nI_1 j) (hX post hp))
        · rw [hc, ht, hm]; exact br_t rfl (nm_r (nI_1 j) (hY post hp))
      | some y =>
        refine ⟨nI j, fun post hp => br_f h12 (br_f l (gw_has G hj2 ?_)), fun post hp => br_f h12 (br_f l ⟨pk_in j 12 hj2, ?_⟩)⟩
        · rw [hm]; exact br_f xw_1 hp
        · rw [hc, ht, hm]; exact br_f xw_1 hp
end
section
/-! the owed statements -/
/-- the object stands for a map of the logical pages, and the reference holds the same one -/
def i_Rel (k : Nat) (u : SX) (v : SY) : Prop := ∃ m : Nat → Option Int32, fm_G (40 * k) m u ∧ fm_R m v
theorem i_up {k : Nat} {u : SX} {v : SY} (h : i_Rel k u v) : i_Rel (k + 4) u v := by
  obtain ⟨m, G, R⟩ := h
  exact ⟨m, fm_Gc G (by omega) (fun _ _ => rfl), R⟩
theorem zw_0 {u : SX} {k0 : Int32} (G : fm_G 1 (fun _ => none) u) : wpY_init (fun v => i_Rel 1 u v) k0 :=
  ⟨fun _ => none, fm_Gc G (by omega) (fun _ _ => rfl), fun q _ => ⟨rfl, fun z => absurd rfl z⟩⟩
theorem i_vc0 (k0 : Int32) : wpX_init (fun u => wpY_init (fun v => i_Rel 1 u v) k0) k0 := by
  unfold wpX_init
  by_cases h1 : (1 : Int32) ≤ k0
  · refine br_t h1 ?_
    by_cases h3 : k0 ≤ 3
    · refine br_t h3 ?_
      have h0 : ¬ k0 < 0 := by
        intro z
        rw [Int32.le_iff_toInt_le, show (1 : Int32).toInt = 1 from by decide] at h1
        rw [Int32.lt_iff_toInt_lt, show (0 : Int32).toInt = 0 from by decide] at z
        omega
      obtain ⟨j, hj, rfl⟩ := nI_of2 (M := 3) (n := 3) (by decide) h0 h3
      have hj1 : 1 ≤ j := (nI_leI (a := 1) (by decide) (by omega)).mp h1
      exact xw_init hj1 hj (fun u G => zw_0 G)
    · exact br_f h3 (xw_init (sp := 3) (by decide) (by decide) (fun u G => zw_0 G))
  · exact br_f h1 (xw_init (sp := 1) (by decide) (by decide) (fun u G => zw_0 G))
theorem zw_ix (x : Int32) : (x < 0 ∨ nI 12 ≤ x) ∨ ∃ j : Nat, j < 12 ∧ x = nI j := by
  rcases pk_ix x (n := 12) (by decide) with h | h | h
  · exact Or.inl (Or.inl h)
  · exact Or.inl (Or.inr h)
  · exact Or.inr h
theorem i_vc_write {k : Nat} {u : SX} {v : SY} (I : i_Rel k u v) (hk : k + 4 ≤ 2049) (v1 : Int32) (v2 : Int32) : wpX_write (fun r u' => wpY_write (fun r' v' => r' = r ∧ i_Rel (k + 4) u' v') v v1 v2) u v1 v2 := by
  have I2 := i_up I
  obtain ⟨m, G, R⟩ := I
  obtain ⟨u1, u2, u3, u4, u5, u6, u7, u8, u9⟩ := u
  unfold wpX_write
  dsimp only
  rcases zw_ix v1 with hx | ⟨p, hp, rfl⟩
  · refine xw_out1 hx (br_f xw_1 ?_)
    obtain ⟨a, t⟩ := v
    unfold wpY_write
    dsimp only
    exact yw_p0 hx (br_t rfl ⟨rfl, I2⟩)
  · refine xw_out0 hp (br_t rfl (gw_count G hp (xw_append (kd := 1) G hp (by omega) (fun u' G' => ?_))))
    obtain ⟨w1, w2, w3, w4, w5, w6, w7, w8, w9⟩ := u'
    exact yw_write R hp (fun v' R' => ⟨rfl, _, fm_Gc G' (by omega) (fun q _ => fm_mu1 m p v2 q), R'⟩)
theorem i_vc_torn {k : Nat} {u : SX} {v : SY} (I : i_Rel k u v) (hk : k + 4 ≤ 2049) (v1 : Int32) (v2 : Int32) : wpX_torn (fun r u' => wpY_torn (fun r' => r' = r ∧ i_Rel (k + 4) u' v) v v1 v2) u v1 v2 := by
  have I2 := i_up I
  obtain ⟨m, G, R⟩ := I
  obtain ⟨u1, u2, u3, u4, u5, u6, u7, u8, u9⟩ := u
  obtain ⟨a, t⟩ := v
  unfold wpX_torn wpY_torn
  dsimp only
  rcases zw_ix v1 with hx | ⟨p, hp, rfl⟩
  · exact xw_out1 hx (br_f xw_1 (yw_p0 hx (br_t rfl ⟨rfl, I2⟩)))
  · refine xw_out0 hp (br_t rfl (xw_append (kd := 3) G hp (by omega) (fun u' G' => ?_)))
    obtain ⟨w1, w2, w3, w4, w5, w6, w7, w8, w9⟩ := u'
    refine xw_start G' (by omega) (fun u2 G2 => ?_)
    obtain ⟨y1, y2, y3, y4, y5, y6, y7, y8, y9⟩ := u2
    exact yw_p1 hp (br_f xw_1 ⟨rfl, m, fm_Gc G2 (by omega) (fun q _ => fm_mu3 m p v2 q), R⟩)
theorem i_vc_trim {k : Nat} {u : SX} {v : SY} (I : i_Rel k u v) (hk : k + 4 ≤ 2049) (v1 : Int32) : wpX_trim (fun r u' => wpY_trim (fun r' v' => r' = r ∧ i_Rel (k + 4) u' v') v v1) u v1 := by
  have I2 := i_up I
  obtain ⟨m, G, R⟩ := I
  obtain ⟨u1, u2, u3, u4, u5, u6, u7, u8, u9⟩ := u
  unfold wpX_trim
  dsimp only
  rcases zw_ix v1 with hx | ⟨p, hp, rfl⟩
  · refine xw_out1 hx (br_f xw_1 ?_)
    obtain ⟨a, t⟩ := v
    unfold wpY_trim
    dsimp only
    exact yw_p0 hx (br_t rfl ⟨rfl, I2⟩)
  · refine xw_out0 hp (br_t rfl (gw_count G hp (gw_change (y := none) G hp (fun u' G' => ?_))))
    obtain ⟨w1, w2, w3, w4, w5, w6, w7, w8, w9⟩ := u'
    exact yw_trim R hp (fun v' R' => ⟨rfl, _, fm_Gc G' (by omega) (fun _ _ => rfl), R'⟩)
theorem i_vc_powerCut {k : Nat} {u : SX} {v : SY} (I : i_Rel k u v) (hk : k + 4 ≤ 2049) : wpX_powerCut (fun r u' => wpY_powerCut (fun r' => r' = r ∧ i_Rel (k + 4) u' v) v) u := by
  obtain ⟨m, G, R⟩ := I
  obtain ⟨u1, u2, u3, u4, u5, u6, u7, u8, u9⟩ := u
  obtain ⟨a, t⟩ := v
  unfold wpX_powerCut wpY_powerCut
  dsimp only
  refine xw_start G (by omega) (fun u2 G2 => ?_)
  obtain ⟨y1, y2, y3, y4, y5, y6, y7, y8, y9⟩ := u2
  exact gw_used G2 (yw_used R ⟨rfl, m, fm_Gc G2 (by omega) (fun _ _ => rfl), R⟩)
theorem i_vc_has {k : Nat} {u : SX} {v : SY} (I : i_Rel k u v) (hk : k + 4 ≤ 2049) (v1 : Int32) : wpX_has (fun r => wpY_has (fun r' => r' = r ∧ i_Rel (k + 4) u v) v v1) u v1 := by
  have I2 := i_up I
  obtain ⟨m, G, R⟩ := I
  rcases zw_ix v1 with hx | ⟨p, hp, rfl⟩
  · exact xw_hasOut hx (yw_hasOut hx ⟨rfl, I2⟩)
  · exact gw_has G hp (yw_has R hp ⟨rfl, I2⟩)
theorem i_vc_read {k : Nat} {u : SX} {v : SY} (I : i_Rel k u v) (hk : k + 4 ≤ 2049) (v1 : Int32) : wpX_read (fun r => wpY_read (fun r' => r' = r ∧ i_Rel (k + 4) u v) v v1) u v1 := by
  have I2 := i_up I
  obtain ⟨m, G, R⟩ := I
  rcases zw_ix v1 with hx | ⟨p, hp, rfl⟩
  · exact xw_readOut hx (yw_readOut hx ⟨rfl, I2⟩)
  · exact gw_read G hp (yw_read R hp ⟨rfl, I2⟩)
theorem i_vc_used {k : Nat} {u : SX} {v : SY} (I : i_Rel k u v) (hk : k + 4 ≤ 2049) : wpX_used (fun r => wpY_used (fun r' => r' = r ∧ i_Rel (k + 4) u v) v) u := by
  have I2 := i_up I
  obtain ⟨m, G, R⟩ := I
  exact gw_used G (yw_used R ⟨rfl, I2⟩)
theorem i_vc_nextUsed {k : Nat} {u : SX} {v : SY} (I : i_Rel k u v) (hk : k + 4 ≤ 2049) (v1 : Int32) : wpX_nextUsed (fun r => wpY_nextUsed (fun r' => r' = r ∧ i_Rel (k + 4) u v) v v1) u v1 := by
  have I2 := i_up I
  obtain ⟨m, G, R⟩ := I
  obtain ⟨u1, u2, u3, u4, u5, u6, u7, u8, u9⟩ := u
  obtain ⟨a, t⟩ := v
  obtain ⟨r, hX, hY⟩ := zw_next G R v1 12 0 rfl
  unfold wpX_nextUsed wpY_nextUsed
  dsimp only
  exact ⟨13, hX _ ⟨13, hY _ ⟨rfl, I2⟩⟩⟩
theorem i_vc_total {k : Nat} {u : SX} {v : SY} (I : i_Rel k u v) (hk : k + 4 ≤ 2049) : wpX_total (fun r => wpY_total (fun r' => r' = r ∧ i_Rel (k + 4) u v) v) u := by
  have I2 := i_up I
  obtain ⟨m, G, R⟩ := I
  exact gw_total G (yw_total R ⟨rfl, I2⟩)
theorem i_vc_exchange {k : Nat} {u : SX} {v : SY} (I : i_Rel k u v) (hk : k + 4 ≤ 2049) (v1 : Int32) (v2 : Int32) : wpX_exchange (fun r u' => wpY_exchange (fun r' v' => r' = r ∧ i_Rel (k + 4) u' v') v v1 v2) u v1 v2 := by
  have I2 := i_up I
  obtain ⟨m, G, R⟩ := I
  rcases zw_ix v1 with hx | ⟨p, hp, rfl⟩
  · obtain ⟨u1, u2, u3, u4, u5, u6, u7, u8, u9⟩ := u
    obtain ⟨a, t⟩ := v
    unfold wpX_exchange wpY_exchange
    dsimp only
    exact xw_out1 hx (br_f xw_1 (yw_p0 hx (br_t rfl ⟨rfl, I2⟩)))
  · rcases zw_ix v2 with hx | ⟨q, hq, rfl⟩
    · obtain ⟨u1, u2, u3, u4, u5, u6, u7, u8, u9⟩ := u
      obtain ⟨a, t⟩ := v
      unfold wpX_exchange wpY_exchange
      dsimp only
      exact xw_out0 hp (br_t rfl (xw_out1 hx (br_f xw_1 (yw_p1 hp (br_f xw_1 (yw_p0 hx (br_t rfl ⟨rfl, I2⟩)))))))
    · exact gw_exch G hp hq (fun u' G' => yw_exch R hp hq (fun v' R' => ⟨rfl, _, fm_Gc G' (by omega) (fun _ _ => rfl), R'⟩))
theorem i_vc_fill {k : Nat} {u : SX} {v : SY} (I : i_Rel k u v) (hk : k + 4 ≤ 2049) (v1 : Int32) (v2 : Int32) (v3 : Int32) : wpX_fill (fun r u' => wpY_fill (fun r' v' => r' = r ∧ i_Rel (k + 4) u' v') v v1 v2 v3) u v1 v2 v3 := by
  have I2 := i_up I
  obtain ⟨m, G, R⟩ := I
  rcases zw_ix v1 with hx | ⟨p, hp, rfl⟩
  · obtain ⟨u1, u2, u3, u4, u5, u6, u7, u8, u9⟩ := u
    obtain ⟨a, t⟩ := v
    unfold wpX_fill wpY_fill
    dsimp only
    exact xw_out1 hx (br_f xw_1 (yw_p0 hx (br_t rfl ⟨rfl, I2⟩)))
  · rcases zw_ix v2 with hx | ⟨q, hq, rfl⟩
    · obtain ⟨u1, u2, u3, u4, u5, u6, u7, u8, u9⟩ := u
      obtain ⟨a, t⟩ := v
      unfold wpX_fill wpY_fill
      dsimp only
      exact xw_out0 hp (br_t rfl (xw_out1 hx (br_f xw_1 (yw_p1 hp (br_f xw_1 (yw_p0 hx (br_t rfl ⟨rfl, I2⟩)))))))
    · rcases zw_ix v3 with hx | ⟨r, hr, rfl⟩
      · obtain ⟨u1, u2, u3, u4, u5, u6, u7, u8, u9⟩ := u
        obtain ⟨a, t⟩ := v
        unfold wpX_fill wpY_fill
        dsimp only
        exact xw_out0 hp (br_t rfl (xw_out0 hq (br_t rfl (xw_out1 hx (br_f xw_1 (yw_p1 hp (br_f xw_1 (yw_p1 hq (br_f xw_1 (yw_p0 hx (br_t rfl ⟨rfl, I2⟩)))))))))))
      · by_cases l : q ≤ r
        · exact gw_fill G hp hq hr l (fun u' G' => yw_fill R hp hq hr l (fun v' R' => ⟨rfl, _, fm_Gc G' (by omega) (fun _ _ => rfl), R'⟩))
        · have hl : ¬ nI q ≤ nI r := nI_ge (by omega) (by omega)
          obtain ⟨u1, u2, u3, u4, u5, u6, u7, u8, u9⟩ := u
          obtain ⟨a, t⟩ := v
          unfold wpX_fill wpY_fill
          dsimp only
          exact xw_out0 hp (br_t rfl (xw_out0 hq (br_t rfl (xw_out0 hr (br_t rfl (br_f hl (yw_p1 hp (br_f xw_1 (yw_p1 hq (br_f xw_1 (yw_p1 hr (br_f xw_1 (br_f hl ⟨rfl, I2⟩)))))))))))))
end
