/-! the ghosts of the flash, and counts over them -/
def fm_w (x : Nat) : Int32 := if x = 32 then -1 else nI x
def fm_a (x : Nat) : Int32 := if x = 8 then -1 else nI x
def fm_u (f : Nat → Nat) (i v : Nat) : Nat → Nat := fun j => if j = i then v else f j
def fm_e (f : Nat → Nat) (b : Nat) : Nat → Nat := fun i => if i / 4 = b then 0 else f i
theorem fm_us {f : Nat → Nat} {i v : Nat} : fm_u f i v i = v := if_pos rfl
theorem fm_un {f : Nat → Nat} {i v j : Nat} (h : j ≠ i) : fm_u f i v j = f j := if_neg h
theorem fm_ep {f : Nat → Nat} {b i : Nat} (h : i / 4 = b) : fm_e f b i = 0 := if_pos h
theorem fm_en {f : Nat → Nat} {b i : Nat} (h : i / 4 ≠ b) : fm_e f b i = f i := if_neg h
theorem fm_m1 {n : Nat} (h : n < 2 ^ 31) : ¬ nI n = -1 := by
  intro e
  have e1 := congrArg Int32.toInt e
  rw [nI_toInt h, show (-1 : Int32).toInt = -1 from by decide] at e1
  omega
theorem fm_w32 : fm_w 32 = -1 := if_pos rfl
theorem fm_wl {x : Nat} (h : x < 32) : fm_w x = nI x := if_neg (by omega)
theorem fm_a8 : fm_a 8 = -1 := if_pos rfl
theorem fm_al {x : Nat} (h : x < 8) : fm_a x = nI x := if_neg (by omega)
theorem fm_wm {x : Nat} (h : x < 32) : ¬ fm_w x = -1 := by rw [fm_wl h]; exact fm_m1 (by omega)
theorem fm_am {x : Nat} (h : x < 8) : ¬ fm_a x = -1 := by rw [fm_al h]; exact fm_m1 (by omega)
theorem fm_updI {k : Nat → Nat} {i v : Nat} : upd (fun j => nI (k j)) i (nI v) = fun j => nI (fm_u k i v j) := by
  funext j
  by_cases h : j = i
  · subst h; exact pk_us.trans (congrArg nI fm_us).symm
  · exact (pk_un h).trans (congrArg nI (fm_un h)).symm
theorem fm_updW {w : Nat → Nat} {i v : Nat} (hv : v < 32) : upd (fun j => fm_w (w j)) i (nI v) = fun j => fm_w (fm_u w i v j) := by
  funext j
  by_cases h : j = i
  · subst h; exact pk_us.trans ((fm_wl hv).symm.trans (congrArg fm_w fm_us).symm)
  · exact (pk_un h).trans (congrArg fm_w (fm_un h)).symm
theorem fm_updM {w : Nat → Nat} {i : Nat} : upd (fun j => fm_w (w j)) i (-1) = fun j => fm_w (fm_u w i 32 j) := by
  funext j
  by_cases h : j = i
  · subst h; exact pk_us.trans (fm_w32.symm.trans (congrArg fm_w fm_us).symm)
  · exact (pk_un h).trans (congrArg fm_w (fm_un h)).symm
theorem fm_updL {s : Nat → Nat} {i v : Nat} : vp_updL (fun j => lN (s j)) i (lN v) = fun j => lN (fm_u s i v j) := by
  funext j
  by_cases h : j = i
  · subst h; exact pk_uLs.trans (congrArg lN fm_us).symm
  · exact (pk_uLn h).trans (congrArg lN (fm_un h)).symm
/-- how many of the first n logical pages have their newest record in block b -/
def fm_lc (w : Nat → Nat) (b : Nat) : Nat → Nat
  | 0 => 0
  | n + 1 => fm_lc w b n + (if w n / 4 = b then 1 else 0)
/-- how many of the first n blocks but act are erased -/
def fm_ez (pr : Nat → Nat) (act : Nat) : Nat → Nat
  | 0 => 0
  | n + 1 => fm_ez pr act n + (if pr n = 0 ∧ n ≠ act then 1 else 0)
def fm_sm (f : Nat → Nat) : Nat → Nat
  | 0 => 0
  | n + 1 => fm_sm f n + f n
theorem fm_lcS (w : Nat → Nat) (b n : Nat) : fm_lc w b (n + 1) = fm_lc w b n + (if w n / 4 = b then 1 else 0) := rfl
theorem fm_ezS (pr : Nat → Nat) (act n : Nat) : fm_ez pr act (n + 1) = fm_ez pr act n + (if pr n = 0 ∧ n ≠ act then 1 else 0) := rfl
theorem fm_smS (f : Nat → Nat) (n : Nat) : fm_sm f (n + 1) = fm_sm f n + f n := rfl
theorem fm_lc_le (w : Nat → Nat) (b : Nat) : ∀ n, fm_lc w b n ≤ n
  | 0 => Nat.le_refl 0
  | n + 1 => by
    have ih := fm_lc_le w b n
    rw [fm_lcS]
    by_cases h : w n / 4 = b
    · rw [if_pos h] <;> omega
    · rw [if_neg h] <;> omega
theorem fm_ez_le (pr : Nat → Nat) (act : Nat) : ∀ n, fm_ez pr act n ≤ n
  | 0 => Nat.le_refl 0
  | n + 1 => by
    have ih := fm_ez_le pr act n
    rw [fm_ezS]
    by_cases h : pr n = 0 ∧ n ≠ act
    · rw [if_pos h] <;> omega
    · rw [if_neg h] <;> omega
theorem fm_lc_pos {w : Nat → Nat} {b p : Nat} (h : w p / 4 = b) : ∀ n, p < n → 1 ≤ fm_lc w b n
  | 0, hp => absurd hp (by omega)
  | n + 1, hp => by
    rw [fm_lcS]
    by_cases e : p = n
    · rw [if_pos (show w n / 4 = b from e ▸ h)] <;> omega
    · have ih := fm_lc_pos h n (by omega)
      omega
theorem fm_lc_same {w : Nat → Nat} {b p x : Nat} : ∀ n, n ≤ p → fm_lc (fm_u w p x) b n = fm_lc w b n
  | 0, _ => rfl
  | n + 1, hp => by
    have ih := fm_lc_same (w := w) (b := b) (p := p) (x := x) n (by omega)
    rw [fm_lcS, fm_lcS, ih, fm_un (f := w) (show n ≠ p by omega)]
theorem fm_lc_move {w : Nat → Nat} {b p x : Nat} (h : w p / 4 = b) (hx : x / 4 ≠ b) : ∀ n, p < n → fm_lc (fm_u w p x) b n + 1 = fm_lc w b n
  | 0, hp => absurd hp (by omega)
  | n + 1, hp => by
    rw [fm_lcS, fm_lcS]
    by_cases e : n = p
    · rw [e, fm_us (f := w), if_pos h, if_neg hx, fm_lc_same p (Nat.le_refl p)] <;> omega
    · rw [fm_un (f := w) e]
      have ih := fm_lc_move h hx n (by omega)
      omega
theorem fm_ez_act (pr : Nat → Nat) (act v : Nat) : ∀ n, fm_ez (fm_u pr act v) act n = fm_ez pr act n
  | 0 => rfl
  | n + 1 => by
    rw [fm_ezS, fm_ezS, fm_ez_act pr act v n]
    by_cases e : n = act
    · rw [if_neg (show ¬ (fm_u pr act v n = 0 ∧ n ≠ act) from fun z => z.2 e), if_neg (show ¬ (pr n = 0 ∧ n ≠ act) from fun z => z.2 e)]
    · rw [fm_un (f := pr) e]
theorem fm_ez_er {pr : Nat → Nat} {act b : Nat} (hp : pr b ≠ 0) (hb : b ≠ act) : ∀ n, fm_ez (fm_u pr b 0) act n = fm_ez pr act n + (if b < n then 1 else 0)
  | 0 => by rw [if_neg (show ¬ b < 0 by omega)] <;> rfl
  | n + 1 => by
    rw [fm_ezS, fm_ezS, fm_ez_er hp hb n]
    by_cases e : n = b
    · rw [e, fm_us (f := pr), if_pos (show 0 = 0 ∧ b ≠ act from ⟨rfl, hb⟩), if_neg (show ¬ (pr b = 0 ∧ b ≠ act) from fun z => hp z.1), if_neg (show ¬ b < b by omega), if_pos (show b < b + 1 by omega)]
    · rw [fm_un (f := pr) e]
      by_cases l : b < n
      · rw [if_pos l, if_pos (show b < n + 1 by omega)] <;> omega
      · rw [if_neg l, if_neg (show ¬ b < n + 1 by omega)] <;> omega
/-- an erased block is taken, the block before having no page left -/
theorem fm_ez_op {pr : Nat → Nat} {act a : Nat} (ha : pr a = 0) (h : pr act ≠ 0 ∨ 8 ≤ act) : ∀ n, n ≤ 8 → fm_ez pr a n + (if a < n then 1 else 0) = fm_ez pr act n
  | 0, _ => by rw [if_neg (show ¬ a < 0 by omega)] <;> rfl
  | n + 1, hn => by
    have ih := fm_ez_op ha h n (by omega)
    rw [fm_ezS, fm_ezS]
    by_cases e : n = a
    · have h2 : n ≠ act := by
        intro z
        rcases h with h | h
        · exact h (by rw [← z, e]; exact ha)
        · omega
      rw [if_neg (show ¬ (pr n = 0 ∧ n ≠ a) from fun z => z.2 e), if_pos (show a < n + 1 by omega), if_pos (show pr n = 0 ∧ n ≠ act from ⟨by rw [e]; exact ha, h2⟩)]
      rw [if_neg (show ¬ a < n by omega)] at ih
      omega
    · by_cases z : pr n = 0
      · have h2 : n ≠ act := by
          intro y
          rcases h with h | h
          · exact h (by rw [← y]; exact z)
          · omega
        rw [if_pos (show pr n = 0 ∧ n ≠ a from ⟨z, e⟩), if_pos (show pr n = 0 ∧ n ≠ act from ⟨z, h2⟩)]
        by_cases l : a < n
        · rw [if_pos (show a < n + 1 by omega)]; rw [if_pos l] at ih; omega
        · rw [if_neg (show ¬ a < n + 1 by omega)]; rw [if_neg l] at ih; omega
      · rw [if_neg (show ¬ (pr n = 0 ∧ n ≠ a) from fun y => z y.1), if_neg (show ¬ (pr n = 0 ∧ n ≠ act) from fun y => z y.1)]
        by_cases l : a < n
        · rw [if_pos (show a < n + 1 by omega)]; rw [if_pos l] at ih; omega
        · rw [if_neg (show ¬ a < n + 1 by omega)]; rw [if_neg l] at ih; omega
theorem fm_ez_8 (pr : Nat → Nat) (act : Nat) : ∀ n, n ≤ 8 → fm_ez pr act n ≤ fm_ez pr 8 n
  | 0, _ => Nat.le_refl 0
  | n + 1, hn => by
    have ih := fm_ez_8 pr act n (by omega)
    rw [fm_ezS, fm_ezS]
    by_cases z : pr n = 0 ∧ n ≠ act
    · rw [if_pos z, if_pos (show pr n = 0 ∧ n ≠ 8 from ⟨z.1, by omega⟩)] <;> omega
    · rw [if_neg z] <;> omega
theorem fm_ez_no {pr : Nat → Nat} (act : Nat) : ∀ n, (∀ b, b < n → pr b ≠ 0) → fm_ez pr act n = 0
  | 0, _ => rfl
  | n + 1, h => by
    rw [fm_ezS, fm_ez_no act n (fun b hb => h b (by omega)), if_neg (show ¬ (pr n = 0 ∧ n ≠ act) from fun y => h n (by omega) y.1)] <;> rfl
theorem fm_ex0 {pr : Nat → Nat} {act : Nat} (h : 1 ≤ fm_ez pr act 8) (hn : ∀ b, b < 8 → pr b ≠ 0) : False := by
  rw [fm_ez_no act 8 hn] at h
  omega
theorem fm_sum0 (w : Nat → Nat) : ∀ m, fm_sm (fun b => fm_lc w b 0) m = 0
  | 0 => rfl
  | m + 1 => by rw [fm_smS, fm_sum0 w m] <;> rfl
theorem fm_sum1 (w : Nat → Nat) (n : Nat) : ∀ m, fm_sm (fun b => fm_lc w b (n + 1)) m = fm_sm (fun b => fm_lc w b n) m + (if w n / 4 < m then 1 else 0)
  | 0 => by rw [if_neg (show ¬ w n / 4 < 0 by omega)] <;> rfl
  | m + 1 => by
    have ih := fm_sum1 w n m
    show fm_sm (fun b => fm_lc w b (n + 1)) m + (fm_lc w m n + (if w n / 4 = m then 1 else 0)) = fm_sm (fun b => fm_lc w b n) m + fm_lc w m n + (if w n / 4 < m + 1 then 1 else 0)
    by_cases h1 : w n / 4 < m
    · rw [ih, if_pos h1, if_neg (show ¬ w n / 4 = m by omega), if_pos (show w n / 4 < m + 1 by omega)] <;> omega
    · by_cases h2 : w n / 4 = m
      · rw [ih, if_neg h1, if_pos h2, if_pos (show w n / 4 < m + 1 by omega)] <;> omega
      · rw [ih, if_neg h1, if_neg h2, if_neg (show ¬ w n / 4 < m + 1 by omega)] <;> omega
theorem fm_sum2 (w : Nat → Nat) : ∀ n, fm_sm (fun b => fm_lc w b n) 8 ≤ n
  | 0 => by rw [fm_sum0] <;> omega
  | n + 1 => by
    have ih := fm_sum2 w n
    rw [fm_sum1]
    by_cases h : w n / 4 < 8
    · rw [if_pos h] <;> omega
    · rw [if_neg h] <;> omega
theorem fm_cnt (f pr : Nat → Nat) (act : Nat) : ∀ n, (∀ b, b < n → b ≠ act → pr b = 0 ∨ pr b = 4) → (∀ b, b < n → pr b = 4 → 3 ≤ f b) → 3 * n ≤ fm_sm f n + 3 * fm_ez pr act n + (if act < n then 3 else 0)
  | 0, _, _ => Nat.zero_le _
  | n + 1, h1, h2 => by
    have ih := fm_cnt f pr act n (fun b hb => h1 b (by omega)) (fun b hb => h2 b (by omega))
    rw [fm_smS, fm_ezS]
    by_cases ea : n = act
    · rw [if_neg (show ¬ (pr n = 0 ∧ n ≠ act) from fun z => z.2 ea), if_pos (show act < n + 1 by omega)]
      rw [if_neg (show ¬ act < n by omega)] at ih
      omega
    · rcases h1 n (by omega) ea with e0 | e4
      · rw [if_pos (show pr n = 0 ∧ n ≠ act from ⟨e0, ea⟩)]
        by_cases l : act < n
        · rw [if_pos (show act < n + 1 by omega)]; rw [if_pos l] at ih; omega
        · rw [if_neg (show ¬ act < n + 1 by omega)]; rw [if_neg l] at ih; omega
      · have h3 := h2 n (by omega) e4
        rw [if_neg (show ¬ (pr n = 0 ∧ n ≠ act) by omega)]
        by_cases l : act < n
        · rw [if_pos (show act < n + 1 by omega)]; rw [if_pos l] at ih; omega
        · rw [if_neg (show ¬ act < n + 1 by omega)]; rw [if_neg l] at ih; omega
/-- with at most two erased blocks beside the one in use, not every full block has three live records -/
theorem fm_few {w pr : Nat → Nat} {act : Nat} (ha : act < 8) (h1 : ∀ b, b < 8 → b ≠ act → pr b = 0 ∨ pr b = 4) (h2 : fm_ez pr act 8 ≤ 2) (h3 : ∀ b, b < 8 → pr b = 4 → 3 ≤ fm_lc w b 12) : False := by
  have h := fm_cnt (fun b => fm_lc w b 12) pr act 8 h1 h3
  have h4 := fm_sum2 w 12
  rw [if_pos ha] at h
  omega
