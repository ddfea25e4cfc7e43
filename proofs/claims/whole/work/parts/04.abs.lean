/-! what the logical pages hold -/
def fm_v (k w : Nat → Nat) (c : Nat → Int32) (p : Nat) : Option Int32 := if w p < 32 ∧ k (w p) = 1 then some (c (w p)) else none
/-- the map with page p changed by a record of kind kd -/
def fm_mu (m : Nat → Option Int32) (p kd : Nat) (x : Int32) : Nat → Option Int32 := fun q => if q = p ∧ kd ≠ 3 then (if kd = 1 then some x else none) else m q
theorem fm_v1 {k w : Nat → Nat} {c : Nat → Int32} {p : Nat} (h : w p < 32 ∧ k (w p) = 1) : fm_v k w c p = some (c (w p)) := if_pos h
theorem fm_v0 {k w : Nat → Nat} {c : Nat → Int32} {p : Nat} (h : ¬ (w p < 32 ∧ k (w p) = 1)) : fm_v k w c p = none := if_neg h
/-- a page that holds no record counted before changes nothing for the others -/
theorem fm_vo {k w : Nat → Nat} {c : Nat → Int32} {q a kd : Nat} {x : Int32} (h : w q ≠ a) : fm_v (fm_u k a kd) w (upd c a x) q = fm_v k w c q := by
  unfold fm_v
  rw [fm_un (f := k) h, pk_un h]
theorem fm_vw {k w w' : Nat → Nat} {c : Nat → Int32} {q : Nat} (h : w' q = w q) : fm_v k w' c q = fm_v k w c q := by
  unfold fm_v
  rw [h]
/-- the record just programmed -/
theorem fm_vp {k w : Nat → Nat} {c : Nat → Int32} {p a kd : Nat} {x : Int32} (ha : a < 32) : fm_v (fm_u k a kd) (fm_u w p a) (upd c a x) p = if kd = 1 then some x else none := by
  unfold fm_v
  rw [fm_us (f := w), fm_us (f := k), pk_us]
  by_cases h : kd = 1
  · rw [if_pos (show a < 32 ∧ kd = 1 from ⟨ha, h⟩), if_pos h]
  · rw [if_neg (show ¬ (a < 32 ∧ kd = 1) from fun z => h z.2), if_neg h]
/-- the page that a new record takes holds no newest one -/
theorem fm_free {k o s w pr : Nat → Nat} {act ns a q : Nat} (h : fm_A k o s w pr act ns) (ha : act < 8) (hr : pr act < 4) (ea : a = 4 * act + pr act) (hq : q < 12) : w q ≠ a := by
  obtain ⟨h1, h2, h3, h4, h5, h6, h7, h8, h9⟩ := h
  intro z
  have hA : a < 32 := by omega
  have hk0 : k a = 0 := (h1 a hA).2.mpr (by rw [show a / 4 = act by omega, show a % 4 = pr act by omega]; exact Nat.le_refl _)
  have t := ((h5 q hq).2 (by omega)).1
  rw [z] at t
  omega
/-- after a record of a value or of a lack -/
theorem fm_v12 {k o s w pr : Nat → Nat} {c : Nat → Int32} {act ns a p q kd : Nat} {x : Int32} (h : fm_A k o s w pr act ns) (ha : act < 8) (hr : pr act < 4) (ea : a = 4 * act + pr act) (hk : kd = 1 ∨ kd = 2) (hq : q < 12) :
    fm_v (fm_u k a kd) (fm_u w p a) (upd c a x) q = fm_mu (fm_v k w c) p kd x q := by
  unfold fm_mu
  by_cases e : q = p
  · rw [if_pos (show q = p ∧ kd ≠ 3 from ⟨e, by omega⟩), e]
    exact fm_vp (by omega)
  · rw [if_neg (show ¬ (q = p ∧ kd ≠ 3) from fun z => e z.1), fm_vw (w' := fm_u w p a) (w := w) (fm_un e)]
    exact fm_vo (fm_free h ha hr ea hq)
theorem fm_v3 {k o s w pr : Nat → Nat} {c : Nat → Int32} {act ns a p q : Nat} {x : Int32} (h : fm_A k o s w pr act ns) (ha : act < 8) (hr : pr act < 4) (ea : a = 4 * act + pr act) (hq : q < 12) :
    fm_v (fm_u k a 3) w (upd c a x) q = fm_mu (fm_v k w c) p 3 x q := by
  unfold fm_mu
  rw [if_neg (show ¬ (q = p ∧ 3 ≠ 3) from fun z => z.2 rfl)]
  exact fm_vo (fm_free h ha hr ea hq)
/-- moving a record: kind and content as they were -/
theorem fm_vm {k o s w pr : Nat → Nat} {c : Nat → Int32} {act ns a p q : Nat} (h : fm_A k o s w pr act ns) (ha : act < 8) (hr : pr act < 4) (ea : a = 4 * act + pr act) (hp : p < 12) (hw : w p < 32) (hq : q < 12) :
    fm_v (fm_u k a (k (w p))) (fm_u w p a) (upd c a (c (w p))) q = fm_v k w c q := by
  have hk : k (w p) = 1 ∨ k (w p) = 2 := ((h.2.2.2.2.1 p hp).2 hw).1
  rw [fm_v12 h ha hr ea hk hq]
  unfold fm_mu
  by_cases e : q = p
  · rw [if_pos (show q = p ∧ k (w p) ≠ 3 from ⟨e, by omega⟩), e]
    unfold fm_v
    by_cases h1 : k (w p) = 1
    · rw [if_pos h1, if_pos (show w p < 32 ∧ k (w p) = 1 from ⟨hw, h1⟩)]
    · rw [if_neg h1, if_neg (show ¬ (w p < 32 ∧ k (w p) = 1) from fun z => h1 z.2)]
  · rw [if_neg (show ¬ (q = p ∧ k (w p) ≠ 3) from fun z => e z.1)]
def fm_ec (c : Nat → Int32) (b : Nat) : Nat → Int32 := fun i => if i / 4 = b then 0 else c i
/-- erasing a block that holds no newest record -/
theorem fm_ve {k w : Nat → Nat} {c : Nat → Int32} {b q : Nat} (hw : w q / 4 ≠ b) : fm_v (fm_e k b) w (fm_ec c b) q = fm_v k w c q := by
  unfold fm_v
  rw [fm_en (f := k) hw, show fm_ec c b (w q) = c (w q) from if_neg hw]
/-! erasing goes page by page: the first j pages of block b -/
def fm_ej (f : Nat → Nat) (b j : Nat) : Nat → Nat := fun i => if 4 * b ≤ i ∧ i < 4 * b + j then 0 else f i
def fm_ecj (f : Nat → Int32) (b j : Nat) : Nat → Int32 := fun i => if 4 * b ≤ i ∧ i < 4 * b + j then 0 else f i
theorem fm_ej0 {f : Nat → Nat} {b : Nat} : fm_ej f b 0 = f := by
  funext i
  exact if_neg (by omega)
theorem fm_ecj0 {f : Nat → Int32} {b : Nat} : fm_ecj f b 0 = f := by
  funext i
  exact if_neg (by omega)
theorem fm_ejs {f : Nat → Nat} {b j : Nat} : fm_u (fm_ej f b j) (4 * b + j) 0 = fm_ej f b (j + 1) := by
  funext i
  by_cases e : i = 4 * b + j
  · rw [e, fm_us (f := fm_ej f b j)]
    exact (if_pos (by omega)).symm
  · rw [fm_un (f := fm_ej f b j) e]
    show (if 4 * b ≤ i ∧ i < 4 * b + j then 0 else f i) = (if 4 * b ≤ i ∧ i < 4 * b + (j + 1) then 0 else f i)
    by_cases l : 4 * b ≤ i ∧ i < 4 * b + j
    · rw [if_pos l, if_pos (show 4 * b ≤ i ∧ i < 4 * b + (j + 1) by omega)]
    · rw [if_neg l, if_neg (show ¬ (4 * b ≤ i ∧ i < 4 * b + (j + 1)) by omega)]
theorem fm_ecjs {f : Nat → Int32} {b j : Nat} : upd (fm_ecj f b j) (4 * b + j) 0 = fm_ecj f b (j + 1) := by
  funext i
  by_cases e : i = 4 * b + j
  · rw [e, pk_us]
    exact (if_pos (by omega)).symm
  · rw [pk_un e]
    show (if 4 * b ≤ i ∧ i < 4 * b + j then 0 else f i) = (if 4 * b ≤ i ∧ i < 4 * b + (j + 1) then 0 else f i)
    by_cases l : 4 * b ≤ i ∧ i < 4 * b + j
    · rw [if_pos l, if_pos (show 4 * b ≤ i ∧ i < 4 * b + (j + 1) by omega)]
    · rw [if_neg l, if_neg (show ¬ (4 * b ≤ i ∧ i < 4 * b + (j + 1)) by omega)]
theorem fm_ej4 {f : Nat → Nat} {b : Nat} : fm_ej f b 4 = fm_e f b := by
  funext i
  show (if 4 * b ≤ i ∧ i < 4 * b + 4 then 0 else f i) = (if i / 4 = b then 0 else f i)
  by_cases l : i / 4 = b
  · rw [if_pos l, if_pos (show 4 * b ≤ i ∧ i < 4 * b + 4 by omega)]
  · rw [if_neg l, if_neg (show ¬ (4 * b ≤ i ∧ i < 4 * b + 4) by omega)]
theorem fm_ecj4 {f : Nat → Int32} {b : Nat} : fm_ecj f b 4 = fm_ec f b := by
  funext i
  show (if 4 * b ≤ i ∧ i < 4 * b + 4 then 0 else f i) = (if i / 4 = b then 0 else f i)
  by_cases l : i / 4 = b
  · rw [if_pos l, if_pos (show 4 * b ≤ i ∧ i < 4 * b + 4 by omega)]
  · rw [if_neg l, if_neg (show ¬ (4 * b ≤ i ∧ i < 4 * b + 4) by omega)]
/-! the map of the logical pages -/
def fm_ms (m : Nat → Option Int32) (p : Nat) (y : Option Int32) : Nat → Option Int32 := fun q => if q = p then y else m q
theorem fm_mss {m : Nat → Option Int32} {p : Nat} {y : Option Int32} : fm_ms m p y p = y := if_pos rfl
theorem fm_msn {m : Nat → Option Int32} {p q : Nat} {y : Option Int32} (h : q ≠ p) : fm_ms m p y q = m q := if_neg h
theorem fm_mu1 (m : Nat → Option Int32) (p : Nat) (x : Int32) (q : Nat) : fm_mu m p 1 x q = fm_ms m p (some x) q := by
  unfold fm_mu fm_ms
  by_cases h : q = p
  · rw [if_pos (show q = p ∧ 1 ≠ 3 from ⟨h, by decide⟩), if_pos h, if_pos (show 1 = 1 from rfl)]
  · rw [if_neg (show ¬ (q = p ∧ 1 ≠ 3) from fun z => h z.1), if_neg h]
theorem fm_mu2 (m : Nat → Option Int32) (p : Nat) (x : Int32) (q : Nat) : fm_mu m p 2 x q = fm_ms m p none q := by
  unfold fm_mu fm_ms
  by_cases h : q = p
  · rw [if_pos (show q = p ∧ 2 ≠ 3 from ⟨h, by decide⟩), if_pos h, if_neg (show ¬ 2 = 1 by decide)]
  · rw [if_neg (show ¬ (q = p ∧ 2 ≠ 3) from fun z => h z.1), if_neg h]
theorem fm_mu3 (m : Nat → Option Int32) (p : Nat) (x : Int32) (q : Nat) : fm_mu m p 3 x q = m q := by
  unfold fm_mu
  rw [if_neg (show ¬ (q = p ∧ 3 ≠ 3) from fun z => z.2 rfl)]
def fm_ob : Option Int32 → Nat
  | none => 0
  | some _ => 1
def fm_gv : Option Int32 → Int32
  | none => 0
  | some x => x
def fm_uc (m : Nat → Option Int32) : Nat → Nat
  | 0 => 0
  | n + 1 => fm_uc m n + fm_ob (m n)
def fm_ts (m : Nat → Option Int32) : Nat → Int64
  | 0 => 0
  | n + 1 => fm_ts m n + (fm_gv (m n)).toInt64
theorem fm_ucS (m : Nat → Option Int32) (n : Nat) : fm_uc m (n + 1) = fm_uc m n + fm_ob (m n) := rfl
theorem fm_tsS (m : Nat → Option Int32) (n : Nat) : fm_ts m (n + 1) = fm_ts m n + (fm_gv (m n)).toInt64 := rfl
theorem fm_ob_le (x : Option Int32) : fm_ob x ≤ 1 := by
  cases x
  · exact Nat.zero_le 1
  · exact Nat.le_refl 1
/-- pages q up to i (left out) hold y -/
def fm_fl (m : Nat → Option Int32) (y : Option Int32) (q i : Nat) : Nat → Option Int32 := fun x => if q ≤ x ∧ x < i then y else m x
theorem fm_fl0 {m : Nat → Option Int32} {y : Option Int32} {q : Nat} : fm_fl m y q q = m := by
  funext x
  exact if_neg (by omega)
theorem fm_fls {m : Nat → Option Int32} {y : Option Int32} {q i : Nat} (h : q ≤ i) : fm_ms (fm_fl m y q i) i y = fm_fl m y q (i + 1) := by
  funext x
  by_cases e : x = i
  · rw [e, fm_mss]
    exact (if_pos (by omega)).symm
  · rw [fm_msn e]
    show (if q ≤ x ∧ x < i then y else m x) = (if q ≤ x ∧ x < i + 1 then y else m x)
    by_cases l : q ≤ x ∧ x < i
    · rw [if_pos l, if_pos (show q ≤ x ∧ x < i + 1 by omega)]
    · rw [if_neg l, if_neg (show ¬ (q ≤ x ∧ x < i + 1) by omega)]
