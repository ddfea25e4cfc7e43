/-! what the logical pages hold -/
def fm_v (k w : Nat → Nat) (c : Nat → Int32) (p : Nat) : Option Int32 := if w p < 32 ∧ k (w p) = 1 then some (c (w p)) else none
/-- the map with page p changed by a record of kind kd -/
def fm_mu (m : Nat → Option Int32) (p kd : Nat) (x : Int32) : Nat → Option Int32 := fun q => if q = p ∧ kd ≠ 3 then (if kd = 1 then some x else none) else m q
theorem fm_v1 {k w : Nat → Nat} {c : Nat → Int32} {p : Nat} (h : w p < 32 ∧ k (w p) = 1) : fm_v k w c p = some (c (w p)) := if_pos h
theorem fm_v0 {k w : Nat → Nat} {c : Nat → Int32} {p : Nat} (h : ¬ (w p < 32 ∧ k (w p) = 1)) : fm_v k w c p = none := if_neg h
/-- a page that holds no record counted before changes nothing for the others -/
theorem fm_vo {k w : Nat → Nat} {c : Nat → Int32} {q a kd : Nat} {x : Int32} (h : w q ≠ a) : fm_v (fm_u k a kd) w (upd c a x) q = fm_v k w c q := by
  unfold fm_v
  rw [fm_un (f := k) h, pk_un h]
theorem fm_vw {k w w' : Nat → Nat} {c : Nat → Int32} {q : Nat} (h : w' q = w q) : fm_v k w' c q = fm_v k w c q := by
  unfold fm_v
  rw [h]
/-- the record just programmed -/
theorem fm_vp {k w : Nat → Nat} {c : Nat → Int32} {p a kd : Nat} {x : Int32} (ha : a < 32) : fm_v (fm_u k a kd) (fm_u w p a) (upd c a x) p = if kd = 1 then some x else none := by
  unfold fm_v
  rw [fm_us (f := w), fm_us (f := k), pk_us]
  by_cases h : kd = 1
  · rw [if_pos (show a < 32 ∧ kd = 1 from ⟨ha, h⟩), if_pos h]
  · rw [if_neg (show ¬ (a < 32 ∧ kd = 1) from fun z => h z.2), if_neg h]
/-- the page that a new record takes holds no newest one -/
theorem fm_free {k o s w pr : Nat → Nat} {act ns a q : Nat} (h : fm_A k o s w pr act ns) (ha : act < 8) (hr : pr act < 4) (ea : a = 4 * act + pr act) (hq : q < 12) : w q ≠ a := by
  obtain ⟨h1, h2, h3, h4, h5, h6, h7, h8, h9⟩ := h
  intro z
  have hA : a < 32 := by omega
  have hk0 : k a = 0 := (h1 a hA).2.mpr (by rw [show a / 4 = act by omega, show a % 4 = pr act by omega]; exact Nat.le_refl _)
  have t := ((h5 q hq).2 (by omega)).1
  rw [z] at t
  omega
/-- after a record of a value or of a lack -/
theorem fm_v12 {k o s w pr : Nat → Nat} {c : Nat → Int32} {act ns a p q kd : Nat} {x : Int32} (h : fm_A k o s w pr act ns) (ha : act < 8) (hr : pr act < 4) (ea : a = 4 * act + pr act) (hk : kd = 1 ∨ kd = 2) (hq : q < 12) :
    fm_v (fm_u k a kd) (fm_u w p a) (upd c a x) q = fm_mu (fm_v k w c) p kd x q := by
  unfold fm_mu
  by_cases e : q = p
  · rw [if_pos (show q = p ∧ kd ≠ 3 from ⟨e, by omega⟩), e]
    exact fm_vp (by omega)
  · rw [if_neg (show ¬ (q = p ∧ kd ≠ 3) from fun z => e z.1), fm_vw (w' := fm_u w p a) (w := w) (fm_un e)]
    exact fm_vo (fm_free h ha hr ea hq)
theorem fm_v3 {k o s w pr : Nat → Nat} {c : Nat → Int32} {act ns a p q : Nat} {x : Int32} (h : fm_A k o s w pr act ns) (ha : act < 8) (hr : pr act < 4) (ea : a = 4 * act + pr act) (hq : q < 12) :
    fm_v (fm_u k a 3) w (upd c a x) q = fm_mu (fm_v k w c) p 3 x q := by
  unfold fm_mu
  rw [if_neg (show ¬ (q = p ∧ 3 ≠ 3) from fun z => z.2 rfl)]
  exact fm_vo (fm_free h ha hr ea hq)
/-- moving a record: kind and content as they were -/
theorem fm_vm {k o s w pr : Nat → Nat} {c : Nat → Int32} {act ns a p q : Nat} (h : fm_A k o s w pr act ns) (ha : act < 8) (hr : pr act < 4) (ea : a = 4 * act + pr act) (hp : p < 12) (hw : w p < 32) (hq : q < 12) :
    fm_v (fm_u k a (k (w p))) (fm_u w p a) (upd c a (c (w p))) q = fm_v k w c q := by
  have hk : k (w p) = 1 ∨ k (w p) = 2 := ((h.2.2.2.2.1 p hp).2 hw).1
  rw [fm_v12 h ha hr ea hk hq]
  unfold fm_mu
  by_cases e : q = p
  · rw [if_pos (show q = p ∧ k (w p) ≠ 3 from ⟨e, by omega⟩), e]
    unfold fm_v
    by_cases h1 : k (w p) = 1
    · rw [if_pos h1, if_pos (show w p < 32 ∧ k (w p) = 1 from ⟨hw, h1⟩)]
    · rw [if_neg h1, if_neg (show ¬ (w p < 32 ∧ k (w p) = 1) from fun z => h1 z.2)]
  · rw [if_neg (show ¬ (q = p ∧ k (w p) ≠ 3) from fun z => e z.1)]
def fm_ec (c : Nat → Int32) (b : Nat) : Nat → Int32 := fun i => if i / 4 = b then 0 else c i
/-- erasing a block that holds no newest record -/
theorem fm_ve {k w : Nat → Nat} {c : Nat → Int32} {b q : Nat} (hw : w q / 4 ≠ b) : fm_v (fm_e k b) w (fm_ec c b) q = fm_v k w c q := by
  unfold fm_v
  rw [fm_en (f := k) hw, show fm_ec c b (w q) = c (w q) from if_neg hw]
/-! erasing goes page by page: the first j pages of block b -/
def fm_ej (f : Nat → Nat) (b j : Nat) : Nat → Nat := fun i => if 4 * b ≤ i ∧ i < 4 * b + j then 0 else f i
def fm_ecj (f : Nat → Int32) (b j : Nat) : Nat → Int32 := fun i => if 4 * b ≤ i ∧ i < 4 * b + j then 0 else f i
theorem fm_ej0 {f : Nat → Nat} {b : Nat} : fm_ej f b 0 = f := by
  funext i
  exact if_neg (by omega)
theorem fm_ecj0 {f : Nat → Int32} {b : Nat} : fm_ecj f b 0 = f := by
  funext i
  exact if_neg (by omega)
theorem fm_ejs {f : Nat → Nat} {b j : Nat} : fm_u (fm_ej f b j) (4 * b + j) 0 = fm_ej f b (j + 1) := by
  funext i
  by_cases e : i = 4 * b + j
  · rw [e, fm_us (f := fm_ej f b j)]
    exact (if_pos (by omega)).symm
  · rw [fm_un (f := fm_ej f b j) e]
    show (if 4 * b ≤ i ∧ i < 4 * b + j then 0 else f i) = (if 4 * b ≤ i ∧ i < 4 * b + (j + 1) then 0 else f i)
    by_cases l : 4 * b ≤ i ∧ i < 4 * b + j
    · rw [if_pos l, if_pos (show 4 * b ≤ i ∧ i < 4 * b + (j + 1) by omega)]
    · rw [if_neg l, if_neg (show ¬ (4 * b ≤ i ∧ i < 4 * b + (j + 1)) by omega)]
theorem fm_ecjs {f : Nat → Int32} {b j : Nat} : upd (fm_ecj f b j) (4 * b + j) 0 = fm_ecj f b (j + 1) := by
  funext i
  by_cases e : i = 4 * b + j
  · rw [e, pk_us]
    exact (if_pos (by omega)).symm
  · rw [pk_un e]
    show (if 4 * b ≤ i ∧ i < 4 * b + j then 0 else f i) = (if 4 * b ≤ i ∧ i < 4 * b + (j + 1) then 0 else f i)
    by_cases l : 4 * b ≤ i ∧ i < 4 * b + j
    · rw [if_pos l, if_pos (show 4 * b ≤ i ∧ i < 4 * b + (j + 1) by omega)]
    · rw [if_neg l, if_neg (show ¬ (4 * b ≤ i ∧ i < 4 * b + (j + 1)) by omega)]
theorem fm_ej4 {f : Nat → Nat} {b : Nat} : fm_ej f b 4 = fm_e f b := by
  funext i
  show (if 4 * b ≤ i ∧ i < 4 * b + 4 then 0 else f i) = (if i / 4 = b then 0 else f i)
  by_cases l : i / 4 = b
  · rw [if_pos l, if_pos (show 4 * b ≤ i ∧ i < 4 * b + 4 by omega)]
  · rw [if_neg l, if_neg (show ¬ (4 * b ≤ i ∧ i < 4 * b + 4) by omega)]
theorem fm_ecj4 {f : Nat → Int32} {b : Nat} : fm_ecj f b 4 = fm_ec f b := by
  funext i
  show (if 4 * b ≤ i ∧ i < 4 * b + 4 then 0 else f i) = (if i / 4 = b then 0 else f i)
  by_cases l : i / 4 = b
  · rw [if_pos l, if_pos (show 4 * b ≤ i ∧ i < 4 * b + 4 by omega)]
  · rw [if_neg l, if_neg (show ¬ (4 * b ≤ i ∧ i < 4 * b + 4) by omega)]
