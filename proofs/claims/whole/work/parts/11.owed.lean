/-! the owed statements -/
/-- the object stands for a map of the logical pages, and the reference holds the same one -/
def i_Rel (k : Nat) (u : SX) (v : SY) : Prop := ∃ m : Nat → Option Int32, fm_G (40 * k) m u ∧ fm_R m v
theorem i_up {k : Nat} {u : SX} {v : SY} (h : i_Rel k u v) : i_Rel (k + 4) u v := by
  obtain ⟨m, G, R⟩ := h
  exact ⟨m, fm_Gc G (by omega) (fun _ _ => rfl), R⟩
theorem zw_0 {u : SX} {k0 : Int32} (G : fm_G 1 (fun _ => none) u) : wpY_init (fun v => i_Rel 1 u v) k0 :=
  ⟨fun _ => none, fm_Gc G (by omega) (fun _ _ => rfl), fun q _ => ⟨rfl, fun z => absurd rfl z⟩⟩
theorem i_vc0 (k0 : Int32) : wpX_init (fun u => wpY_init (fun v => i_Rel 1 u v) k0) k0 := by
  unfold wpX_init
  by_cases h1 : (1 : Int32) ≤ k0
  · refine br_t h1 ?_
    by_cases h3 : k0 ≤ 3
    · refine br_t h3 ?_
      have h0 : ¬ k0 < 0 := by
        intro z
        rw [Int32.le_iff_toInt_le, show (1 : Int32).toInt = 1 from by decide] at h1
        rw [Int32.lt_iff_toInt_lt, show (0 : Int32).toInt = 0 from by decide] at z
        omega
      obtain ⟨j, hj, rfl⟩ := nI_of2 (M := 3) (n := 3) (by decide) h0 h3
      have hj1 : 1 ≤ j := (nI_leI (a := 1) (by decide) (by omega)).mp h1
      exact xw_init hj1 hj (fun u G => zw_0 G)
    · exact br_f h3 (xw_init (sp := 3) (by decide) (by decide) (fun u G => zw_0 G))
  · exact br_f h1 (xw_init (sp := 1) (by decide) (by decide) (fun u G => zw_0 G))
theorem zw_ix (x : Int32) : (x < 0 ∨ nI 12 ≤ x) ∨ ∃ j : Nat, j < 12 ∧ x = nI j := by
  rcases pk_ix x (n := 12) (by decide) with h | h | h
  · exact Or.inl (Or.inl h)
  · exact Or.inl (Or.inr h)
  · exact Or.inr h
theorem i_vc_write {k : Nat} {u : SX} {v : SY} (I : i_Rel k u v) (hk : k + 4 ≤ 2049) (v1 : Int32) (v2 : Int32) : wpX_write (fun r u' => wpY_write (fun r' v' => r' = r ∧ i_Rel (k + 4) u' v') v v1 v2) u v1 v2 := by
  have I2 := i_up I
  obtain ⟨m, G, R⟩ := I
  obtain ⟨u1, u2, u3, u4, u5, u6, u7, u8, u9⟩ := u
  unfold wpX_write
  dsimp only
  rcases zw_ix v1 with hx | ⟨p, hp, rfl⟩
  · refine xw_out1 hx (br_f xw_1 ?_)
    obtain ⟨a, t⟩ := v
    unfold wpY_write
    dsimp only
    exact yw_p0 hx (br_t rfl ⟨rfl, I2⟩)
  · refine xw_out0 hp (br_t rfl (gw_count G hp (xw_append (kd := 1) G hp (by omega) (fun u' G' => ?_))))
    obtain ⟨w1, w2, w3, w4, w5, w6, w7, w8, w9⟩ := u'
    exact yw_write R hp (fun v' R' => ⟨rfl, _, fm_Gc G' (by omega) (fun q _ => fm_mu1 m p v2 q), R'⟩)
theorem i_vc_torn {k : Nat} {u : SX} {v : SY} (I : i_Rel k u v) (hk : k + 4 ≤ 2049) (v1 : Int32) (v2 : Int32) : wpX_torn (fun r u' => wpY_torn (fun r' => r' = r ∧ i_Rel (k + 4) u' v) v v1 v2) u v1 v2 := by
  have I2 := i_up I
  obtain ⟨m, G, R⟩ := I
  obtain ⟨u1, u2, u3, u4, u5, u6, u7, u8, u9⟩ := u
  obtain ⟨a, t⟩ := v
  unfold wpX_torn wpY_torn
  dsimp only
  rcases zw_ix v1 with hx | ⟨p, hp, rfl⟩
  · exact xw_out1 hx (br_f xw_1 (yw_p0 hx (br_t rfl ⟨rfl, I2⟩)))
  · refine xw_out0 hp (br_t rfl (xw_append (kd := 3) G hp (by omega) (fun u' G' => ?_)))
    obtain ⟨w1, w2, w3, w4, w5, w6, w7, w8, w9⟩ := u'
    refine xw_start G' (by omega) (fun u2 G2 => ?_)
    obtain ⟨y1, y2, y3, y4, y5, y6, y7, y8, y9⟩ := u2
    exact yw_p1 hp (br_f xw_1 ⟨rfl, m, fm_Gc G2 (by omega) (fun q _ => fm_mu3 m p v2 q), R⟩)
theorem i_vc_trim {k : Nat} {u : SX} {v : SY} (I : i_Rel k u v) (hk : k + 4 ≤ 2049) (v1 : Int32) : wpX_trim (fun r u' => wpY_trim (fun r' v' => r' = r ∧ i_Rel (k + 4) u' v') v v1) u v1 := by
  have I2 := i_up I
  obtain ⟨m, G, R⟩ := I
  obtain ⟨u1, u2, u3, u4, u5, u6, u7, u8, u9⟩ := u
  unfold wpX_trim
  dsimp only
  rcases zw_ix v1 with hx | ⟨p, hp, rfl⟩
  · refine xw_out1 hx (br_f xw_1 ?_)
    obtain ⟨a, t⟩ := v
    unfold wpY_trim
    dsimp only
    exact yw_p0 hx (br_t rfl ⟨rfl, I2⟩)
  · refine xw_out0 hp (br_t rfl (gw_count G hp (gw_change (y := none) G hp (fun u' G' => ?_))))
    obtain ⟨w1, w2, w3, w4, w5, w6, w7, w8, w9⟩ := u'
    exact yw_trim R hp (fun v' R' => ⟨rfl, _, fm_Gc G' (by omega) (fun _ _ => rfl), R'⟩)
theorem i_vc_powerCut {k : Nat} {u : SX} {v : SY} (I : i_Rel k u v) (hk : k + 4 ≤ 2049) : wpX_powerCut (fun r u' => wpY_powerCut (fun r' => r' = r ∧ i_Rel (k + 4) u' v) v) u := by
  obtain ⟨m, G, R⟩ := I
  obtain ⟨u1, u2, u3, u4, u5, u6, u7, u8, u9⟩ := u
  obtain ⟨a, t⟩ := v
  unfold wpX_powerCut wpY_powerCut
  dsimp only
  refine xw_start G (by omega) (fun u2 G2 => ?_)
  obtain ⟨y1, y2, y3, y4, y5, y6, y7, y8, y9⟩ := u2
  exact gw_used G2 (yw_used R ⟨rfl, m, fm_Gc G2 (by omega) (fun _ _ => rfl), R⟩)
theorem i_vc_has {k : Nat} {u : SX} {v : SY} (I : i_Rel k u v) (hk : k + 4 ≤ 2049) (v1 : Int32) : wpX_has (fun r => wpY_has (fun r' => r' = r ∧ i_Rel (k + 4) u v) v v1) u v1 := by
  have I2 := i_up I
  obtain ⟨m, G, R⟩ := I
  rcases zw_ix v1 with hx | ⟨p, hp, rfl⟩
  · exact xw_hasOut hx (yw_hasOut hx ⟨rfl, I2⟩)
  · exact gw_has G hp (yw_has R hp ⟨rfl, I2⟩)
theorem i_vc_read {k : Nat} {u : SX} {v : SY} (I : i_Rel k u v) (hk : k + 4 ≤ 2049) (v1 : Int32) : wpX_read (fun r => wpY_read (fun r' => r' = r ∧ i_Rel (k + 4) u v) v v1) u v1 := by
  have I2 := i_up I
  obtain ⟨m, G, R⟩ := I
  rcases zw_ix v1 with hx | ⟨p, hp, rfl⟩
  · exact xw_readOut hx (yw_readOut hx ⟨rfl, I2⟩)
  · exact gw_read G hp (yw_read R hp ⟨rfl, I2⟩)
theorem i_vc_used {k : Nat} {u : SX} {v : SY} (I : i_Rel k u v) (hk : k + 4 ≤ 2049) : wpX_used (fun r => wpY_used (fun r' => r' = r ∧ i_Rel (k + 4) u v) v) u := by
  have I2 := i_up I
  obtain ⟨m, G, R⟩ := I
  exact gw_used G (yw_used R ⟨rfl, I2⟩)
theorem i_vc_nextUsed {k : Nat} {u : SX} {v : SY} (I : i_Rel k u v) (hk : k + 4 ≤ 2049) (v1 : Int32) : wpX_nextUsed (fun r => wpY_nextUsed (fun r' => r' = r ∧ i_Rel (k + 4) u v) v v1) u v1 := by
  have I2 := i_up I
  obtain ⟨m, G, R⟩ := I
  obtain ⟨u1, u2, u3, u4, u5, u6, u7, u8, u9⟩ := u
  obtain ⟨a, t⟩ := v
  obtain ⟨r, hX, hY⟩ := zw_next G R v1 12 0 rfl
  unfold wpX_nextUsed wpY_nextUsed
  dsimp only
  exact ⟨13, hX _ ⟨13, hY _ ⟨rfl, I2⟩⟩⟩
theorem i_vc_total {k : Nat} {u : SX} {v : SY} (I : i_Rel k u v) (hk : k + 4 ≤ 2049) : wpX_total (fun r => wpY_total (fun r' => r' = r ∧ i_Rel (k + 4) u v) v) u := by
  have I2 := i_up I
  obtain ⟨m, G, R⟩ := I
  exact gw_total G (yw_total R ⟨rfl, I2⟩)
theorem i_vc_exchange {k : Nat} {u : SX} {v : SY} (I : i_Rel k u v) (hk : k + 4 ≤ 2049) (v1 : Int32) (v2 : Int32) : wpX_exchange (fun r u' => wpY_exchange (fun r' v' => r' = r ∧ i_Rel (k + 4) u' v') v v1 v2) u v1 v2 := by
  have I2 := i_up I
  obtain ⟨m, G, R⟩ := I
  rcases zw_ix v1 with hx | ⟨p, hp, rfl⟩
  · obtain ⟨u1, u2, u3, u4, u5, u6, u7, u8, u9⟩ := u
    obtain ⟨a, t⟩ := v
    unfold wpX_exchange wpY_exchange
    dsimp only
    exact xw_out1 hx (br_f xw_1 (yw_p0 hx (br_t rfl ⟨rfl, I2⟩)))
  · rcases zw_ix v2 with hx | ⟨q, hq, rfl⟩
    · obtain ⟨u1, u2, u3, u4, u5, u6, u7, u8, u9⟩ := u
      obtain ⟨a, t⟩ := v
      unfold wpX_exchange wpY_exchange
      dsimp only
      exact xw_out0 hp (br_t rfl (xw_out1 hx (br_f xw_1 (yw_p1 hp (br_f xw_1 (yw_p0 hx (br_t rfl ⟨rfl, I2⟩)))))))
    · exact gw_exch G hp hq (fun u' G' => yw_exch R hp hq (fun v' R' => ⟨rfl, _, fm_Gc G' (by omega) (fun _ _ => rfl), R'⟩))
theorem i_vc_fill {k : Nat} {u : SX} {v : SY} (I : i_Rel k u v) (hk : k + 4 ≤ 2049) (v1 : Int32) (v2 : Int32) (v3 : Int32) : wpX_fill (fun r u' => wpY_fill (fun r' v' => r' = r ∧ i_Rel (k + 4) u' v') v v1 v2 v3) u v1 v2 v3 := by
  have I2 := i_up I
  obtain ⟨m, G, R⟩ := I
  rcases zw_ix v1 with hx | ⟨p, hp, rfl⟩
  · obtain ⟨u1, u2, u3, u4, u5, u6, u7, u8, u9⟩ := u
    obtain ⟨a, t⟩ := v
    unfold wpX_fill wpY_fill
    dsimp only
    exact xw_out1 hx (br_f xw_1 (yw_p0 hx (br_t rfl ⟨rfl, I2⟩)))
  · rcases zw_ix v2 with hx | ⟨q, hq, rfl⟩
    · obtain ⟨u1, u2, u3, u4, u5, u6, u7, u8, u9⟩ := u
      obtain ⟨a, t⟩ := v
      unfold wpX_fill wpY_fill
      dsimp only
      exact xw_out0 hp (br_t rfl (xw_out1 hx (br_f xw_1 (yw_p1 hp (br_f xw_1 (yw_p0 hx (br_t rfl ⟨rfl, I2⟩)))))))
    · rcases zw_ix v3 with hx | ⟨r, hr, rfl⟩
      · obtain ⟨u1, u2, u3, u4, u5, u6, u7, u8, u9⟩ := u
        obtain ⟨a, t⟩ := v
        unfold wpX_fill wpY_fill
        dsimp only
        exact xw_out0 hp (br_t rfl (xw_out0 hq (br_t rfl (xw_out1 hx (br_f xw_1 (yw_p1 hp (br_f xw_1 (yw_p1 hq (br_f xw_1 (yw_p0 hx (br_t rfl ⟨rfl, I2⟩)))))))))))
      · by_cases l : q ≤ r
        · exact gw_fill G hp hq hr l (fun u' G' => yw_fill R hp hq hr l (fun v' R' => ⟨rfl, _, fm_Gc G' (by omega) (fun _ _ => rfl), R'⟩))
        · have hl : ¬ nI q ≤ nI r := nI_ge (by omega) (by omega)
          obtain ⟨u1, u2, u3, u4, u5, u6, u7, u8, u9⟩ := u
          obtain ⟨a, t⟩ := v
          unfold wpX_fill wpY_fill
          dsimp only
          exact xw_out0 hp (br_t rfl (xw_out0 hq (br_t rfl (xw_out0 hr (br_t rfl (br_f hl (yw_p1 hp (br_f xw_1 (yw_p1 hq (br_f xw_1 (yw_p1 hr (br_f xw_1 (br_f hl ⟨rfl, I2⟩)))))))))))))
