/-! LAYER 2: the rows that are read keep their bounds -/
theorem wr_one {r : ZRow} (h : WR r) (p v : Nat) (hp : (p = 2 ∧ v ≤ 99999) ∨ (p = 3 ∧ v ≤ 50) ∨ (p = 4 ∧ v ≤ 999) ∨ (p = 5 ∧ v ≤ 99)) : WR (zat r p v) := by
  obtain ⟨⟨h0, h1, h2, h3, h4, h5, h6, h7, h8, h9, h10, h11, h12, h13, h14, hm, hc, hf⟩, z8, z9, z10, z11, z12, z13, z14⟩ := h
  have hp2 : 2 ≤ p ∧ p ≤ 5 := by omega
  have e : ∀ j, (j < 2 ∨ 5 < j) → zat r p v j = r j := fun j hj => zat_ne (by omega)
  have g2 : zat r p v 2 ≤ 99999 := by unfold zat; split <;> omega
  have g3 : zat r p v 3 ≤ 50 := by unfold zat; split <;> omega
  have g4 : zat r p v 4 ≤ 999 := by unfold zat; split <;> omega
  have g5 : zat r p v 5 ≤ 99 := by unfold zat; split <;> omega
  clear hp
  refine ⟨⟨by rw [e 0 (by omega)]; exact h0, by rw [e 1 (by omega)]; exact h1, g2, g3, g4, g5, by rw [e 6 (by omega), e 7 (by omega)]; exact h6, by rw [e 7 (by omega)]; exact h7, by rw [e 8 (by omega)]; exact h8, by rw [e 9 (by omega)]; exact h9, by rw [e 10 (by omega)]; exact h10, by rw [e 11 (by omega)]; exact h11, by rw [e 12 (by omega), e 0 (by omega)]; exact h12, by rw [e 13 (by omega), e 0 (by omega)]; exact h13, by rw [e 14 (by omega), e 0 (by omega)]; exact h14, fun i hi => ?_, fun c hc2 => ?_, fun i hi => ?_⟩, by rw [e 8 (by omega)]; exact z8, by rw [e 9 (by omega)]; exact z9, by rw [e 10 (by omega)]; exact z10, by rw [e 11 (by omega)]; exact z11, by rw [e 12 (by omega)]; exact z12, by rw [e 13 (by omega)]; exact z13, by rw [e 14 (by omega)]; exact z14⟩
  · rw [e 0 (by omega)] at hi
    rw [e (15 + i) (by omega), e (25 + i) (by omega), e (35 + i) (by omega), e (45 + i) (by omega), e 1 (by omega)]
    exact hm i hi
  · rw [e 1 (by omega)] at hc2
    rw [e (55 + c) (by omega), e (59 + c) (by omega)]
    exact hc c hc2
  · rw [e (63 + i) (by omega), e 0 (by omega)]
    refine ⟨(hf i hi).1, fun j hj => ?_⟩
    rw [e (63 + j) (by omega)]
    exact (hf i hi).2 j hj
theorem wr_per {r : ZRow} (h : WR r) {v x : Nat} (hv : v ≤ x) (hx : x ≤ 99) : WR (zat (zat r 6 v) 7 x) := by
  obtain ⟨⟨h0, h1, h2, h3, h4, h5, h6, h7, h8, h9, h10, h11, h12, h13, h14, hm, hc, hf⟩, z8, z9, z10, z11, z12, z13, z14⟩ := h
  have e : ∀ j, j ≠ 6 → j ≠ 7 → zat (zat r 6 v) 7 x j = r j := fun j hj hk => by rw [zat_ne hk, zat_ne hj]
  have e6 : zat (zat r 6 v) 7 x 6 = v := by rw [zat_ne (by omega), zat_eq]
  have e7 : zat (zat r 6 v) 7 x 7 = x := zat_eq
  refine ⟨⟨by rw [e 0 (by omega) (by omega)]; exact h0, by rw [e 1 (by omega) (by omega)]; exact h1, by rw [e 2 (by omega) (by omega)]; exact h2, by rw [e 3 (by omega) (by omega)]; exact h3, by rw [e 4 (by omega) (by omega)]; exact h4, by rw [e 5 (by omega) (by omega)]; exact h5, by rw [e6, e7]; exact hv, by rw [e7]; exact hx, by rw [e 8 (by omega) (by omega)]; exact h8, by rw [e 9 (by omega) (by omega)]; exact h9, by rw [e 10 (by omega) (by omega)]; exact h10, by rw [e 11 (by omega) (by omega)]; exact h11, by rw [e 12 (by omega) (by omega), e 0 (by omega) (by omega)]; exact h12, by rw [e 13 (by omega) (by omega), e 0 (by omega) (by omega)]; exact h13, by rw [e 14 (by omega) (by omega), e 0 (by omega) (by omega)]; exact h14, fun i hi => ?_, fun c hc2 => ?_, fun i hi => ?_⟩, by rw [e 8 (by omega) (by omega)]; exact z8, by rw [e 9 (by omega) (by omega)]; exact z9, by rw [e 10 (by omega) (by omega)]; exact z10, by rw [e 11 (by omega) (by omega)]; exact z11, by rw [e 12 (by omega) (by omega)]; exact z12, by rw [e 13 (by omega) (by omega)]; exact z13, by rw [e 14 (by omega) (by omega)]; exact z14⟩
  · rw [e 0 (by omega) (by omega)] at hi
    rw [e (15 + i) (by omega) (by omega), e (25 + i) (by omega) (by omega), e (35 + i) (by omega) (by omega), e (45 + i) (by omega) (by omega), e 1 (by omega) (by omega)]
    exact hm i hi
  · rw [e 1 (by omega) (by omega)] at hc2
    rw [e (55 + c) (by omega) (by omega), e (59 + c) (by omega) (by omega)]
    exact hc c hc2
  · rw [e (63 + i) (by omega) (by omega), e 0 (by omega) (by omega)]
    refine ⟨(hf i hi).1, fun j hj => ?_⟩
    rw [e (63 + j) (by omega) (by omega)]
    exact (hf i hi).2 j hj
theorem wr_chn {r : ZRow} (h : WR r) {a b : Nat} (h4 : r 1 < 4) (ha : a ≤ 99) (hb : 1 ≤ b) (hb2 : b ≤ 30) : WR (zchn r a b) := by
  obtain ⟨⟨h0, h1, h2, h3, h4', h5, h6, h7, h8, h9, h10, h11, h12, h13, h14, hm, hc, hf⟩, z8, z9, z10, z11, z12, z13, z14⟩ := h
  have e : ∀ j, j ≠ 1 → (j < 55 ∨ 62 < j) → zchn r a b j = r j := fun j hj hk => zchn_ne hj (by omega) (by omega)
  refine ⟨⟨by rw [e 0 (by omega) (by omega)]; exact h0, by rw [zchn_1]; omega, by rw [e 2 (by omega) (by omega)]; exact h2, by rw [e 3 (by omega) (by omega)]; exact h3, by rw [e 4 (by omega) (by omega)]; exact h4', by rw [e 5 (by omega) (by omega)]; exact h5, by rw [e 6 (by omega) (by omega), e 7 (by omega) (by omega)]; exact h6, by rw [e 7 (by omega) (by omega)]; exact h7, by rw [e 8 (by omega) (by omega)]; exact h8, by rw [e 9 (by omega) (by omega)]; exact h9, by rw [e 10 (by omega) (by omega)]; exact h10, by rw [e 11 (by omega) (by omega)]; exact h11, by rw [e 12 (by omega) (by omega), e 0 (by omega) (by omega)]; exact h12, by rw [e 13 (by omega) (by omega), e 0 (by omega) (by omega)]; exact h13, by rw [e 14 (by omega) (by omega), e 0 (by omega) (by omega)]; exact h14, fun i hi => ?_, fun c hc2 => ?_, fun i hi => ?_⟩, by rw [e 8 (by omega) (by omega)]; exact z8, by rw [e 9 (by omega) (by omega)]; exact z9, by rw [e 10 (by omega) (by omega)]; exact z10, by rw [e 11 (by omega) (by omega)]; exact z11, by rw [e 12 (by omega) (by omega)]; exact z12, by rw [e 13 (by omega) (by omega)]; exact z13, by rw [e 14 (by omega) (by omega)]; exact z14⟩
  · rw [e 0 (by omega) (by omega)] at hi
    rw [e (15 + i) (by omega) (by omega), e (25 + i) (by omega) (by omega), e (35 + i) (by omega) (by omega), e (45 + i) (by omega) (by omega), zchn_1]
    obtain ⟨q1, q2, q3, q4, q5⟩ := hm i hi
    have := Nat.pow_le_pow_right (show 0 < 2 by decide) (show r 1 ≤ r 1 + 1 by omega)
    exact ⟨q1, q2, q3, q4, by omega⟩
  · rw [zchn_1] at hc2
    by_cases ec : c = r 1
    · subst ec
      rw [zchn_5, zchn_9]
      exact ⟨ha, hb, hb2⟩
    · rw [zchn_ne (by omega) (by omega) (by omega), zchn_ne (by omega) (by omega) (by omega)]
      exact hc c (by omega)
  · rw [e (63 + i) (by omega) (by omega), e 0 (by omega) (by omega)]
    refine ⟨(hf i hi).1, fun j hj => ?_⟩
    rw [e (63 + j) (by omega) (by omega)]
    exact (hf i hi).2 j hj
