/-! LAYER 2: members and conflicts that are read, and the lines -/
theorem wr_mbr {r : ZRow} (h : WR r) {a b c d : Nat} (h9' : r 0 < 10) (hab : a ≤ b) (hb : b ≤ 99) (hc1 : 1 ≤ c) (hc2 : c ≤ 99) (hd : d < 2 ^ r 1) : WR (zmbr r a b c d) := by
  obtain ⟨⟨h0, h1, h2, h3, h4, h5, h6, h7, h8, h9, h10, h11, h12, h13, h14, hm, hc, hf⟩, z8, z9, z10, z11, z12, z13, z14⟩ := h
  have e : ∀ j, j ≠ 0 → (j < 15 ∨ 54 < j) → zmbr r a b c d j = r j := fun j hj hk => zmbr_ne hj (by omega) (by omega) (by omega) (by omega)
  have hp := Nat.pow_le_pow_right (show 0 < 2 by decide) (show r 0 ≤ r 0 + 1 by omega)
  refine ⟨⟨by rw [zmbr_0]; omega, by rw [e 1 (by omega) (by omega)]; exact h1, by rw [e 2 (by omega) (by omega)]; exact h2, by rw [e 3 (by omega) (by omega)]; exact h3, by rw [e 4 (by omega) (by omega)]; exact h4, by rw [e 5 (by omega) (by omega)]; exact h5, by rw [e 6 (by omega) (by omega), e 7 (by omega) (by omega)]; exact h6, by rw [e 7 (by omega) (by omega)]; exact h7, by rw [e 8 (by omega) (by omega)]; exact h8, by rw [e 9 (by omega) (by omega)]; exact h9, by rw [e 10 (by omega) (by omega)]; exact h10, by rw [e 11 (by omega) (by omega)]; exact h11, by rw [e 12 (by omega) (by omega), zmbr_0]; omega, by rw [e 13 (by omega) (by omega), zmbr_0]; omega, by rw [e 14 (by omega) (by omega), zmbr_0]; omega, fun i hi => ?_, fun k hk => ?_, fun i hi => ?_⟩, by rw [e 8 (by omega) (by omega)]; exact z8, by rw [e 9 (by omega) (by omega)]; exact z9, by rw [e 10 (by omega) (by omega)]; exact z10, by rw [e 11 (by omega) (by omega)]; exact z11, by rw [e 12 (by omega) (by omega)]; exact z12, by rw [e 13 (by omega) (by omega)]; exact z13, by rw [e 14 (by omega) (by omega)]; exact z14⟩
  · rw [zmbr_0] at hi
    rw [e 1 (by omega) (by omega)]
    by_cases ei : i = r 0
    · subst ei
      rw [zmbr_1, zmbr_2, zmbr_3, zmbr_4]
      exact ⟨hab, hb, hc1, hc2, hd⟩
    · rw [zmbr_ne (by omega) (by omega) (by omega) (by omega) (by omega), zmbr_ne (by omega) (by omega) (by omega) (by omega) (by omega), zmbr_ne (by omega) (by omega) (by omega) (by omega) (by omega), zmbr_ne (by omega) (by omega) (by omega) (by omega) (by omega)]
      exact hm i (by omega)
  · rw [e 1 (by omega) (by omega)] at hk
    rw [e (55 + k) (by omega) (by omega), e (59 + k) (by omega) (by omega)]
    exact hc k hk
  · rw [e (63 + i) (by omega) (by omega), zmbr_0]
    have := (hf i hi).1
    refine ⟨by omega, fun j hj => ?_⟩
    rw [e (63 + j) (by omega) (by omega)]
    exact (hf i hi).2 j hj
theorem wr_tog {r : ZRow} (h : WR r) {i j : Nat} (hi : i < r 0) (hj : j < r 0) (hij : i ≠ j) : WR (ztog r i j) := by
  obtain ⟨hW, z8, z9, z10, z11, z12, z13, z14⟩ := h
  have hb := hW.b
  refine ⟨?_, by rw [ztog_ne (by omega)]; exact z8, by rw [ztog_ne (by omega)]; exact z9, by rw [ztog_ne (by omega)]; exact z10, by rw [ztog_ne (by omega)]; exact z11, by rw [ztog_ne (by omega)]; exact z12, by rw [ztog_ne (by omega)]; exact z13, by rw [ztog_ne (by omega)]; exact z14⟩
  obtain ⟨h0, h1, h2, h3, h4, h5, h6, h7, h8, h9, h10, h11, h12, h13, h14, hm, hc, hf⟩ := id hW
  refine hW.ta ztog_ta ?_ ?_ ?_ ?_ ?_ ?_ ?_ ?_ ?_ ?_ ?_
  · rw [ztog_ne (by omega)]; exact h2
  · rw [ztog_ne (by omega), ztog_ne (by omega)]; exact h6
  · rw [ztog_ne (by omega)]; exact h7
  · rw [ztog_ne (by omega)]; exact h8
  · rw [ztog_ne (by omega)]; exact h9
  · rw [ztog_ne (by omega)]; exact h10
  · rw [ztog_ne (by omega)]; exact h11
  · rw [ztog_ne (by omega)]; exact h12
  · rw [ztog_ne (by omega)]; exact h13
  · rw [ztog_ne (by omega)]; exact h14
  · intro k hk
    refine ⟨?_, fun l hl => ⟨?_, ?_⟩⟩
    · by_cases e1 : k = i
      · subst e1; rw [ztog_1 hij]; exact Nat.xor_lt_two_pow (hf k hk).1 (zpow_lt hj)
      · by_cases e2 : k = j
        · subst e2; rw [ztog_2]; exact Nat.xor_lt_two_pow (hf k hk).1 (zpow_lt hi)
        · rw [ztog_3 e1 e2]; exact (hf k hk).1
    · rw [ztog_tb hij, ztog_tb hij, ((hf k hk).2 l hl).1]
      congr 1
      by_cases e1 : k = i <;> by_cases e2 : l = j <;> by_cases e3 : k = j <;> by_cases e4 : l = i <;> simp [e1, e2, e3, e4] <;> omega
    · rw [ztog_tb hij, ((hf k hk).2 l hl).2, Bool.false_xor]
      by_cases e1 : k = i <;> by_cases e3 : k = j <;> simp [e1, e3] <;> omega
/-- lines that are read -/
def LX (L : ZL) : Prop := ∀ k, k < L.1 → L.2.1 k < 8 ∧ L.2.2.1 k ≤ 8 ∧ ∀ j, j < L.2.2.1 k → L.2.2.2 k j < 2147483648
def zcn (L : ZL) : Nat := L.2.2.1 (L.1 - 1)
theorem lx_opn {L : ZL} {s : Nat} (h : LX L) (hs : s < 8) : LX (zopn L s) ∧ zcn (zopn L s) = 0 ∧ 0 < (zopn L s).1 := by
  refine ⟨fun k hk => ?_, ?_, Nat.succ_pos _⟩
  · have hk2 : k < L.1 + 1 := hk
    show (if k = L.1 then s else L.2.1 k) < 8 ∧ (if k = L.1 then 0 else L.2.2.1 k) ≤ 8 ∧ ∀ j, j < (if k = L.1 then 0 else L.2.2.1 k) → L.2.2.2 k j < 2147483648
    by_cases e : k = L.1
    · rw [if_pos e, if_pos e]
      exact ⟨hs, by omega, fun j hj => by omega⟩
    · rw [if_neg e, if_neg e]
      exact h k (by omega)
  · show (if L.1 + 1 - 1 = L.1 then 0 else L.2.2.1 (L.1 + 1 - 1)) = 0
    rw [if_pos (by omega)]
theorem lx_adn {L : ZL} {v : Nat} (h : LX L) (h0 : 0 < L.1) (h8 : zcn L < 8) (hv : v < 100000) : LX (zadn L v) ∧ zcn (zadn L v) = zcn L + 1 ∧ 0 < (zadn L v).1 := by
  refine ⟨fun k hk => ?_, ?_, h0⟩
  · have hk2 : k < L.1 := hk
    obtain ⟨a1, a2, a3⟩ := h k hk2
    show L.2.1 k < 8 ∧ (if k = L.1 - 1 then L.2.2.1 k + 1 else L.2.2.1 k) ≤ 8 ∧ ∀ j, j < (if k = L.1 - 1 then L.2.2.1 k + 1 else L.2.2.1 k) → (if k = L.1 - 1 ∧ j = L.2.2.1 k then v else L.2.2.2 k j) < 2147483648
    by_cases e : k = L.1 - 1
    · have : L.2.2.1 k < 8 := by rw [e]; exact h8
      rw [if_pos e]
      refine ⟨a1, by omega, fun j hj => ?_⟩
      by_cases ej : j = L.2.2.1 k
      · rw [if_pos ⟨e, ej⟩]; omega
      · rw [if_neg (fun z => ej z.2)]; exact a3 j (by omega)
    · rw [if_neg e]
      refine ⟨a1, a2, fun j hj => ?_⟩
      rw [if_neg (fun z => e z.1)]
      exact a3 j hj
  · show (if L.1 - 1 = L.1 - 1 then L.2.2.1 (L.1 - 1) + 1 else _) = L.2.2.1 (L.1 - 1) + 1
    rw [if_pos rfl]
theorem zq1_ok {β : Type} {T : ZT} {p lo hi w : Nat} {L : ZL} {K : Nat → Nat → ZL → Nat → Except Nat β} {y : β} (h : zq1 T p lo hi L w K = .ok y) : ∃ v e, zN T p lo hi = some (v, e) ∧ K v e (zadn L v) (w + 1) = .ok y := by
  cases hz : zN T p lo hi with
  | none => rw [zq1_none hz] at h; cases h
  | some z =>
    obtain ⟨v, e⟩ := z
    rw [zq1_some hz] at h
    exact ⟨v, e, rfl, h⟩
