/-! LAYER 2: a Standing copied; what is remembered -/
theorem TD.congr {M M' : ZMem} {t : Nat} {r : ZRow} (h : TD M t r) (e : ∀ k, t ≤ k → k ≤ t + 10 → M' k = M k) : TD M' t r := by
  unfold TD at *
  rw [e t (by omega) (by omega), e (t + 1) (by omega) (by omega), e (t + 2) (by omega) (by omega), e (t + 3) (by omega) (by omega), e (t + 4) (by omega) (by omega), e (t + 5) (by omega) (by omega), e (t + 6) (by omega) (by omega)]
  exact h
theorem SD.congr {M M' : ZMem} {o : Nat} {r : ZRow} (h : SD M o r) (e0 : M' o = M o) (e1 : M' (o + 1) = M (o + 1)) : SD M' o r := by
  unfold SD at *
  rw [e0, e1]
  exact h
theorem IR.congr {M M' : ZMem} {r : ZRow} (h : IR M r) (e : M' 78 = M 78) : IR M' r := by
  unfold IR at *
  rw [e]
  exact h
def zcpS (M : ZMem) (o0 o1 : Nat) : ZMem := fun b j => if b = o0 ∧ j ≤ 10 then M o1 j else if b = o0 + 1 ∧ j < 10 then M (o1 + 1) j else M b j
theorem zcpS_ne {M : ZMem} {o0 o1 b : Nat} (h : b ≠ o0) (h1 : b ≠ o0 + 1) : zcpS M o0 o1 b = M b := by
  funext j
  unfold zcpS
  rw [if_neg (fun z => h z.1), if_neg (fun z => h1 z.1)]
set_option maxHeartbeats 1000000 in
theorem copyFrom7 {M : ZMem} {o0 o1 : Nat} (h1 : o0 ≠ o1) (h2 : o0 + 1 ≠ o1) (h3 : o1 + 1 ≠ o0) : zf_X7_copyFrom o0 o1 M = some (zcpS M o0 o1) := by
  unfold zf_X7_copyFrom
  simp only [zput_at, zcp]
  rw [if_pos (by decide)]
  congr 1
  funext b j
  have e10 : ((10 : Int32).toNatClampNeg) = 10 := rfl
  have e0 : ((0 : Int32).toNatClampNeg) = 0 := rfl
  have h4 : o1 ≠ o0 := Ne.symm h1
  have h5 : o1 + 1 ≠ o0 + 1 := by omega
  have h6 : o0 + 1 ≠ o0 := by omega
  have h7 : o1 ≠ o0 + 1 := Ne.symm h2
  unfold zcpM
  by_cases hb1 : b = o0 + 1
  · subst hb1
    rw [if_pos rfl, e10, e0]
    unfold zcpS
    rw [if_neg (fun z => h6 z.1)]
    by_cases hj : j < 10
    · rw [pk_cpy_in (by omega) (by omega), if_pos ⟨rfl, hj⟩]
      simp [zwr_get, h3]
    · rw [pk_cpy_out (by omega), if_neg (fun z => hj z.2)]
      simp [zwr_get, h6]
  · rw [if_neg hb1]
    by_cases hb : b = o0
    · subst hb
      unfold zcpS
      by_cases hj : j ≤ 10
      · rw [if_pos ⟨rfl, hj⟩]
        have : j = 0 ∨ j = 1 ∨ j = 2 ∨ j = 3 ∨ j = 4 ∨ j = 5 ∨ j = 6 ∨ j = 7 ∨ j = 8 ∨ j = 9 ∨ j = 10 := by omega
        rcases this with rfl | rfl | rfl | rfl | rfl | rfl | rfl | rfl | rfl | rfl | rfl <;> simp [zwr_get, h4]
      · rw [if_neg (fun z => hj z.2), if_neg (fun z => hb1 z.1)]
        simp only [zwr_get]
        repeat rw [if_neg (by omega)]
    · rw [zcpS_ne hb hb1]
      simp [zwr_get, hb]
