/-! LAYER 2: numbers -/
theorem zi_lt {α : Type} {A B : α} {a b : Nat} (ha : a < 2 ^ 31) (hb : b < 2 ^ 31) : (if nI a < nI b then A else B) = (if a < b then A else B) := by
  by_cases h : a < b
  · rw [if_pos h, if_pos ((nI_ltI ha hb).mpr h)]
  · rw [if_neg h, if_neg (fun z => h ((nI_ltI ha hb).mp z))]
theorem zi_le {α : Type} {A B : α} {a b : Nat} (ha : a < 2 ^ 31) (hb : b < 2 ^ 31) : (if nI a ≤ nI b then A else B) = (if a ≤ b then A else B) := by
  by_cases h : a ≤ b
  · rw [if_pos h, if_pos ((nI_leI ha hb).mpr h)]
  · rw [if_neg h, if_neg (fun z => h ((nI_leI ha hb).mp z))]
theorem zi_eq {α : Type} {A B : α} {a b : Nat} (ha : a < 2 ^ 31) (hb : b < 2 ^ 31) : (if nI a = nI b then A else B) = (if a = b then A else B) := by
  by_cases h : a = b
  · rw [if_pos h, if_pos ((nI_eq ha hb).mpr h)]
  · rw [if_neg h, if_neg (fun z => h ((nI_eq ha hb).mp z))]
theorem zz_lt {a b : Nat} (ha : a < 2 ^ 31) (hb : b < 2 ^ 31) : (nI a < nI b) = (a < b) := propext (nI_ltI ha hb)
theorem zz_le {a b : Nat} (ha : a < 2 ^ 31) (hb : b < 2 ^ 31) : (nI a ≤ nI b) = (a ≤ b) := propext (nI_leI ha hb)
theorem zz_eq {a b : Nat} (ha : a < 2 ^ 31) (hb : b < 2 ^ 31) : (nI a = nI b) = (a = b) := propext (nI_eq ha hb)
theorem zz_max {a b : Nat} (ha : a < 2 ^ 31) (hb : b < 2 ^ 31) : zmax (nI a) (nI b) = nI (max a b) := by
  unfold zmax
  rw [zi_lt ha hb]
  split
  · rw [Nat.max_eq_right (by omega)]
  · rw [Nat.max_eq_left (by omega)]
theorem zz_min {a b : Nat} (ha : a < 2 ^ 31) (hb : b < 2 ^ 31) : zmin (nI a) (nI b) = nI (min a b) := by
  unfold zmin
  rw [zi_lt hb ha]
  split
  · rw [Nat.min_eq_right (by omega)]
  · rw [Nat.min_eq_left (by omega)]
/-- a day's count: last - first + 1, 0 at least -/
theorem zz_days {a b : Nat} (ha : a < 2 ^ 30) (hb : b < 2 ^ 30) : zmax 0 ((nI a - nI b) + 1) = nI (a + 1 - b) := by
  by_cases h : b ≤ a
  · rw [pk_sub h, nI_1, show (0 : Int32) = nI 0 from rfl, zz_max (by omega) (by omega), Nat.max_eq_right (by omega)]
    congr 1
    omega
  · have h1 := pk_sub_toInt ha hb
    have h2 : ((nI a - nI b) + 1).toInt = (a : Int) - b + 1 := by
      rw [Int32.toInt_add, h1]
      show Int.bmod ((a : Int) - b + 1) (2 ^ 32) = _
      rw [Int.bmod_eq_of_le (by omega) (by omega)]
    unfold zmax
    rw [if_neg, show a + 1 - b = 0 by omega]
    · rfl
    · intro h3
      have h4 := Int32.lt_iff_toInt_lt.mp h3
      rw [h2] at h4
      have : (0 : Int32).toInt = 0 := rfl
      omega
theorem zrd_at {β : Type} {M : ZMem} {k n : Nat} {i : Int32} {K : Int32 → Option β} (j : Nat) (e : i = nI j) (h : j < n) (hn : n < 2 ^ 31 := by decide) : zrd M k n i K = K (M k j) := by
  subst e
  unfold zrd
  rw [if_neg (by rw [nI_clamp (by omega)]; exact fun z => z.elim (nI_pos (by omega)) (fun z => absurd h (by omega))), nI_clamp (by omega)]
theorem zst_at {β : Type} {M : ZMem} {k n : Nat} {i x : Int32} {K : ZMem → Option β} (j : Nat) (e : i = nI j) (h : j < n) (hn : n < 2 ^ 31 := by decide) : zst M k n i x K = K (zwr M k j x) := by
  subst e
  unfold zst
  rw [if_neg (by rw [nI_clamp (by omega)]; exact fun z => z.elim (nI_pos (by omega)) (fun z => absurd h (by omega))), nI_clamp (by omega)]
theorem zdy_at {β : Type} {M : ZMem} {k j t : Nat} {q : Nat × Nat} {K : Nat → Option β} (e : M k j = nI t) (ht : t < 2 ^ 31) (hq : zk t = q) : zdy M k j q K = K t := by
  unfold zdy
  rw [e, nI_clamp ht, if_pos hq]
theorem zdiv_at {β : Type} {x y : Int32} {K : Int32 → Option β} (h : ¬ y = 0) : zdiv x y K = K (x / y) := if_neg h
theorem zrem_at {β : Type} {x y : Int32} {K : Int32 → Option β} (h : ¬ y = 0) : zrem x y K = K (x - x / y * y) := if_neg h
theorem zldiv_at {β : Type} {x y : Int64} {K : Int64 → Option β} (h : ¬ y = 0) : zldiv x y K = K (x / y) := if_neg h
theorem zb1_at {α β : Type} {o : Option α} {K : α → Option β} {x : α} (h : o = some x) : zb1 o K = K x := by rw [h]; rfl
theorem zb2_at {α γ β : Type} {o : Option (α × γ)} {K : α → γ → Option β} {x : α} {y : γ} (h : o = some (x, y)) : zb2 o K = K x y := by rw [h]; rfl
theorem zput_at {β : Type} {M : ZMem} {k j : Nat} {x : Int32} {K : ZMem → Option β} : zput M k j x K = K (zwr M k j x) := rfl
theorem zbz_0 {β : Type} {K : Option β} : zbz 0 K = K := rfl
theorem zbz_1 {β : Type} {K : Option β} : zbz 1 K = K := rfl
theorem zwr_get (M : ZMem) (a j : Nat) (x : Int32) (b i : Nat) : zwr M a j x b i = if b = a ∧ i = j then x else M b i := by
  unfold zwr
  by_cases h : b = a
  · subst h
    rw [if_pos rfl]
    unfold upd
    by_cases h2 : i = j
    · rw [if_pos h2, if_pos ⟨rfl, h2⟩]
    · rw [if_neg h2, if_neg (fun z => h2 z.2)]
  · rw [if_neg h, if_neg (fun z => h z.1)]
/-! bits -/
/-- bit j of a -/
def tb (a j : Nat) : Bool := a.testBit j
theorem zf_has9 {a j : Nat} (ha : a < 1024) (hj : j < 10) : zf_X9_has (nI a) (nI j) = some (if a.testBit j then 1 else 0) := by
  have h : ∀ j, j < 10 → ∀ a, a < 1024 → zf_X9_has (nI a) (nI j) = some (if a.testBit j then 1 else 0) := by decide +kernel
  exact h j hj a ha
theorem zf_has10 {a j : Nat} (ha : a < 1024) (hj : j < 10) : zf_X10_has (nI a) (nI j) = some (if a.testBit j then 1 else 0) := by
  have h : ∀ j, j < 10 → ∀ a, a < 1024 → zf_X10_has (nI a) (nI j) = some (if a.testBit j then 1 else 0) := by decide +kernel
  exact h j hj a ha
