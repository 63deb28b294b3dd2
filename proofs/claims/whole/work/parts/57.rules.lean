/-! LAYER 2: rules for reckoning -/
theorem zlit (k : Nat) : (OfNat.ofNat k : Int32) = nI k := rfl
theorem ev_b1 {α β : Type} (x : α) (K : α → Option β) : zb1 (some x) K = K x := rfl
theorem ev_b2 {α γ β : Type} (x : α) (y : γ) (K : α → γ → Option β) : zb2 (some (x, y)) K = K x y := rfl
theorem ev_put {β : Type} (M : ZMem) (k j : Nat) (x : Int32) (K : ZMem → Option β) : zput M k j x K = K (zwr M k j x) := rfl
theorem ev_z0 {β : Type} (K : Option β) : zbz (nI 0) K = K := rfl
theorem ev_z1 {β : Type} (K : Option β) : zbz (nI 1) K = K := rfl
theorem ev_rd {β : Type} {M : ZMem} {k n j : Nat} (K : Int32 → Option β) (h : j < n) (hn : n < 2147483648) : zrd M k n (nI j) K = K (M k j) := zrd_at j rfl h hn
theorem ev_st {β : Type} {M : ZMem} {k n j : Nat} {x : Int32} (K : ZMem → Option β) (h : j < n) (hn : n < 2147483648) : zst M k n (nI j) x K = K (zwr M k j x) := zst_at j rfl h hn
theorem ev_lt {a b : Nat} (ha : a < 2147483648) (hb : b < 2147483648) : (nI a < nI b) = (a < b) := propext (nI_ltI ha hb)
theorem ev_le {a b : Nat} (ha : a < 2147483648) (hb : b < 2147483648) : (nI a ≤ nI b) = (a ≤ b) := propext (nI_leI ha hb)
theorem ev_eq {a b : Nat} (ha : a < 2147483648) (hb : b < 2147483648) : (nI a = nI b) = (a = b) := propext (nI_eq ha hb)
theorem ev_sub {a b : Nat} (h : b ≤ a) : nI a - nI b = nI (a - b) := pk_sub h
theorem ev_div {a d : Nat} (ha : a < 2147483648) (h0 : 0 < d) (hd : d < 2147483648) : nI a / nI d = nI (a / d) := pk_div ha h0 hd
theorem ev_max {a b : Nat} (ha : a < 2147483648) (hb : b < 2147483648) : zmax (nI a) (nI b) = nI (max a b) := zz_max ha hb
theorem ev_min {a b : Nat} (ha : a < 2147483648) (hb : b < 2147483648) : zmin (nI a) (nI b) = nI (min a b) := zz_min ha hb
/-- an int below 0, or one that tells a number -/
theorem zint (a : Int32) : a < nI 0 ∨ ∃ j : Nat, j < 2147483648 ∧ a = nI j := by
  by_cases h : a < 0
  · exact Or.inl h
  · exact Or.inr (nI_of h)
theorem zneg_lt {a : Int32} (h : a < nI 0) {b : Nat} (hb : b < 2147483648) : a < nI b := by
  have h1 := Int32.lt_iff_toInt_lt.mp h
  rw [nI_toInt (by omega)] at h1
  refine Int32.lt_iff_toInt_lt.mpr ?_
  rw [nI_toInt hb]
  omega
theorem zneg_nle {a : Int32} (h : a < nI 0) {b : Nat} (hb : b < 2147483648) : ¬ nI b ≤ a := fun h2 => by
  have h1 := Int32.lt_iff_toInt_lt.mp h
  have h3 := Int32.le_iff_toInt_le.mp h2
  rw [nI_toInt (by omega)] at h1
  rw [nI_toInt hb] at h3
  omega
theorem zneg_ne {a : Int32} (h : a < nI 0) {b : Nat} (hb : b < 2147483648) : ¬ a = nI b := fun h2 => zneg_nle h hb (h2 ▸ Int32.le_refl _)
/-- a boolean as an int -/
def zB (b : Bool) : Int32 := nI b.toNat
theorem zB_0 (b : Bool) : (zB b = nI 0) = (b = false) := by cases b <;> decide
theorem zB_0' (b : Bool) : (zB b = 0) = (b = false) := by cases b <;> decide
theorem zB_t : zB true = nI 1 := rfl
theorem zB_f : zB false = nI 0 := rfl
theorem zB_if (b : Bool) : (if b = true then (1 : Int32) else 0) = zB b := by cases b <;> rfl
theorem ev_zB {β : Type} (b : Bool) (K : Option β) : zbz (zB b) K = K := by cases b <;> rfl
theorem has9 {a j : Nat} (ha : a < 1024) (hj : j < 10) : zf_X9_has (nI a) (nI j) = some (zB (a.testBit j)) := by rw [zf_has9 ha hj, zB_if]
theorem has10 {a j : Nat} (ha : a < 1024) (hj : j < 10) : zf_X10_has (nI a) (nI j) = some (zB (a.testBit j)) := by rw [zf_has10 ha hj, zB_if]
theorem ev_has9 {β : Type} {a j : Nat} (K : Int32 → Option β) (ha : a < 1024) (hj : j < 10) : zb1 (zf_X9_has (nI a) (nI j)) K = K (zB (a.testBit j)) := zb1_at (has9 ha hj)
theorem ev_has10 {β : Type} {a j : Nat} (K : Int32 → Option β) (ha : a < 1024) (hj : j < 10) : zb1 (zf_X10_has (nI a) (nI j)) K = K (zB (a.testBit j)) := zb1_at (has10 ha hj)
/-- an int tells one of the first m numbers -/
def zmem (m : Nat) (a : Int32) : Bool := decide (¬ a < 0) && decide (a.toNatClampNeg < m)
theorem zmem_of {m : Nat} {a : Int32} (h : zmem m a = true) : ∃ j, j < m ∧ a = nI j := by
  simp only [zmem, Bool.and_eq_true, decide_eq_true_eq] at h
  obtain ⟨j, hj, rfl⟩ := nI_of h.1
  rw [nI_clamp hj] at h
  exact ⟨j, h.2, rfl⟩
theorem zmem_nI {m j : Nat} (hj : j < 2147483648) : zmem m (nI j) = decide (j < m) := by
  simp only [zmem, nI_clamp hj, nI_pos hj, not_false_eq_true, decide_true, Bool.true_and]
theorem zmem_neg {m : Nat} {a : Int32} (h : a < nI 0) : zmem m a = false := by
  have : a < 0 := h
  simp [zmem, this]
theorem isMember9 {M : ZMem} {t m : Nat} (hI : IT M t) (hT : M t 0 = nI m) (h0 : m ≤ 10) (a : Int32) : zf_X9_isMember a M = some (zB (zmem m a)) := by
  unfold zf_X9_isMember zf_X9_isMember_j19 zf_X9_isMember_j20
  rcases zint a with ha | ⟨i, hi, rfl⟩
  · rw [zmem_neg ha, if_pos (show a < 0 from ha)]; rfl
  · rw [zmem_nI hi]
    simp (disch := omega) only [zlit, ↓ev_b1, ↓ev_lt, ↓ev_le, ↓ev_z0, ↓ev_z1, ↓reduceIte, hI.dy, hT, Nat.not_lt_zero]
    by_cases h : i < m
    · rw [if_neg (by omega), decide_eq_true h]; rfl
    · rw [if_pos (by omega), decide_eq_false h]; rfl
theorem isMember10 {M : ZMem} {m : Nat} (hM : M 78 0 = nI m) (h0 : m ≤ 10) (a : Int32) : zf_X10_isMember a M = some (zB (zmem m a)) := by
  unfold zf_X10_isMember
  simp (disch := omega) only [zlit, ↓ev_rd, hM]
  rw [zb1_at (isIn10 _ _ _)]
  rcases zint a with ha | ⟨i, hi, rfl⟩
  · rw [zmem_neg ha, if_pos (Or.inl ha)]; rfl
  · rw [zmem_nI hi]
    by_cases h1 : m = 0
    · subst h1
      rw [if_pos]
      · rfl
      · by_cases h : i = 0
        · subst h; exact Or.inr (by decide)
        · exact Or.inr (Int32.lt_iff_toInt_lt.mpr (by rw [nI_toInt hi]; show (-1 : Int) < _; omega))
    · rw [pk_sub (by omega)]
      by_cases h : i < m
      · rw [if_neg, decide_eq_true h]
        · rfl
        · intro z
          rcases z with z | z
          · exact absurd z (nI_pos hi)
          · rw [ev_lt (by omega) hi] at z; omega
      · rw [if_pos, decide_eq_false h]
        · rfl
        · refine Or.inr ?_
          rw [ev_lt (by omega) hi]; omega
theorem zint2 (a : Int32) (m : Nat) (hm : m < 2147483648) : a < nI 0 ∨ ∃ j : Nat, j < 2147483648 ∧ a = nI j := zint a
/-- bit counts -/
def zbc (a : Nat) : Nat := zsum (fun j => (a.testBit j).toNat) 10
theorem bitCount9 : ∀ a, a < 1024 → zf_J6_bitCount_0f7a4 (nI a) = some (nI (zbc a)) := by decide +kernel
theorem zbitv : ∀ j, j < 10 → ∀ a, a < 1024 → (nI a >>> (nI j &&& 31)) &&& 1 = nI ((a.testBit j).toNat) := by decide +kernel
theorem zbitv' : ∀ j, j < 10 → ∀ a, a < 1024 → (nI a >>> (nI j &&& 31)) &&& nI 1 = nI ((a.testBit j).toNat) := zbitv
theorem bits10 {a n : Nat} (ha : a < 1024) (hn : 10 < n) : zf_X10_bits n (nI a) = some (nI (zbc a)) := by
  unfold zf_X10_bits
  refine zloop (fun n i (s : Nat) => zf_X10_bits_L4 (nI a) (fun v => some v) n (nI s) (nI i)) (zsum (fun j => (a.testBit j).toNat)) (some (nI (zbc a))) 10 ?_ ?_ n 0 (Nat.zero_le _) (by omega)
  · intro n i hi
    show zf_X10_bits_L4 (nI a) _ (n + 1) (nI _) (nI i) = zf_X10_bits_L4 (nI a) _ n (nI _) (nI (i + 1))
    rw [zf_X10_bits_L4, show (10 : Int32) = nI 10 from rfl, zi_le (by omega) (by omega), if_neg (by omega), zbitv i hi a ha, nI_add, nI_1]
    rfl
  · intro n
    show zf_X10_bits_L4 (nI a) _ (n + 1) (nI _) (nI 10) = _
    rw [zf_X10_bits_L4, if_pos (by decide)]
    rfl
theorem zpow1 : ∀ k, k < 11 → (nI 1) <<< (nI k &&& 31) = nI (2 ^ k) := zpow
theorem zpow_le {m : Nat} (h : m ≤ 10) : 2 ^ m ≤ 1024 := Nat.pow_le_pow_right (by decide) h
theorem zpow_lt {i m : Nat} (h : i < m) : 2 ^ i < 2 ^ m := Nat.pow_lt_pow_right (by decide) h
theorem everyone9 {M : ZMem} {t m : Nat} (hI : IT M t) (hT : M t 0 = nI m) (h0 : m ≤ 10) : zf_X9_everyone M = some (nI (2 ^ m - 1)) := by
  have := Nat.two_pow_pos m
  unfold zf_X9_everyone
  rw [hI.dy, hT, zpow m (by omega), show (1 : Int32) = nI 1 from rfl, pk_sub (by omega)]
theorem all10 {M : ZMem} {m : Nat} (hM : M 78 0 = nI m) (h0 : m ≤ 10) : zf_X10_all M = some (nI (2 ^ m - 1)) := by
  have := Nat.two_pow_pos m
  unfold zf_X10_all
  rw [zrd_at (i := (0 : Int32)) 0 rfl (by omega), hM, zpow m (by omega), show (1 : Int32) = nI 1 from rfl, pk_sub (by omega)]
theorem tb_all {m i : Nat} : (2 ^ m - 1).testBit i = decide (i < m) := Nat.testBit_two_pow_sub_one m i
/-! a choice that is known -/
theorem il1 {α : Type} {A B : α} {a b : Nat} (h : a < b) (hb : b < 2147483648) : (if nI a < nI b then A else B) = A := if_pos ((nI_ltI (by omega) hb).mpr h)
theorem il0 {α : Type} {A B : α} {a b : Nat} (h : b ≤ a) (ha : a < 2147483648) : (if nI a < nI b then A else B) = B := if_neg (fun z => absurd ((nI_ltI ha (by omega)).mp z) (by omega))
theorem ig1 {α : Type} {A B : α} {a b : Nat} (h : a ≤ b) (hb : b < 2147483648) : (if nI a ≤ nI b then A else B) = A := if_pos ((nI_leI (by omega) hb).mpr h)
theorem ig0 {α : Type} {A B : α} {a b : Nat} (h : b < a) (ha : a < 2147483648) : (if nI a ≤ nI b then A else B) = B := if_neg (fun z => absurd ((nI_leI ha (by omega)).mp z) (by omega))
theorem ie1 {α : Type} {A B : α} {a b : Nat} (h : a = b) : (if nI a = nI b then A else B) = A := if_pos (by rw [h])
theorem ie0 {α : Type} {A B : α} {a b : Nat} (h : a ≠ b) (ha : a < 2147483648) (hb : b < 2147483648) : (if nI a = nI b then A else B) = B := if_neg (fun z => h ((nI_eq ha hb).mp z))
theorem ib1 {α : Type} {A B : α} {b : Bool} (h : b = true) : (if zB b = nI 0 then A else B) = B := by subst h; rfl
theorem ib0 {α : Type} {A B : α} {b : Bool} (h : b = false) : (if zB b = nI 0 then A else B) = A := by subst h; rfl
theorem in1 {α : Type} {A B : α} {a : Int32} {b : Nat} (h : a < nI 0) (hb : b < 2147483648) : (if a < nI b then A else B) = A := if_pos (zneg_lt h hb)
theorem in0 {α : Type} {A B : α} {a : Int32} {b : Nat} (h : a < nI 0) (hb : b < 2147483648) : (if nI b ≤ a then A else B) = B := if_neg (zneg_nle h hb)
theorem in2 {α : Type} {A B : α} {a : Int32} {b : Nat} (h : a < nI 0) (hb : b < 2147483648) : (if a = nI b then A else B) = B := if_neg (zneg_ne h hb)
