/-! LAYER 2: ORDERS -/
theorem nI_or (a b : Nat) : nI a ||| nI b = nI (a ||| b) := by
  apply Int32.toBitVec_inj.1
  show BitVec.ofNat 32 a ||| BitVec.ofNat 32 b = BitVec.ofNat 32 (a ||| b)
  apply BitVec.eq_of_getLsbD_eq
  intro i hi
  simp [hi]
theorem nI_and (a b : Nat) : nI a &&& nI b = nI (a &&& b) := by
  apply Int32.toBitVec_inj.1
  show BitVec.ofNat 32 a &&& BitVec.ofNat 32 b = BitVec.ofNat 32 (a &&& b)
  apply BitVec.eq_of_getLsbD_eq
  intro i hi
  simp [hi]
theorem nI_xor (a b : Nat) : nI a ^^^ nI b = nI (a ^^^ b) := by
  apply Int32.toBitVec_inj.1
  show BitVec.ofNat 32 a ^^^ BitVec.ofNat 32 b = BitVec.ofNat 32 (a ^^^ b)
  apply BitVec.eq_of_getLsbD_eq
  intro i hi
  simp [hi]
theorem zpow : ∀ k, k < 11 → (1 : Int32) <<< (nI k &&& 31) = nI (2 ^ k) := by decide +kernel
theorem zpow4 : ∀ c, c < 5 → (1 : Int32) <<< (((2 : Int32) * nI c) &&& 31) = nI (4 ^ c) := by decide +kernel
/-- the CHANNEL at a place of an ORDER -/
def zch (c o p : Nat) : Nat := o / 4 ^ (c - 1 - p) % 4
theorem zch_lt (c o p : Nat) : zch c o p < 4 := Nat.mod_lt _ (by decide)
theorem zchv : ∀ c, c < 5 → ∀ p, p < c → ∀ o, o < 256 → (nI o >>> (((2 : Int32) * ((nI c - (1 : Int32)) - nI p)) &&& 31)) &&& (3 : Int32) = nI (zch c o p) := by decide +kernel
def zseen (c o : Nat) : Nat → Nat
  | 0 => 0
  | p + 1 => zseen c o p ||| 2 ^ zch c o p
def zord (c o : Nat) : Bool := decide (o < 4 ^ c) && decide (zseen c o c = 2 ^ c - 1)
/-- an int tells an ORDER of c CHANNELS -/
def zordI (c : Nat) (a : Int32) : Bool := decide (¬ a < 0) && zord c a.toNatClampNeg
theorem zseen_lt : ∀ c, c < 5 → ∀ o, o < 256 → ∀ p, p < 5 → zseen c o p < 16 := by decide +kernel
theorem z4 : ∀ c, c < 5 → 4 ^ c ≤ 256 ∧ 1 ≤ 4 ^ c ∧ 2 ^ c ≤ 16 ∧ 1 ≤ 2 ^ c := by decide
theorem zb_split {α : Type} (b : Bool) (A B : α) : (if b = true then A else B) = bif b then A else B := by cases b <;> rfl
theorem isOrder1 {M : ZMem} {t c n : Nat} (hM : M t 1 = nI c) (hc : c < 5) (hn : 4 < n) (a : Int32) : zf_X1_isOrder n t a M = some (if zordI c a then 1 else 0) := by
  obtain ⟨q1, q2, q3, q4⟩ := z4 c hc
  unfold zf_X1_isOrder zf_X1_isOrder_j15 zf_X1_numbersOf
  by_cases h0 : a < 0
  · rw [if_pos h0, show zordI c a = false by simp [zordI, h0]]
    rfl
  · obtain ⟨o, ho, rfl⟩ := nI_of h0
    rw [if_neg h0, hM, zpow4 c hc, zb1_at rfl, zi_lt ho (by omega)]
    by_cases h1 : o < 4 ^ c
    · rw [if_pos h1]
      have key := zloop (fun k p (s : Nat) => zf_X1_isOrder_L21 M t (nI o) (fun v28 => (if v28 = (((1 : Int32) <<< (nI c &&& 31)) - (1 : Int32)) then (zf_X1_isOrder_j63 (1 : Int32)) else (zf_X1_isOrder_j63 (0 : Int32)))) k (nI s) (nI p)) (zseen c o) (some (if zordI c (nI o) then 1 else 0)) c (fun k p hp => by
          show zf_X1_isOrder_L21 M t (nI o) _ (k + 1) (nI _) (nI p) = zf_X1_isOrder_L21 M t (nI o) _ k (nI _) (nI (p + 1))
          rw [zf_X1_isOrder_L21, hM, zi_le (by omega) (by omega), if_neg (by omega)]
          unfold zf_X1_channelAt
          rw [hM, zchv c hc p hp o (by omega), zb1_at rfl, zpow (zch c o p) (by have := zch_lt c o p; omega), nI_or, nI_1]
          rfl) (fun k => by
          show zf_X1_isOrder_L21 M t (nI o) _ (k + 1) (nI _) (nI c) = _
          rw [zf_X1_isOrder_L21, hM, zi_le (by omega) (by omega), if_pos (Nat.le_refl _), zpow c (by omega), show (1 : Int32) = nI 1 from rfl, pk_sub (by omega), zi_eq (by have := zseen_lt c hc o (by omega) c hc; omega) (by omega)]
          have e : zordI c (nI o) = decide (zseen c o c = 2 ^ c - 1) := by simp [zordI, zord, h0, nI_clamp ho, h1]
          rw [e]
          by_cases h2 : zseen c o c = 2 ^ c - 1
          · rw [if_pos h2]; simp [h2]; rfl
          · rw [if_neg h2]; simp [h2]; rfl) n 0 (by omega) (by omega)
      exact key
    · rw [if_neg h1, show zordI c (nI o) = false by simp [zordI, zord, nI_clamp ho, h1]]
      rfl
theorem isIn10 (a b c : Int32) : zf_X10_isIn a b c = some (if a < b ∨ c < a then 0 else 1) := by
  unfold zf_X10_isIn zf_X10_isIn_j14 zf_X10_isIn_j15
  by_cases h1 : a < b
  · rw [if_pos h1, if_pos (Or.inl h1)]; rfl
  · by_cases h2 : c < a
    · rw [if_neg h1, if_pos h2, if_pos (Or.inr h2)]; rfl
    · rw [if_neg h1, if_neg h2, if_neg (fun z => z.elim h1 h2)]; rfl
theorem isOrder10 {M : ZMem} {c n : Nat} (hM : M 78 1 = nI c) (hc : c < 5) (hn : 4 < n) (a : Int32) : zf_X10_isOrder n a M = some (if zordI c a then 1 else 0) := by
  obtain ⟨q1, q2, q3, q4⟩ := z4 c hc
  unfold zf_X10_isOrder
  have ho : zf_X10_orders M = some (nI (4 ^ c)) := by
    unfold zf_X10_orders
    rw [zrd_at (i := (1 : Int32)) 1 rfl (by omega), hM, zpow4 c hc]
  rw [zb1_at ho, zb1_at (isIn10 _ _ _), show (1 : Int32) = nI 1 from rfl, pk_sub q2]
  by_cases h0 : a < 0
  · rw [if_pos (Or.inl h0), if_pos rfl, show zordI c a = false by simp [zordI, h0]]
    rfl
  · obtain ⟨o, ho, rfl⟩ := nI_of h0
    by_cases h1 : o < 4 ^ c
    · have h2 : ¬ (nI o < 0 ∨ nI (4 ^ c - 1) < nI o) := fun z => z.elim h0 (fun z => by
        have := (nI_ltI (by omega) ho).mp z
        omega)
      rw [if_neg h2, if_neg (by decide)]
      have key := zloop (fun k p (s : Nat) => zf_X10_isOrder_L20 M (nI o) (fun v33 => zrd M 78 73 (nI 1) (fun v34 => (if v33 = (((nI 1) <<< (v34 &&& 31)) - (nI 1)) then (zf_X10_isOrder_j66 (nI 1)) else (zf_X10_isOrder_j66 (0 : Int32))))) k (nI s) (nI p)) (zseen c o) (some (if zordI c (nI o) then 1 else 0)) c (fun k p hp => by
          show zf_X10_isOrder_L20 M (nI o) _ (k + 1) (nI _) (nI p) = zf_X10_isOrder_L20 M (nI o) _ k (nI _) (nI (p + 1))
          rw [zf_X10_isOrder_L20, zrd_at (i := (1 : Int32)) 1 rfl (by omega), hM, zi_le (by omega) (by omega), if_neg (by omega)]
          unfold zf_X10_channelAt
          rw [zrd_at (i := (1 : Int32)) 1 rfl (by omega), hM, zchv c hc p hp o (by omega), zb1_at rfl, zpow (zch c o p) (by have := zch_lt c o p; omega), nI_or, nI_1]
          rfl) (fun k => by
          show zf_X10_isOrder_L20 M (nI o) _ (k + 1) (nI _) (nI c) = _
          rw [zf_X10_isOrder_L20, zrd_at (i := (1 : Int32)) 1 rfl (by omega), hM, zi_le (by omega) (by omega), if_pos (Nat.le_refl _), zrd_at (i := nI 1) 1 rfl (by omega), hM, show nI 1 = (1 : Int32) from rfl, zpow c (by omega), show (1 : Int32) = nI 1 from rfl, pk_sub (by omega), zi_eq (by have := zseen_lt c hc o (by omega) c hc; omega) (by omega)]
          have e : zordI c (nI o) = decide (zseen c o c = 2 ^ c - 1) := by simp [zordI, zord, h0, nI_clamp ho, h1]
          rw [e]
          by_cases h2 : zseen c o c = 2 ^ c - 1
          · rw [if_pos h2]; simp [h2]; rfl
          · rw [if_neg h2]; simp [h2]; rfl) n 0 (by omega) (by omega)
      exact key
    · have h2 : nI o < 0 ∨ nI (4 ^ c - 1) < nI o := Or.inr ((nI_ltI (by omega) ho).mpr (by omega))
      rw [if_pos h2, if_pos rfl, show zordI c (nI o) = false by simp [zordI, zord, nI_clamp ho, h1]]
      rfl
