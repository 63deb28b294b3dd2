/-! LAYER 2: sums of claims -/
theorem zz_bit {α : Type} (b : Bool) (A B : α) : (if (if b = true then (1 : Int32) else 0) = 0 then A else B) = (if b = true then B else A) := by
  cases b <;> rfl
theorem claims10 {M : ZMem} {r : ZRow} (hM : IR M r) (h : WF r) {a n : Nat} (ha : a < 1024) (hn : 10 < n) : zf_X10_claims n (nI a) M = some (nI (zclaims r a)) := by
  have h0 := h.1
  unfold zf_X10_claims
  refine zloop (fun n i (s : Nat) => zf_X10_claims_L4 M (nI a) (fun v => some v) n (nI s) (nI i)) (zsum (fun i => if a.testBit i then zclaim r i else 0)) (some (nI (zclaims r a))) (r 0) ?_ ?_ n 0 (Nat.zero_le _) (by omega)
  · intro n i hi
    show zf_X10_claims_L4 M (nI a) _ (n + 1) (nI _) (nI i) = zf_X10_claims_L4 M (nI a) _ n (nI _) (nI (i + 1))
    rw [zf_X10_claims_L4, zrd_at (i := (0 : Int32)) 0 rfl (by omega), hM 0 (by omega), rI_ne (by omega), zi_le (by omega) (by omega), if_neg (by omega), zb1_at (zf_has10 ha (by omega)), zz_bit]
    unfold zf_X10_claims_j32
    by_cases hb : a.testBit i = true
    · rw [if_pos hb, zb1_at (claim10 hM h hi), nI_add, nI_1]
      simp [zsum, hb]
    · rw [if_neg hb, show (0 : Int32) = nI 0 from rfl, nI_add, nI_1]
      simp [zsum, hb]
  · intro n
    show zf_X10_claims_L4 M (nI a) _ (n + 1) (nI _) (nI (r 0)) = _
    rw [zf_X10_claims_L4, zrd_at (i := (0 : Int32)) 0 rfl (by omega), hM 0 (by omega), rI_ne (by omega), zi_le (by omega) (by omega), if_pos (Nat.le_refl _)]
    rfl
/-- which Told the class has -/
def IT (M : ZMem) (t : Nat) : Prop := M 0 0 = nI t ∧ (t = 1 ∨ t = 44)
theorem IT.kd {M : ZMem} {t : Nat} (h : IT M t) : zk t = (7, 17) := by rcases h.2 with rfl | rfl <;> decide +kernel
theorem IT.dy {β : Type} {M : ZMem} {t : Nat} {K : Nat → Option β} (h : IT M t) : zdy M 0 0 (7, 17) K = K t := zdy_at h.1 (by rcases h.2 with rfl | rfl <;> decide) h.kd
theorem claims9 {M : ZMem} {t : Nat} {r : ZRow} (hI : IT M t) (hT : TD M t r) (hS : SD M 12 r) (h : WF r) {a n : Nat} (ha : a < 1024) (hn : 10 < n) : zf_X9_claimsOf n (nI a) M = some (nI (zclaims r a)) := by
  have h0 := h.1
  unfold zf_X9_claimsOf
  refine zloop (fun n i (s : Nat) => zf_X9_claimsOf_L4 M (nI a) (fun v => some v) n (nI s) (nI i)) (zsum (fun i => if a.testBit i then zclaim r i else 0)) (some (nI (zclaims r a))) (r 0) ?_ ?_ n 0 (Nat.zero_le _) (by omega)
  · intro n i hi
    show zf_X9_claimsOf_L4 M (nI a) _ (n + 1) (nI _) (nI i) = zf_X9_claimsOf_L4 M (nI a) _ n (nI _) (nI (i + 1))
    rw [zf_X9_claimsOf_L4, hI.dy, hT.1, zi_le (by omega) (by omega), if_neg (by omega), zb1_at (zf_has9 ha (by omega)), zz_bit]
    unfold zf_X9_claimsOf_j38
    by_cases hb : a.testBit i = true
    · rw [if_pos hb, hI.dy, zb1_at (claim7 hT hS h hi), nI_add, nI_1]
      simp [zsum, hb]
    · rw [if_neg hb, nI_1]
      simp [zsum, hb]
  · intro n
    show zf_X9_claimsOf_L4 M (nI a) _ (n + 1) (nI _) (nI (r 0)) = _
    rw [zf_X9_claimsOf_L4, hI.dy, hT.1, zi_le (by omega) (by omega), if_pos (Nat.le_refl _)]
    rfl
