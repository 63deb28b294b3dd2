/-! LAYER 2: ACTS -/
theorem zat_ne {q : ZRow} {p v j : Nat} (h : j ≠ p) : zat q p v j = q j := if_neg h
theorem zat_eq {q : ZRow} {p v : Nat} : zat q p v p = v := if_pos rfl
theorem WF.ta {r q : ZRow} (h : WF r) (ht : TA r q) (h2 : q 2 ≤ 99999) (h6 : q 6 ≤ q 7) (h7 : q 7 ≤ 99) (h8 : q 8 ≤ 99) (h9 : q 9 ≤ 2) (h10 : q 10 < 256) (h11 : q 11 ≤ 100) (h12 : q 12 < 2 ^ r 0) (h13 : q 13 < 2 ^ r 0) (h14 : q 14 < 2 ^ r 0) (hf : ∀ i, i < 10 → q (63 + i) < 2 ^ r 0 ∧ ∀ j, j < 10 → (q (63 + i)).testBit j = (q (63 + j)).testBit i ∧ (q (63 + i)).testBit i = false) : WF q := by
  obtain ⟨a0, a1, a2, a3, a4, a5, a6, a7, a8, a9, a10, a11, a12, a13, a14, am, ac, af⟩ := h
  have e0 := ht 0 (by unfold zto; omega)
  have e1 := ht 1 (by unfold zto; omega)
  have e3 := ht 3 (by unfold zto; omega)
  have e4 := ht 4 (by unfold zto; omega)
  have e5 := ht 5 (by unfold zto; omega)
  refine ⟨by omega, by omega, h2, by omega, by omega, by omega, h6, h7, h8, h9, h10, h11, by rw [e0]; exact h12, by rw [e0]; exact h13, by rw [e0]; exact h14, fun i hi => ?_, fun c hc => ?_, fun i hi => by rw [e0]; exact hf i hi⟩
  · rw [e0] at hi
    rw [ht (15 + i) (by unfold zto; omega), ht (25 + i) (by unfold zto; omega), ht (35 + i) (by unfold zto; omega), ht (45 + i) (by unfold zto; omega), e1]
    exact am i hi
  · rw [e1] at hc
    rw [ht (55 + c) (by unfold zto; omega), ht (59 + c) (by unfold zto; omega)]
    exact ac c hc
theorem zcostP_ta {r q : ZRow} (ht : TA r q) (o : Nat) {i : Nat} (hi : i < 10) : ∀ k p, zcostP q o i k p = zcostP r o i k p := by
  intro k
  induction k with
  | zero => intro p; rfl
  | succ k ih =>
    intro p
    unfold zcostP
    have hc := zch_lt (r 1) o p
    rw [ih, ht 1 (by unfold zto; omega), ht (45 + i) (by unfold zto; omega), ht (55 + zch (r 1) o p) (by unfold zto; omega)]
theorem zcosts_ta {r q : ZRow} (ht : TA r q) (hm : r 0 ≤ 10) (o : Nat) : zcosts q o = zcosts r o := by
  unfold zcosts zcostTo
  rw [ht 0 (by unfold zto; omega), ht 1 (by unfold zto; omega)]
  exact zsum_congr (fun i hi => zcostP_ta ht o (by omega) _ _)
theorem zcostN_ta {r q : ZRow} (ht : TA r q) (hm : r 0 ≤ 10) (h10 : q 10 = r 10) (h11 : q 11 = r 11) : zcostN q = zcostN r := by
  unfold zcostN
  rw [h10, h11, zcosts_ta ht hm]
theorem TA.at (r : ZRow) {p : Nat} (v : Nat) (hp : ¬ zto p) : TA r (zat r p v) := fun j hj => zat_ne (fun z => hp (z ▸ hj))
theorem OPW.same {f g : ZMem → Option (Int32 × ZMem)} {M : ZMem} (v : Int32) (h : f M = some (v, M)) (h2 : g M = some (v, M)) (hI : INV M) : OPW f g M := ⟨v, M, M, h, h2, hI⟩
theorem OPW.act {f g : ZMem → Option (Int32 × ZMem)} {M : ZMem} {t nx u : Nat} {r r' : ZRow} {U : Nat → ZRow} {T : ZT} {L : ZL} (hS : GS r u U T L) (hC : IC M t nx r u U T L) (hM : IM M r u U T L) (hg : GD r') (ht : TA r r') {M1 : ZMem} {v : Int32} (h9 : f M = some (v, M1)) (e9 : ∀ k, k ≠ 12 → k ≠ 13 → M1 k = zrem9 M nx u k) (s9 : SDc M1 12 r') (h10 : ∀ M1, IM M1 r u U T L → ∃ M2, g M1 = some (v, M2) ∧ (∀ k, k ≠ 78 → M2 k = zrem10 M1 u k) ∧ IR M2 r') : OPW f g M := by
  have hnx : nx < 12 := hC.2.2.2.2.1.2.1
  refine OPW.of (t := t) (nx := nx) hM (hS.act hM.2.1.2.1 hg ht) ⟨M1, h9, hC.act hS.1.1 e9 s9 ht, fun k hk => ?_⟩ (fun M1 hM1 => ?_)
  · rw [e9 k (by omega) (by omega)]
    exact zrem9_ne (by omega) (by omega) (by omega) (by omega)
  · obtain ⟨M2, a1, a2, a3⟩ := h10 M1 hM1
    refine ⟨M2, a1, hM1.act a2 a3, fun k hk => ?_⟩
    rw [a2 k (by omega)]
    exact zrem10_ne (by omega) (by omega)
theorem put10 {M : ZMem} {u n p : Nat} {U : Nat → ZRow} {r : ZRow} (hU : UC M u U) (hr : IR M r) (hn : 803 < n) (hp : p < 73) (x : Int32) : zf_X10_put n (nI p) x M = some (rI r p, zwr (zrem10 M u) 78 p x) := by
  unfold zf_X10_put
  rw [zrd_at p rfl hp, hr p hp, zb1_at (remembers10 hU.1 hU.2.1 hn), zst_at p rfl hp]
theorem IR.put {M : ZMem} {u p v : Nat} {r : ZRow} (hr : IR M r) (hp : p ≠ 11) : IR (zwr (zrem10 M u) 78 p (nI v)) (zat r p v) := fun j hj => by
  rw [zwr_get]
  by_cases h : j = p
  · subst h
    rw [if_pos ⟨rfl, rfl⟩, rI_ne hp, zat_eq]
  · rw [if_neg (fun z => h z.2), zrem10_ne (by decide) (by decide), hr j hj]
    unfold rI
    rw [zat_ne h]
    by_cases h11 : j = 11
    · rw [if_pos h11, if_pos h11, zat_ne (fun z => hp z.symm)]
    · rw [if_neg h11, if_neg h11]
theorem put_ne {M : ZMem} {u p : Nat} {x : Int32} : ∀ k, k ≠ 78 → zwr (zrem10 M u) 78 p x k = zrem10 M u k := fun k hk => by
  funext j
  rw [zwr_get, if_neg (fun z => hk z.1)]
theorem wrn {M : ZMem} {a j : Nat} {x : Int32} {k : Nat} (h : k ≠ a) : zwr M a j x k = M k := by
  funext i
  rw [zwr_get, if_neg (fun z => h z.1)]
theorem wre {M : ZMem} {a j : Nat} {x : Int32} : zwr M a j x a j = x := by rw [zwr_get, if_pos ⟨rfl, rfl⟩]
theorem wrj {M : ZMem} {a j : Nat} {x : Int32} {k i : Nat} (h : i ≠ j) : zwr M a j x k i = M k i := by rw [zwr_get, if_neg (fun z => h z.2)]
/-- one number of the class's Standing is another one -/
theorem SD.put {M : ZMem} {o : Nat} {r : ZRow} (h : SD M o r) (a p v : Nat) (hp : (a = 0 ∧ p = 8) ∨ (a = 1 ∧ p = 10) ∨ (a = 4 ∧ p = 12) ∨ (a = 5 ∧ p = 13) ∨ (a = 6 ∧ p = 14) ∨ (a = 7 ∧ p = 2) ∨ (a = 8 ∧ p = 9) ∨ (a = 9 ∧ p = 6) ∨ (a = 10 ∧ p = 7)) : SD (zwr M o a (nI v)) o (zat r p v) := by
  obtain ⟨a1, a2, a3, a4, a5, a6, a7, a8, a9, a10, a11⟩ := h
  have hp2 : p ≤ 14 := by rcases hp with h | h | h | h | h | h | h | h | h <;> omega
  have hf : ∀ i, i < 10 → zwr M o a (nI v) (o + 1) i = nI (zat r p v (63 + i)) := fun i hi => by
    clear hp
    rw [wrn (by omega), zat_ne (by omega)]
    exact a11 i hi
  refine ⟨?_, ?_, ?_, ?_, ?_, ?_, ?_, ?_, ?_, ?_, hf⟩ <;> rcases hp with ⟨rfl, rfl⟩ | ⟨rfl, rfl⟩ | ⟨rfl, rfl⟩ | ⟨rfl, rfl⟩ | ⟨rfl, rfl⟩ | ⟨rfl, rfl⟩ | ⟨rfl, rfl⟩ | ⟨rfl, rfl⟩ | ⟨rfl, rfl⟩ <;> simp [zwr_get, zat, a1, a2, a3, a4, a5, a6, a7, a8, a9, a10]
theorem SDc.put {M : ZMem} {o : Nat} {r : ZRow} (h : SDc M o r) (hm : r 0 ≤ 10) (a p v : Nat) (hp : (a = 0 ∧ p = 8) ∨ (a = 4 ∧ p = 12) ∨ (a = 5 ∧ p = 13) ∨ (a = 6 ∧ p = 14) ∨ (a = 7 ∧ p = 2) ∨ (a = 8 ∧ p = 9) ∨ (a = 9 ∧ p = 6) ∨ (a = 10 ∧ p = 7)) : SDc (zwr M o a (nI v)) o (zat r p v) := by
  have q1 : 3 ≠ a := by rcases hp with g | g | g | g | g | g | g | g <;> omega
  have q2 : ¬ zto p := by rcases hp with g | g | g | g | g | g | g | g <;> (unfold zto; omega)
  have q3 : 10 ≠ p := by rcases hp with g | g | g | g | g | g | g | g <;> omega
  have q4 : 11 ≠ p := by rcases hp with g | g | g | g | g | g | g | g <;> omega
  refine ⟨h.1.put a p v (by rcases hp with g | g | g | g | g | g | g | g <;> simp [g]), ?_⟩
  rw [wrj q1, h.2, zcostN_ta (TA.at r v q2) hm (zat_ne q3) (zat_ne q4)]
theorem SDc.rem {M : ZMem} {nx u : Nat} {r : ZRow} (h : SDc M 12 r) (hn : nx < 12) : SDc (zrem9 M nx u) 12 r := h.congr (zrem9_ne (by omega) (by omega) (by omega) (by omega)) (zrem9_ne (by omega) (by omega) (by omega) (by omega))
theorem act_ne {M : ZMem} {nx u a : Nat} {x : Int32} : ∀ k, k ≠ 12 → k ≠ 13 → zwr (zrem9 M nx u) 12 a x k = zrem9 M nx u k := fun k hk _ => wrn hk
theorem rem12 {M : ZMem} {nx u : Nat} (hn : nx < 12) : zrem9 M nx u 12 = M 12 := zrem9_ne (by omega) (by omega) (by omega) (by omega)
theorem rem78 {M : ZMem} {u : Nat} : zrem10 M u 78 = M 78 := zrem10_ne (by omega) (by omega)
/-! more rules for reckoning -/
theorem ev_ifB {α : Type} (b : Bool) (A B : α) : (if zB b = nI 0 then A else B) = (if b = true then B else A) := by cases b <;> rfl
theorem ev_ifBB {α : Type} (b c : Bool) (A B : α) : (if zB b = zB c then A else B) = (if b = c then A else B) := by cases b <;> cases c <;> rfl
theorem ev_iflt {α : Type} {a b : Nat} (A B : α) (ha : a < 2147483648) (hb : b < 2147483648) : (if nI a < nI b then A else B) = (if a < b then A else B) := zi_lt ha hb
theorem ev_ifle {α : Type} {a b : Nat} (A B : α) (ha : a < 2147483648) (hb : b < 2147483648) : (if nI a ≤ nI b then A else B) = (if a ≤ b then A else B) := zi_le ha hb
theorem ev_ifeq {α : Type} {a b : Nat} (A B : α) (ha : a < 2147483648) (hb : b < 2147483648) : (if nI a = nI b then A else B) = (if a = b then A else B) := zi_eq ha hb
theorem ev_shl {k : Nat} (h : k < 11) : nI 1 <<< (nI k &&& nI 31) = nI (2 ^ k) := zpow k h
theorem ev_bit {a j : Nat} (ha : a < 1024) (hj : j < 10) : (nI a >>> (nI j &&& nI 31)) &&& nI 1 = nI ((a.testBit j).toNat) := zbitv j hj a ha
theorem isInZ (a : Int32) {m : Nat} (hm : m < 2147483647) : zf_X10_isIn a (nI 0) (nI m) = some (zB (zmem (m + 1) a)) := by
  rw [isIn10]
  rcases zint a with ha | ⟨i, hi, rfl⟩
  · rw [zmem_neg ha, if_pos (Or.inl ha)]; rfl
  · rw [zmem_nI hi]
    by_cases h : i < m + 1
    · rw [if_neg, decide_eq_true h]
      · rfl
      · rw [ev_lt hi (by omega), ev_lt (by omega) hi]; omega
    · rw [if_pos, decide_eq_false h]
      · rfl
      · rw [ev_lt hi (by omega), ev_lt (by omega) hi]; omega
theorem isInM (a : Int32) {m : Nat} (hm : m < 1073741824) : zf_X10_isIn a (nI 0) (nI m - nI 1) = some (zB (zmem m a)) := by
  by_cases h1 : m = 0
  · subst h1
    rw [isIn10]
    rcases zint a with ha | ⟨i, hi, rfl⟩
    · rw [zmem_neg ha, if_pos (Or.inl ha)]; rfl
    · rw [zmem_nI hi, if_pos]
      · rfl
      · exact Or.inr (Int32.lt_iff_toInt_lt.mpr (by rw [nI_toInt hi]; show (-1 : Int) < _; omega))
  · rw [pk_sub (by omega), isInZ a (by omega), show m - 1 + 1 = m by omega]
theorem zmem_false {m : Nat} {a : Int32} (h : zmem m a = false) : a < nI 0 ∨ ∃ j : Nat, j < 2147483648 ∧ m ≤ j ∧ a = nI j := by
  rcases zint a with ha | ⟨i, hi, rfl⟩
  · exact Or.inl ha
  · rw [zmem_nI hi] at h
    have := of_decide_eq_false h
    exact Or.inr ⟨i, hi, by omega, rfl⟩
/-- a number of the row put anew -/
theorem WF.put {r : ZRow} (h : WF r) (p v : Nat) (hp : (p = 8 ∧ v ≤ 99) ∨ (p = 2 ∧ v ≤ 99999) ∨ (p = 9 ∧ v ≤ 2) ∨ (p = 12 ∧ v < 2 ^ r 0) ∨ (p = 13 ∧ v < 2 ^ r 0) ∨ (p = 14 ∧ v < 2 ^ r 0) ∨ (p = 10 ∧ v < 256) ∨ (p = 11 ∧ v ≤ 100)) : WF (zat r p v) := by
  have ht : TA r (zat r p v) := TA.at r v (by rcases hp with g | g | g | g | g | g | g | g <;> (unfold zto; omega))
  have hc := h
  obtain ⟨h0, h1, h2, h3, h4, h5, h6, h7, h8, h9, h10, h11, h12, h13, h14, hm, hc, hf⟩ := hc
  rcases hp with ⟨rfl, g⟩ | ⟨rfl, g⟩ | ⟨rfl, g⟩ | ⟨rfl, g⟩ | ⟨rfl, g⟩ | ⟨rfl, g⟩ | ⟨rfl, g⟩ | ⟨rfl, g⟩
  · exact h.ta ht h2 h6 h7 g h9 h10 h11 h12 h13 h14 (fun i hi => by rw [zat_ne (by omega)]; exact ⟨(hf i hi).1, fun j hj => by rw [zat_ne (by omega)]; exact (hf i hi).2 j hj⟩)
  · exact h.ta ht g h6 h7 h8 h9 h10 h11 h12 h13 h14 (fun i hi => by rw [zat_ne (by omega)]; exact ⟨(hf i hi).1, fun j hj => by rw [zat_ne (by omega)]; exact (hf i hi).2 j hj⟩)
  · exact h.ta ht h2 h6 h7 h8 g h10 h11 h12 h13 h14 (fun i hi => by rw [zat_ne (by omega)]; exact ⟨(hf i hi).1, fun j hj => by rw [zat_ne (by omega)]; exact (hf i hi).2 j hj⟩)
  · exact h.ta ht h2 h6 h7 h8 h9 h10 h11 g h13 h14 (fun i hi => by rw [zat_ne (by omega)]; exact ⟨(hf i hi).1, fun j hj => by rw [zat_ne (by omega)]; exact (hf i hi).2 j hj⟩)
  · exact h.ta ht h2 h6 h7 h8 h9 h10 h11 h12 g h14 (fun i hi => by rw [zat_ne (by omega)]; exact ⟨(hf i hi).1, fun j hj => by rw [zat_ne (by omega)]; exact (hf i hi).2 j hj⟩)
  · exact h.ta ht h2 h6 h7 h8 h9 h10 h11 h12 h13 g (fun i hi => by rw [zat_ne (by omega)]; exact ⟨(hf i hi).1, fun j hj => by rw [zat_ne (by omega)]; exact (hf i hi).2 j hj⟩)
  · exact h.ta ht h2 h6 h7 h8 h9 g h11 h12 h13 h14 (fun i hi => by rw [zat_ne (by omega)]; exact ⟨(hf i hi).1, fun j hj => by rw [zat_ne (by omega)]; exact (hf i hi).2 j hj⟩)
  · exact h.ta ht h2 h6 h7 h8 h9 h10 g h12 h13 h14 (fun i hi => by rw [zat_ne (by omega)]; exact ⟨(hf i hi).1, fun j hj => by rw [zat_ne (by omega)]; exact (hf i hi).2 j hj⟩)
theorem GD.put {r : ZRow} (h : GD r) (p v : Nat) (hp : (p = 8 ∧ v ≤ 99) ∨ (p = 2 ∧ v ≤ 99999) ∨ (p = 9 ∧ v ≤ 2) ∨ (p = 12 ∧ v < 2 ^ r 0) ∨ (p = 13 ∧ v < 2 ^ r 0) ∨ (p = 14 ∧ v < 2 ^ r 0) ∨ (p = 11 ∧ v ≤ 100)) : GD (zat r p v) := by
  have q1 : 1 ≠ p := by rcases hp with g | g | g | g | g | g | g <;> omega
  have q2 : 10 ≠ p := by rcases hp with g | g | g | g | g | g | g <;> omega
  refine ⟨h.1.put p v (by rcases hp with g | g | g | g | g | g | g <;> simp [g]), ?_⟩
  rw [zat_ne q1, zat_ne q2]
  exact h.2
/-- an ACT that puts one number anew -/
theorem OPW.put {f g : ZMem → Option (Int32 × ZMem)} {M : ZMem} {t nx u : Nat} {r : ZRow} {U : Nat → ZRow} {T : ZT} {L : ZL} (hS : GS r u U T L) (hC : IC M t nx r u U T L) (hM : IM M r u U T L) (a p v : Nat) (hp : (a = 0 ∧ p = 8 ∧ v ≤ 99) ∨ (a = 4 ∧ p = 12 ∧ v < 2 ^ r 0) ∨ (a = 5 ∧ p = 13 ∧ v < 2 ^ r 0) ∨ (a = 6 ∧ p = 14 ∧ v < 2 ^ r 0) ∨ (a = 7 ∧ p = 2 ∧ v ≤ 99999) ∨ (a = 8 ∧ p = 9 ∧ v ≤ 2)) (w : Int32) (h9 : f M = some (w, zwr (zrem9 M nx u) 12 a (nI v))) (h10 : ∀ M1, IM M1 r u U T L → g M1 = some (w, zwr (zrem10 M1 u) 78 p (nI v))) : OPW f g M :=
  OPW.act (r' := zat r p v) hS hC hM (hS.1.put p v (by rcases hp with g | g | g | g | g | g <;> simp [g])) (TA.at r _ (by rcases hp with g | g | g | g | g | g <;> (unfold zto; omega))) h9 act_ne ((hC.2.2.2.1.rem hC.2.2.2.2.1.2.1).put hS.1.1.1 a p _ (by rcases hp with g | g | g | g | g | g <;> simp [g])) (fun M1 hM1 => ⟨zwr (zrem10 M1 u) 78 p (nI v), h10 M1 hM1, put_ne, hM1.1.put (by rcases hp with g | g | g | g | g | g <;> omega)⟩)
theorem IC.remember {M : ZMem} {t nx u : Nat} {r : ZRow} {U : Nat → ZRow} {T : ZT} {L : ZL} (h : IC M t nx r u U T L) : zf_X9_remember M = some (zrem9 M nx u) := remember9 h.2.2.2.2.1.1 h.2.2.2.2.1.2.1 h.2.2.2.2.1.2.2.1 h.2.2.2.2.1.2.2.2.1
theorem IM.put {M : ZMem} {u n p : Nat} {r : ZRow} {U : Nat → ZRow} {T : ZT} {L : ZL} (h : IM M r u U T L) (hn : 803 < n) (hp : p < 73) (x : Int32) : zf_X10_put n (nI p) x M = some (rI r p, zwr (zrem10 M u) 78 p x) := put10 h.2.1 h.1 hn hp x
theorem IC.r12 {M : ZMem} {t nx u : Nat} {r : ZRow} {U : Nat → ZRow} {T : ZT} {L : ZL} (h : IC M t nx r u U T L) : zrem9 M nx u 12 = M 12 := rem12 h.2.2.2.2.1.2.1
