/-! LAYER 2: the ACTS, one by one (3) -/
theorem IR.at {M : ZMem} {r : ZRow} {p v : Nat} (hr : IR M r) (hp : p ≠ 11) : IR (zwr M 78 p (nI v)) (zat r p v) := fun j hj => by
  rw [zwr_get]
  by_cases h : j = p
  · subst h
    rw [if_pos ⟨rfl, rfl⟩, rI_ne hp, zat_eq]
  · rw [if_neg (fun z => h z.2), hr j hj]
    unfold rI
    rw [zat_ne h]
    by_cases h11 : j = 11
    · rw [if_pos h11, if_pos h11, zat_ne (fun z => hp z.symm)]
    · rw [if_neg h11, if_neg h11]
theorem op_period {n : Nat} (hn : 803 < n) {M : ZMem} (hI : INV M) (a b : Int32) : OPW (zf_X9_period n a b) (zf_X10_period n a b) M := by
  obtain ⟨t, nx, r, u, U, T, L, hS, hC, hM⟩ := id hI
  have hb := hS.1.1.b
  obtain ⟨a0, a1, a2, a3, a4, a5, a6, a7, a8, a9, a10, a11, a12, a13, a14, -⟩ := hC.rd
  have hR := hC.remember
  have h12 := hC.r12
  have hnx : nx < 12 := hC.2.2.2.2.1.2.1
  have ht := hC.t
  rcases zint a with ha | ⟨k, hk, rfl⟩
  · refine OPW.same (-nI 1) ?_ ?_ hI
    · simp (disch := (first | assumption | omega)) only [zf_X9_period, zf_X9_period_j15, zlp, ↓in1]
    · simp (disch := (first | assumption | omega)) only [zf_X10_period, zf_X10_period_j42, zlp, ↓ev_ifB, ↓ev_iflt, ↓ev_ifle, ↓ev_ifeq, ↓ifp, ↓ifn, ↓ev_b1, ↓ev_b2, ↓ev_put, ↓ev_z0, ↓ev_z1, ↓ev_zB, ↓ev_has9, ↓ev_has10, ↓ev_shl, ↓ev_bit, ↓ev_in, ↓ev_inG, ↓ev_rd, ↓ev_st, decide_eq_true_eq, nI_add, ev_sub, pk_mul, nI_or, nI_xor, zBt, zBf, if_true, if_false, eq_self, Bool.false_eq_true]
  · rcases zint b with hb' | ⟨l, hl, rfl⟩
    · have hlt : b < nI k := zneg_lt hb' hk
      refine OPW.same (-nI 1) ?_ ?_ hI
      · simp (disch := (first | assumption | omega)) only [zf_X9_period, zf_X9_period_j15, zlp, ↓ev_ifB, ↓ev_iflt, ↓ev_ifle, ↓ev_ifeq, ↓ifp, ↓ifn, ↓ev_b1, ↓ev_b2, ↓ev_put, ↓ev_z0, ↓ev_z1, ↓ev_zB, ↓ev_has9, ↓ev_has10, ↓ev_shl, ↓ev_bit, ↓ev_in, ↓ev_inG, ↓ev_rd, ↓ev_st, decide_eq_true_eq, nI_add, ev_sub, pk_mul, nI_or, nI_xor, zBt, zBf, if_true, if_false, eq_self, Bool.false_eq_true]
      · by_cases g : k ≤ 99
        · simp (disch := (first | assumption | omega)) only [zf_X10_period, zf_X10_period_j42, zlp, ↓ev_ifB, ↓ev_iflt, ↓ev_ifle, ↓ev_ifeq, ↓ifp, ↓ifn, ↓ev_b1, ↓ev_b2, ↓ev_put, ↓ev_z0, ↓ev_z1, ↓ev_zB, ↓ev_has9, ↓ev_has10, ↓ev_shl, ↓ev_bit, ↓ev_in, ↓ev_inG, ↓ev_rd, ↓ev_st, decide_eq_true_eq, nI_add, ev_sub, pk_mul, nI_or, nI_xor, zBt, zBf, if_true, if_false, eq_self, Bool.false_eq_true]
        · simp (disch := (first | assumption | omega)) only [zf_X10_period, zf_X10_period_j42, zlp, ↓ev_ifB, ↓ev_iflt, ↓ev_ifle, ↓ev_ifeq, ↓ifp, ↓ifn, ↓ev_b1, ↓ev_b2, ↓ev_put, ↓ev_z0, ↓ev_z1, ↓ev_zB, ↓ev_has9, ↓ev_has10, ↓ev_shl, ↓ev_bit, ↓ev_in, ↓ev_inG, ↓ev_rd, ↓ev_st, decide_eq_true_eq, nI_add, ev_sub, pk_mul, nI_or, nI_xor, zBt, zBf, if_true, if_false, eq_self, Bool.false_eq_true]
    · by_cases g : k ≤ l ∧ l ≤ 99
      · obtain ⟨g1, g2⟩ := g
        by_cases g3 : k = r 6 ∧ l = r 7
        · obtain ⟨rfl, rfl⟩ := g3
          refine OPW.same (-nI 1) ?_ ?_ hI
          · simp (disch := (first | assumption | omega)) only [zf_X9_period, zf_X9_period_j15, zlp, ↓ev_ifB, ↓ev_iflt, ↓ev_ifle, ↓ev_ifeq, ↓ifp, ↓ifn, ↓ev_b1, ↓ev_b2, ↓ev_put, ↓ev_z0, ↓ev_z1, ↓ev_zB, ↓ev_has9, ↓ev_has10, ↓ev_shl, ↓ev_bit, ↓ev_in, ↓ev_inG, ↓ev_rd, ↓ev_st, decide_eq_true_eq, nI_add, ev_sub, pk_mul, nI_or, nI_xor, zBt, zBf, if_true, if_false, eq_self, Bool.false_eq_true, a13, a14]
          · simp (disch := (first | assumption | omega)) only [zf_X10_period, zf_X10_period_j42, zlp, ↓rd78 hM.1, ↓ev_ifB, ↓ev_iflt, ↓ev_ifle, ↓ev_ifeq, ↓ifp, ↓ifn, ↓ev_b1, ↓ev_b2, ↓ev_put, ↓ev_z0, ↓ev_z1, ↓ev_zB, ↓ev_has9, ↓ev_has10, ↓ev_shl, ↓ev_bit, ↓ev_in, ↓ev_inG, ↓ev_rd, ↓ev_st, decide_eq_true_eq, nI_add, ev_sub, pk_mul, nI_or, nI_xor, zBt, zBf, if_true, if_false, eq_self, Bool.false_eq_true]
        · have hta : TA r (zat (zat r 6 k) 7 l) := fun j hj => by
            unfold zto at hj
            rw [zat_ne (by omega), zat_ne (by omega)]
          have e6 : zat (zat r 6 k) 7 l 6 = k := by rw [zat_ne (by omega), zat_eq]
          have e0 : zat (zat r 6 k) 7 l 0 = r 0 := by rw [zat_ne (by omega), zat_ne (by omega)]
          have en : ∀ j, j ≠ 6 → j ≠ 7 → zat (zat r 6 k) 7 l j = r j := fun j h1 h2 => by rw [zat_ne h2, zat_ne h1]
          have hg : GD (zat (zat r 6 k) 7 l) := by
            refine ⟨?_, by rw [en 1 (by omega) (by omega), en 10 (by omega) (by omega)]; exact hS.1.2⟩
            obtain ⟨h0, h1, h2, h3, h4, h5, h6, h7, h8, h9, h10, h11, h12, h13, h14, hm, hc, hf⟩ := hS.1.1
            refine hS.1.1.ta hta ?_ ?_ ?_ ?_ ?_ ?_ ?_ ?_ ?_ ?_ ?_
            · rw [en 2 (by omega) (by omega)]; exact h2
            · rw [e6, zat_eq]; exact g1
            · rw [zat_eq]; exact g2
            · rw [en 8 (by omega) (by omega)]; exact h8
            · rw [en 9 (by omega) (by omega)]; exact h9
            · rw [en 10 (by omega) (by omega)]; exact h10
            · rw [en 11 (by omega) (by omega)]; exact h11
            · rw [en 12 (by omega) (by omega)]; exact h12
            · rw [en 13 (by omega) (by omega)]; exact h13
            · rw [en 14 (by omega) (by omega)]; exact h14
            · intro i hi
              rw [en (63 + i) (by omega) (by omega)]
              exact ⟨(hf i hi).1, fun j hj => by rw [en (63 + j) (by omega) (by omega)]; exact (hf i hi).2 j hj⟩
          have hs9 : SDc (zwr (zwr (zrem9 M nx u) 12 9 (nI k)) 12 10 (nI l)) 12 (zat (zat r 6 k) 7 l) := ((hC.2.2.2.1.rem hnx).put hb.1 9 6 k (by omega)).put (by rw [zat_ne (by omega)]; exact hb.1) 10 7 l (by omega)
          have hIT : IT (zwr (zwr (zrem9 M nx u) 12 9 (nI k)) 12 10 (nI l)) t := hC.1.congr (by rw [wrn (by omega), wrn (by omega), zrem9_ne (by omega) (by omega) (by omega) (by omega)])
          have hTD : TD (zwr (zwr (zrem9 M nx u) 12 9 (nI k)) 12 10 (nI l)) t (zat (zat r 6 k) 7 l) := (hC.2.2.1.congr (fun k h1 h2 => by rw [wrn (by omega), wrn (by omega), zrem9_ne (by omega) (by omega) (by omega) (by omega)])).ta hS.1.1 hta
          have hev := everyone9 hIT hTD.1 hg.1.1
          have hcl := claims9 (n := n) hIT hTD hs9.1 hg.1 (a := 2 ^ r 0 - 1) (by omega) (by omega)
          rw [e0] at hev
          refine OPW.act (r' := zat (zat r 6 k) 7 l) (v := nI (zclaims (zat (zat r 6 k) 7 l) (2 ^ r 0 - 1))) hS hC hM hg hta (M1 := zwr (zwr (zrem9 M nx u) 12 9 (nI k)) 12 10 (nI l)) ?_ (fun k h1 h2 => by rw [wrn h1, wrn h1]) hs9 (fun M1 hM1 => ⟨zwr (zwr (zrem10 M1 u) 78 6 (nI k)) 78 7 (nI l), ?_, fun k hk => by rw [wrn hk, wrn hk], (hM1.1.put (by omega)).at (by omega)⟩)
          · have key : zf_X9_period_j41 M (nI k) (nI l) n = some (nI (zclaims (zat (zat r 6 k) 7 l) (2 ^ r 0 - 1)), zwr (zwr (zrem9 M nx u) 12 9 (nI k)) 12 10 (nI l)) := by
              simp (disch := (first | assumption | omega)) only [zf_X9_period_j41, ↓ev_ifB, ↓ev_iflt, ↓ev_ifle, ↓ev_ifeq, ↓ifp, ↓ifn, ↓ev_b1, ↓ev_b2, ↓ev_put, ↓ev_z0, ↓ev_z1, ↓ev_zB, ↓ev_has9, ↓ev_has10, ↓ev_shl, ↓ev_bit, ↓ev_in, ↓ev_inG, ↓ev_rd, ↓ev_st, decide_eq_true_eq, nI_add, ev_sub, pk_mul, nI_or, nI_xor, zBt, zBf, if_true, if_false, eq_self, Bool.false_eq_true, hR, ↓zb1_at hev, ↓zb1_at hcl]
            by_cases g4 : k = r 6
            · have g5 : l ≠ r 7 := fun z => g3 ⟨g4, z⟩
              simp (disch := (first | assumption | omega)) only [zf_X9_period, zf_X9_period_j15, zlp, ↓ev_ifB, ↓ev_iflt, ↓ev_ifle, ↓ev_ifeq, ↓ifp, ↓ifn, ↓ev_b1, ↓ev_b2, ↓ev_put, ↓ev_z0, ↓ev_z1, ↓ev_zB, ↓ev_has9, ↓ev_has10, ↓ev_shl, ↓ev_bit, ↓ev_in, ↓ev_inG, ↓ev_rd, ↓ev_st, decide_eq_true_eq, nI_add, ev_sub, pk_mul, nI_or, nI_xor, zBt, zBf, if_true, if_false, eq_self, Bool.false_eq_true, a13, a14, key]
            · simp (disch := (first | assumption | omega)) only [zf_X9_period, zf_X9_period_j15, zlp, ↓ev_ifB, ↓ev_iflt, ↓ev_ifle, ↓ev_ifeq, ↓ifp, ↓ifn, ↓ev_b1, ↓ev_b2, ↓ev_put, ↓ev_z0, ↓ev_z1, ↓ev_zB, ↓ev_has9, ↓ev_has10, ↓ev_shl, ↓ev_bit, ↓ev_in, ↓ev_inG, ↓ev_rd, ↓ev_st, decide_eq_true_eq, nI_add, ev_sub, pk_mul, nI_or, nI_xor, zBt, zBf, if_true, if_false, eq_self, Bool.false_eq_true, a13, a14, key]
          · have hR2 : IR (zwr (zwr (zrem10 M1 u) 78 6 (nI k)) 78 7 (nI l)) (zat (zat r 6 k) 7 l) := (hM1.1.put (by omega)).at (by omega)
            have hal := all10 (hR2 0 (by omega)) (by rw [e0]; exact hb.1)
            have hcl2 := claims10 (n := n) hR2 hg.1 (a := 2 ^ r 0 - 1) (by omega) (by omega)
            rw [e0] at hal
            have key : zf_X10_period_j44 n (nI k) M1 (nI l) = some (nI (zclaims (zat (zat r 6 k) 7 l) (2 ^ r 0 - 1)), zwr (zwr (zrem10 M1 u) 78 6 (nI k)) 78 7 (nI l)) := by
              simp (disch := (first | assumption | omega)) only [zf_X10_period_j44, zlp, ↓ev_ifB, ↓ev_iflt, ↓ev_ifle, ↓ev_ifeq, ↓ifp, ↓ifn, ↓ev_b1, ↓ev_b2, ↓ev_put, ↓ev_z0, ↓ev_z1, ↓ev_zB, ↓ev_has9, ↓ev_has10, ↓ev_shl, ↓ev_bit, ↓ev_in, ↓ev_inG, ↓ev_rd, ↓ev_st, decide_eq_true_eq, nI_add, ev_sub, pk_mul, nI_or, nI_xor, zBt, zBf, if_true, if_false, eq_self, Bool.false_eq_true, hM1.put hn, ↓zb1_at hal, ↓zb1_at hcl2]
            by_cases g4 : k = r 6
            · have g5 : l ≠ r 7 := fun z => g3 ⟨g4, z⟩
              simp (disch := (first | assumption | omega)) only [zf_X10_period, zf_X10_period_j42, zlp, ↓rd78 hM1.1, ↓ev_ifB, ↓ev_iflt, ↓ev_ifle, ↓ev_ifeq, ↓ifp, ↓ifn, ↓ev_b1, ↓ev_b2, ↓ev_put, ↓ev_z0, ↓ev_z1, ↓ev_zB, ↓ev_has9, ↓ev_has10, ↓ev_shl, ↓ev_bit, ↓ev_in, ↓ev_inG, ↓ev_rd, ↓ev_st, decide_eq_true_eq, nI_add, ev_sub, pk_mul, nI_or, nI_xor, zBt, zBf, if_true, if_false, eq_self, Bool.false_eq_true, key]
            · simp (disch := (first | assumption | omega)) only [zf_X10_period, zf_X10_period_j42, zlp, ↓rd78 hM1.1, ↓ev_ifB, ↓ev_iflt, ↓ev_ifle, ↓ev_ifeq, ↓ifp, ↓ifn, ↓ev_b1, ↓ev_b2, ↓ev_put, ↓ev_z0, ↓ev_z1, ↓ev_zB, ↓ev_has9, ↓ev_has10, ↓ev_shl, ↓ev_bit, ↓ev_in, ↓ev_inG, ↓ev_rd, ↓ev_st, decide_eq_true_eq, nI_add, ev_sub, pk_mul, nI_or, nI_xor, zBt, zBf, if_true, if_false, eq_self, Bool.false_eq_true, key]
      · refine OPW.same (-nI 1) ?_ ?_ hI
        · by_cases g1 : k ≤ l
          · simp (disch := (first | assumption | omega)) only [zf_X9_period, zf_X9_period_j15, zlp, ↓ev_ifB, ↓ev_iflt, ↓ev_ifle, ↓ev_ifeq, ↓ifp, ↓ifn, ↓ev_b1, ↓ev_b2, ↓ev_put, ↓ev_z0, ↓ev_z1, ↓ev_zB, ↓ev_has9, ↓ev_has10, ↓ev_shl, ↓ev_bit, ↓ev_in, ↓ev_inG, ↓ev_rd, ↓ev_st, decide_eq_true_eq, nI_add, ev_sub, pk_mul, nI_or, nI_xor, zBt, zBf, if_true, if_false, eq_self, Bool.false_eq_true]
          · simp (disch := (first | assumption | omega)) only [zf_X9_period, zf_X9_period_j15, zlp, ↓ev_ifB, ↓ev_iflt, ↓ev_ifle, ↓ev_ifeq, ↓ifp, ↓ifn, ↓ev_b1, ↓ev_b2, ↓ev_put, ↓ev_z0, ↓ev_z1, ↓ev_zB, ↓ev_has9, ↓ev_has10, ↓ev_shl, ↓ev_bit, ↓ev_in, ↓ev_inG, ↓ev_rd, ↓ev_st, decide_eq_true_eq, nI_add, ev_sub, pk_mul, nI_or, nI_xor, zBt, zBf, if_true, if_false, eq_self, Bool.false_eq_true]
        · by_cases g1 : k ≤ 99
          · simp (disch := (first | assumption | omega)) only [zf_X10_period, zf_X10_period_j42, zlp, ↓ev_ifB, ↓ev_iflt, ↓ev_ifle, ↓ev_ifeq, ↓ifp, ↓ifn, ↓ev_b1, ↓ev_b2, ↓ev_put, ↓ev_z0, ↓ev_z1, ↓ev_zB, ↓ev_has9, ↓ev_has10, ↓ev_shl, ↓ev_bit, ↓ev_in, ↓ev_inG, ↓ev_rd, ↓ev_st, decide_eq_true_eq, nI_add, ev_sub, pk_mul, nI_or, nI_xor, zBt, zBf, if_true, if_false, eq_self, Bool.false_eq_true]
          · simp (disch := (first | assumption | omega)) only [zf_X10_period, zf_X10_period_j42, zlp, ↓ev_ifB, ↓ev_iflt, ↓ev_ifle, ↓ev_ifeq, ↓ifp, ↓ifn, ↓ev_b1, ↓ev_b2, ↓ev_put, ↓ev_z0, ↓ev_z1, ↓ev_zB, ↓ev_has9, ↓ev_has10, ↓ev_shl, ↓ev_bit, ↓ev_in, ↓ev_inG, ↓ev_rd, ↓ev_st, decide_eq_true_eq, nI_add, ev_sub, pk_mul, nI_or, nI_xor, zBt, zBf, if_true, if_false, eq_self, Bool.false_eq_true]
/-- two members that are not one -/
def ztwo (m : Nat) (a b : Int32) : Bool := zmem m a && zmem m b && decide (a ≠ b)
theorem IC.two {M : ZMem} {t nx u : Nat} {r : ZRow} {U : Nat → ZRow} {T : ZT} {L : ZL} (h : IC M t nx r u U T L) (hw : WF r) (a b : Int32) : zf_X9_arePair a b M = some (zB (ztwo (r 0) a b)) := by
  unfold zf_X9_arePair zf_X9_arePair_j25 zf_X9_arePair_j26 ztwo
  rw [zb1_at (h.mem hw a), zb1_at (h.mem hw b)]
  cases zmem (r 0) a <;> cases zmem (r 0) b <;> by_cases e : a = b <;> simp [e, zB] <;> rfl
theorem IR.two {M : ZMem} {r : ZRow} (h : IR M r) (hw : WF r) (a b : Int32) : zf_X10_areTwo a b M = some (zB (ztwo (r 0) a b)) := by
  unfold zf_X10_areTwo zf_X10_areTwo_j25 zf_X10_areTwo_j26 ztwo
  rw [zb1_at (h.mem hw a), zb1_at (h.mem hw b)]
  cases zmem (r 0) a <;> cases zmem (r 0) b <;> by_cases e : a = b <;> simp [e, zB] <;> rfl
theorem ztwo_of {m : Nat} {a b : Int32} (h : ztwo m a b = true) : ∃ i j, i < m ∧ j < m ∧ i ≠ j ∧ a = nI i ∧ b = nI j := by
  unfold ztwo at h
  simp only [Bool.and_eq_true, decide_eq_true_eq] at h
  obtain ⟨⟨h1, h2⟩, h3⟩ := h
  obtain ⟨i, hi, rfl⟩ := zmem_of h1
  obtain ⟨j, hj, rfl⟩ := zmem_of h2
  exact ⟨i, j, hi, hj, fun e => h3 (by rw [e]), rfl, rfl⟩
/-- a conflict comes, or goes -/
def ztog (r : ZRow) (i j : Nat) : ZRow := zat (zat r (63 + i) (r (63 + i) ^^^ 2 ^ j)) (63 + j) (r (63 + j) ^^^ 2 ^ i)
theorem ztog_ne {r : ZRow} {i j k : Nat} (h : k < 63) : ztog r i j k = r k := by
  unfold ztog
  rw [zat_ne (by omega), zat_ne (by omega)]
theorem ztog_1 {r : ZRow} {i j : Nat} (h : i ≠ j) : ztog r i j (63 + i) = r (63 + i) ^^^ 2 ^ j := by
  unfold ztog
  rw [zat_ne (by omega), zat_eq]
theorem ztog_2 {r : ZRow} {i j : Nat} : ztog r i j (63 + j) = r (63 + j) ^^^ 2 ^ i := by
  unfold ztog
  rw [zat_eq]
theorem ztog_3 {r : ZRow} {i j k : Nat} (h : k ≠ i) (h2 : k ≠ j) : ztog r i j (63 + k) = r (63 + k) := by
  unfold ztog
  rw [zat_ne (by omega), zat_ne (by omega)]
theorem ztog_tb {r : ZRow} {i j k l : Nat} (h : i ≠ j) : (ztog r i j (63 + k)).testBit l = ((r (63 + k)).testBit l ^^ (decide (k = i ∧ l = j) || decide (k = j ∧ l = i))) := by
  by_cases h1 : k = i
  · subst h1
    rw [ztog_1 h, Nat.testBit_xor, Nat.testBit_two_pow]
    congr 1
    by_cases e : j = l
    · subst e; simp
    · simp [e, h, Ne.symm e]
  · by_cases h2 : k = j
    · subst h2
      rw [ztog_2, Nat.testBit_xor, Nat.testBit_two_pow]
      congr 1
      by_cases e : i = l
      · subst e; simp
      · simp [e, h1, Ne.symm e]
    · rw [ztog_3 h1 h2]
      simp [h1, h2]
theorem ztog_ta {r : ZRow} {i j : Nat} : TA r (ztog r i j) := fun k hk => by
  unfold zto at hk
  exact ztog_ne (by omega)
theorem ztog_gd {r : ZRow} {i j : Nat} (h : GD r) (hi : i < r 0) (hj : j < r 0) (hij : i ≠ j) : GD (ztog r i j) := by
  have hb := h.1.b
  refine ⟨?_, by rw [ztog_ne (by omega), ztog_ne (by omega)]; exact h.2⟩
  obtain ⟨h0, h1, h2, h3, h4, h5, h6, h7, h8, h9, h10, h11, h12, h13, h14, hm, hc, hf⟩ := id h.1
  refine h.1.ta ztog_ta ?_ ?_ ?_ ?_ ?_ ?_ ?_ ?_ ?_ ?_ ?_
  · rw [ztog_ne (by omega)]; exact h2
  · rw [ztog_ne (by omega), ztog_ne (by omega)]; exact h6
  · rw [ztog_ne (by omega)]; exact h7
  · rw [ztog_ne (by omega)]; exact h8
  · rw [ztog_ne (by omega)]; exact h9
  · rw [ztog_ne (by omega)]; exact h10
  · rw [ztog_ne (by omega)]; exact h11
  · rw [ztog_ne (by omega)]; exact h12
  · rw [ztog_ne (by omega)]; exact h13
  · rw [ztog_ne (by omega)]; exact h14
  · intro k hk
    refine ⟨?_, fun l hl => ⟨?_, ?_⟩⟩
    · by_cases e1 : k = i
      · subst e1; rw [ztog_1 hij]; exact Nat.xor_lt_two_pow (hf k hk).1 (zpow_lt hj)
      · by_cases e2 : k = j
        · subst e2; rw [ztog_2]; exact Nat.xor_lt_two_pow (hf k hk).1 (zpow_lt hi)
        · rw [ztog_3 e1 e2]; exact (hf k hk).1
    · rw [ztog_tb hij, ztog_tb hij, ((hf k hk).2 l hl).1]
      congr 1
      by_cases e1 : k = i <;> by_cases e2 : l = j <;> by_cases e3 : k = j <;> by_cases e4 : l = i <;> simp [e1, e2, e3, e4] <;> omega
    · rw [ztog_tb hij, ((hf k hk).2 l hl).2, Bool.false_xor]
      by_cases e1 : k = i <;> by_cases e3 : k = j <;> simp [e1, e3] <;> omega
theorem op_quarrel {n : Nat} (hn : 803 < n) {M : ZMem} (hI : INV M) (a b : Int32) : OPW (zf_X9_quarrel a b) (zf_X10_quarrel n a b) M := by
  obtain ⟨t, nx, r, u, U, T, L, hS, hC, hM⟩ := id hI
  have hb := hS.1.1.b
  have hR := hC.remember
  have hnx : nx < 12 := hC.2.2.2.2.1.2.1
  cases hz : ztwo (r 0) a b with
  | false =>
    refine OPW.same (-nI 1) ?_ ?_ hI
    · simp (disch := (first | assumption | omega)) only [zf_X9_quarrel, zlp, ↓zb1_at (hC.two hS.1.1 a b), hz, ↓ev_ifB, zBt, zBf, if_true, if_false, eq_self, Bool.false_eq_true]
    · simp (disch := (first | assumption | omega)) only [zf_X10_quarrel, zlp, ↓zb1_at (hM.1.two hS.1.1 a b), hz, ↓ev_ifB, zBt, zBf, if_true, if_false, eq_self, Bool.false_eq_true]
  | true =>
    obtain ⟨i, j, hi, hj, hij, rfl, rfl⟩ := ztwo_of hz
    have hg := ztog_gd hS.1 hi hj hij
    have hfi := hg.1.foe (show i < 10 by omega)
    rw [ztog_1 hij] at hfi
    have e13 : zrem9 M nx u 13 = M 13 := zrem9_ne (by omega) (by omega) (by omega) (by omega)
    have f1 := hC.foe (show i < 10 by omega)
    have f2 := hC.foe (show j < 10 by omega)
    have x1 : zwr (zrem9 M nx u) 13 i (nI (r (63 + i) ^^^ 2 ^ j)) 13 j = nI (r (63 + j)) := by rw [wrj (Ne.symm hij), e13, f2]
    have x2 : zwr (zwr (zrem9 M nx u) 13 i (nI (r (63 + i) ^^^ 2 ^ j))) 13 j (nI (r (63 + j) ^^^ 2 ^ i)) 13 i = nI (r (63 + i) ^^^ 2 ^ j) := by rw [wrj hij, wre]
    refine OPW.act (r' := ztog r i j) (v := nI ((r (63 + i) ^^^ 2 ^ j).testBit j).toNat) hS hC hM hg ztog_ta (M1 := zwr (zwr (zrem9 M nx u) 13 i (nI (r (63 + i) ^^^ 2 ^ j))) 13 j (nI (r (63 + j) ^^^ 2 ^ i))) ?_ (fun k h1 h2 => by rw [wrn h2, wrn h2]) ?_ (fun M1 hM1 => ⟨zwr (zwr (zrem10 M1 u) 78 (63 + i) (nI (r (63 + i) ^^^ 2 ^ j))) 78 (63 + j) (nI (r (63 + j) ^^^ 2 ^ i)), ?_, fun k hk => by rw [wrn hk, wrn hk], ?_⟩)
    · simp (disch := (first | assumption | omega)) only [zf_X9_quarrel, zf_X9_quarrel_j45, zf_X7_toggleConflict, zlp, ↓zb1_at (hC.two hS.1.1 _ _), hz, ↓ev_ifB, zBt, zBf, if_true, if_false, eq_self, Bool.false_eq_true, ↓ev_ifB, ↓ev_iflt, ↓ev_ifle, ↓ev_ifeq, ↓ifp, ↓ifn, ↓ev_b1, ↓ev_b2, ↓ev_put, ↓ev_z0, ↓ev_z1, ↓ev_zB, ↓ev_has9, ↓ev_has10, ↓ev_shl, ↓ev_bit, ↓ev_in, ↓ev_inG, ↓ev_rd, ↓ev_st, decide_eq_true_eq, nI_add, ev_sub, pk_mul, nI_or, nI_xor, zBt, zBf, if_true, if_false, eq_self, Bool.false_eq_true, hR, e13, f1, x1, x2]
      cases (r (63 + i) ^^^ 2 ^ j).testBit j <;> rfl
    · have hs := hC.2.2.2.1.rem (u := u) hnx
      obtain ⟨⟨b1, b2, b3, b4, b5, b6, b7, b8, b9, b10, b11⟩, b12⟩ := hs
      have e12 : zwr (zwr (zrem9 M nx u) 13 i (nI (r (63 + i) ^^^ 2 ^ j))) 13 j (nI (r (63 + j) ^^^ 2 ^ i)) 12 = zrem9 M nx u 12 := by rw [wrn (by omega), wrn (by omega)]
      refine ⟨⟨?_, ?_, ?_, ?_, ?_, ?_, ?_, ?_, ?_, ?_, ?_⟩, ?_⟩
      · rw [e12, ztog_ne (by omega)]; exact b1
      · rw [e12, ztog_ne (by omega)]; exact b2
      · rw [e12, ztog_ne (by omega)]; exact b3
      · rw [e12, ztog_ne (by omega)]; exact b4
      · rw [e12, ztog_ne (by omega)]; exact b5
      · rw [e12, ztog_ne (by omega)]; exact b6
      · rw [e12, ztog_ne (by omega)]; exact b7
      · rw [e12, ztog_ne (by omega)]; exact b8
      · rw [e12, ztog_ne (by omega)]; exact b9
      · rw [e12, ztog_ne (by omega)]; exact b10
      · intro k hk
        show _ = nI (ztog r i j (63 + k))
        by_cases e2 : k = j
        · subst e2; rw [ztog_2]; exact wre
        · rw [show (12 : Nat) + 1 = 13 from rfl, wrj e2]
          by_cases e1 : k = i
          · subst e1; rw [ztog_1 hij]; exact wre
          · rw [wrj e1, ztog_3 e1 e2]; exact b11 k hk
      · rw [e12, zcostN_ta ztog_ta hb.1 (ztog_ne (by omega)) (ztog_ne (by omega))]; exact b12
    · have e78 : zrem10 M1 u 78 = M1 78 := rem78
      have f1 : zrem10 M1 u 78 (63 + i) = nI (r (63 + i)) := by rw [e78, hM1.1 _ (by omega), rI_ne (by omega)]
      have x1 : zwr (zrem10 M1 u) 78 (63 + i) (nI (r (63 + i) ^^^ 2 ^ j)) 78 (63 + j) = nI (r (63 + j)) := by rw [wrj (by omega), e78, hM1.1 _ (by omega), rI_ne (by omega)]
      have x2 : zwr (zwr (zrem10 M1 u) 78 (63 + i) (nI (r (63 + i) ^^^ 2 ^ j))) 78 (63 + j) (nI (r (63 + j) ^^^ 2 ^ i)) 78 (63 + i) = nI (r (63 + i) ^^^ 2 ^ j) := by rw [wrj (by omega), wre]
      simp (disch := (first | assumption | omega)) only [zf_X10_quarrel, zf_X10_quarrel_j42, zf_X10_quarrels, zlp, ↓zb1_at (hM1.1.two hS.1.1 _ _), hz, ↓ev_ifB, zBt, zBf, if_true, if_false, eq_self, Bool.false_eq_true, ↓ev_ifB, ↓ev_iflt, ↓ev_ifle, ↓ev_ifeq, ↓ifp, ↓ifn, ↓ev_b1, ↓ev_b2, ↓ev_put, ↓ev_z0, ↓ev_z1, ↓ev_zB, ↓ev_has9, ↓ev_has10, ↓ev_shl, ↓ev_bit, ↓ev_in, ↓ev_inG, ↓ev_rd, ↓ev_st, decide_eq_true_eq, nI_add, ev_sub, pk_mul, nI_or, nI_xor, zBt, zBf, if_true, if_false, eq_self, Bool.false_eq_true, ↓zb1_at (remembers10 hM1.2.1.1 hM1.2.1.2.1 hn), f1, x1, x2]
      cases (r (63 + i) ^^^ 2 ^ j).testBit j <;> rfl
    · have : IR (zrem10 M1 u) r := hM1.1.congr rem78
      exact (this.at (by omega)).at (by omega)
