/-! LAYER 2: the ACTS, one by one -/
theorem op_days {n : Nat} (hn : 803 < n) {M : ZMem} (hI : INV M) (a : Int32) : OPW (zf_X9_days a) (zf_X10_days n a) M := by
  obtain ⟨t, nx, r, u, U, T, L, hS, hC, hM⟩ := id hI
  have hb := hS.1.1.b
  obtain ⟨a0, a1, a2, a3, a4, a5, a6, -⟩ := hC.rd
  have hR := hC.remember
  have h12 := hC.r12
  rcases zint a with ha | ⟨k, hk, rfl⟩
  · refine OPW.same (-nI 1) ?_ ?_ hI
    · simp (disch := (first | assumption | omega)) only [zf_X9_days, zf_X9_days_j25, zlp, ↓in1]
    · simp (disch := (first | assumption | omega)) only [zf_X10_days, zf_X10_days_j24, zlp, ↓ev_ifB, ↓ev_iflt, ↓ev_ifle, ↓ev_ifeq, ↓ifp, ↓ifn, ↓ev_b1, ↓ev_b2, ↓ev_put, ↓ev_z0, ↓ev_z1, ↓ev_zB, ↓ev_has9, ↓ev_has10, ↓ev_shl, ↓ev_bit, ↓ev_in, ↓ev_inG, ↓ev_rd, ↓ev_st, decide_eq_true_eq, nI_add, ev_sub, pk_mul, nI_or, nI_xor, zBt, zBf, if_true, if_false, eq_self, Bool.false_eq_true]
  · by_cases g : 1 ≤ k ∧ k ≤ 30 ∧ r 8 + k ≤ 99
    · obtain ⟨g1, g2, g3⟩ := g
      refine OPW.put hS hC hM 0 8 (r 8 + k) (by omega) (nI (r 8 + k)) ?_ (fun M1 hM1 => ?_)
      · simp (disch := (first | assumption | omega)) only [zf_X9_days, zf_X9_days_j25, zlp, ↓ev_ifB, ↓ev_iflt, ↓ev_ifle, ↓ev_ifeq, ↓ifp, ↓ifn, ↓ev_b1, ↓ev_b2, ↓ev_put, ↓ev_z0, ↓ev_z1, ↓ev_zB, ↓ev_has9, ↓ev_has10, ↓ev_shl, ↓ev_bit, ↓ev_in, ↓ev_inG, ↓ev_rd, ↓ev_st, decide_eq_true_eq, nI_add, ev_sub, pk_mul, nI_or, nI_xor, zBt, zBf, if_true, if_false, eq_self, Bool.false_eq_true, hR, h12, a5, wre]
      · simp (disch := (first | assumption | omega)) only [zf_X10_days, zf_X10_days_j24, zlp, ↓rd78 hM1.1, ↓ev_ifB, ↓ev_iflt, ↓ev_ifle, ↓ev_ifeq, ↓ifp, ↓ifn, ↓ev_b1, ↓ev_b2, ↓ev_put, ↓ev_z0, ↓ev_z1, ↓ev_zB, ↓ev_has9, ↓ev_has10, ↓ev_shl, ↓ev_bit, ↓ev_in, ↓ev_inG, ↓ev_rd, ↓ev_st, decide_eq_true_eq, nI_add, ev_sub, pk_mul, nI_or, nI_xor, zBt, zBf, if_true, if_false, eq_self, Bool.false_eq_true, hM1.put hn, wre]
    · refine OPW.same (-nI 1) ?_ ?_ hI
      · rcases (by omega : k < 1 ∨ (1 ≤ k ∧ 30 < k) ∨ (1 ≤ k ∧ k ≤ 30 ∧ 99 < r 8 + k)) with g | ⟨g1, g2⟩ | ⟨g1, g2, g3⟩ <;> simp (disch := (first | assumption | omega)) only [zf_X9_days, zf_X9_days_j25, zlp, ↓ev_ifB, ↓ev_iflt, ↓ev_ifle, ↓ev_ifeq, ↓ifp, ↓ifn, ↓ev_b1, ↓ev_b2, ↓ev_put, ↓ev_z0, ↓ev_z1, ↓ev_zB, ↓ev_has9, ↓ev_has10, ↓ev_shl, ↓ev_bit, ↓ev_in, ↓ev_inG, ↓ev_rd, ↓ev_st, decide_eq_true_eq, nI_add, ev_sub, pk_mul, nI_or, nI_xor, zBt, zBf, if_true, if_false, eq_self, Bool.false_eq_true, a5]
      · rcases (by omega : k < 1 ∨ (1 ≤ k ∧ 30 < k) ∨ (1 ≤ k ∧ k ≤ 30 ∧ 99 < r 8 + k)) with g | ⟨g1, g2⟩ | ⟨g1, g2, g3⟩ <;> simp (disch := (first | assumption | omega)) only [zf_X10_days, zf_X10_days_j24, zlp, ↓rd78 hM.1, ↓ev_ifB, ↓ev_iflt, ↓ev_ifle, ↓ev_ifeq, ↓ifp, ↓ifn, ↓ev_b1, ↓ev_b2, ↓ev_put, ↓ev_z0, ↓ev_z1, ↓ev_zB, ↓ev_has9, ↓ev_has10, ↓ev_shl, ↓ev_bit, ↓ev_in, ↓ev_inG, ↓ev_rd, ↓ev_st, decide_eq_true_eq, nI_add, ev_sub, pk_mul, nI_or, nI_xor, zBt, zBf, if_true, if_false, eq_self, Bool.false_eq_true]
theorem isFund9 (a : Int32) : zf_X9_isFund a = some (zB (zmem 100000 a)) := by
  rcases zint a with ha | ⟨k, hk, rfl⟩
  · rw [zmem_neg ha]
    simp (disch := (first | assumption | omega)) only [zf_X9_isFund, zf_X9_isFund_j15, zf_X9_isFund_j16, zlp, ↓in1, ↓ev_z0]; rfl
  · rw [zmem_nI hk]
    by_cases g : k < 100000
    · rw [decide_eq_true g]
      simp (disch := (first | assumption | omega)) only [zf_X9_isFund, zf_X9_isFund_j15, zf_X9_isFund_j16, zlp, ↓ev_ifB, ↓ev_iflt, ↓ev_ifle, ↓ev_ifeq, ↓ifp, ↓ifn, ↓ev_b1, ↓ev_b2, ↓ev_put, ↓ev_z0, ↓ev_z1, ↓ev_zB, ↓ev_has9, ↓ev_has10, ↓ev_shl, ↓ev_bit, ↓ev_in, ↓ev_inG, ↓ev_rd, ↓ev_st, decide_eq_true_eq, nI_add, ev_sub, pk_mul, nI_or, nI_xor, zBt, zBf, if_true, if_false, eq_self, Bool.false_eq_true]
    · rw [decide_eq_false g]
      simp (disch := (first | assumption | omega)) only [zf_X9_isFund, zf_X9_isFund_j15, zf_X9_isFund_j16, zlp, ↓ev_ifB, ↓ev_iflt, ↓ev_ifle, ↓ev_ifeq, ↓ifp, ↓ifn, ↓ev_b1, ↓ev_b2, ↓ev_put, ↓ev_z0, ↓ev_z1, ↓ev_zB, ↓ev_has9, ↓ev_has10, ↓ev_shl, ↓ev_bit, ↓ev_in, ↓ev_inG, ↓ev_rd, ↓ev_st, decide_eq_true_eq, nI_add, ev_sub, pk_mul, nI_or, nI_xor, zBt, zBf, if_true, if_false, eq_self, Bool.false_eq_true]
theorem isRule9 (a : Int32) : zf_X9_isRule a = some (zB (zmem 3 a)) := by
  rcases zint a with ha | ⟨k, hk, rfl⟩
  · rw [zmem_neg ha]
    simp (disch := (first | assumption | omega)) only [zf_X9_isRule, zf_X9_isRule_j13, zf_X9_isRule_j14, zlp, ↓in1, ↓ev_z0]; rfl
  · rw [zmem_nI hk]
    by_cases g : k < 3
    · rw [decide_eq_true g]
      simp (disch := (first | assumption | omega)) only [zf_X9_isRule, zf_X9_isRule_j13, zf_X9_isRule_j14, zlp, ↓ev_ifB, ↓ev_iflt, ↓ev_ifle, ↓ev_ifeq, ↓ifp, ↓ifn, ↓ev_b1, ↓ev_b2, ↓ev_put, ↓ev_z0, ↓ev_z1, ↓ev_zB, ↓ev_has9, ↓ev_has10, ↓ev_shl, ↓ev_bit, ↓ev_in, ↓ev_inG, ↓ev_rd, ↓ev_st, decide_eq_true_eq, nI_add, ev_sub, pk_mul, nI_or, nI_xor, zBt, zBf, if_true, if_false, eq_self, Bool.false_eq_true]
    · rw [decide_eq_false g]
      simp (disch := (first | assumption | omega)) only [zf_X9_isRule, zf_X9_isRule_j13, zf_X9_isRule_j14, zlp, ↓ev_ifB, ↓ev_iflt, ↓ev_ifle, ↓ev_ifeq, ↓ifp, ↓ifn, ↓ev_b1, ↓ev_b2, ↓ev_put, ↓ev_z0, ↓ev_z1, ↓ev_zB, ↓ev_has9, ↓ev_has10, ↓ev_shl, ↓ev_bit, ↓ev_in, ↓ev_inG, ↓ev_rd, ↓ev_st, decide_eq_true_eq, nI_add, ev_sub, pk_mul, nI_or, nI_xor, zBt, zBf, if_true, if_false, eq_self, Bool.false_eq_true]
theorem op_fund {n : Nat} (hn : 803 < n) {M : ZMem} (hI : INV M) (a : Int32) : OPW (zf_X9_fund a) (zf_X10_fund n a) M := by
  obtain ⟨t, nx, r, u, U, T, L, hS, hC, hM⟩ := id hI
  have hb := hS.1.1.b
  obtain ⟨a0, a1, a2, a3, a4, a5, a6, a7, a8, a9, a10, a11, -⟩ := hC.rd
  have hR := hC.remember
  have h12 := hC.r12
  cases hz : zmem 100000 a with
  | false =>
    refine OPW.same (-nI 1) ?_ ?_ hI
    · simp (disch := (first | assumption | omega)) only [zf_X9_fund, zf_X9_fund_j18, zlp, ↓zb1_at (isFund9 a), hz, ↓ev_ifB, zBt, zBf, if_true, if_false, eq_self, Bool.false_eq_true]
    · simp (disch := (first | assumption | omega)) only [zf_X10_fund, zf_X10_fund_j29, zf_X10_fund_j30, zlp, ↓zb1_at (isInZ a (show 99999 < 2147483647 by omega)), hz, ↓ev_ifB, zBt, zBf, if_true, if_false, eq_self, Bool.false_eq_true]
  | true =>
    obtain ⟨k, hk, rfl⟩ := zmem_of hz
    by_cases g : k = r 2
    · refine OPW.same (-nI 1) ?_ ?_ hI
      · simp (disch := (first | assumption | omega)) only [zf_X9_fund, zf_X9_fund_j18, zlp, ↓zb1_at (isFund9 _), hz, ↓ev_ifB, zBt, zBf, if_true, if_false, eq_self, Bool.false_eq_true, a11, ↓ev_ifB, ↓ev_iflt, ↓ev_ifle, ↓ev_ifeq, ↓ifp, ↓ifn, ↓ev_b1, ↓ev_b2, ↓ev_put, ↓ev_z0, ↓ev_z1, ↓ev_zB, ↓ev_has9, ↓ev_has10, ↓ev_shl, ↓ev_bit, ↓ev_in, ↓ev_inG, ↓ev_rd, ↓ev_st, decide_eq_true_eq, nI_add, ev_sub, pk_mul, nI_or, nI_xor, zBt, zBf, if_true, if_false, eq_self, Bool.false_eq_true]
      · simp (disch := (first | assumption | omega)) only [zf_X10_fund, zf_X10_fund_j29, zf_X10_fund_j30, zlp, ↓rd78 hM.1, ↓ev_ifB, ↓ev_iflt, ↓ev_ifle, ↓ev_ifeq, ↓ifp, ↓ifn, ↓ev_b1, ↓ev_b2, ↓ev_put, ↓ev_z0, ↓ev_z1, ↓ev_zB, ↓ev_has9, ↓ev_has10, ↓ev_shl, ↓ev_bit, ↓ev_in, ↓ev_inG, ↓ev_rd, ↓ev_st, decide_eq_true_eq, nI_add, ev_sub, pk_mul, nI_or, nI_xor, zBt, zBf, if_true, if_false, eq_self, Bool.false_eq_true]
    · refine OPW.put hS hC hM 7 2 k (by omega) (nI (r 2)) ?_ (fun M1 hM1 => ?_)
      · simp (disch := (first | assumption | omega)) only [zf_X9_fund, zf_X9_fund_j18, zlp, ↓zb1_at (isFund9 _), hz, ↓ev_ifB, zBt, zBf, if_true, if_false, eq_self, Bool.false_eq_true, a11, hR, h12, ↓ev_ifB, ↓ev_iflt, ↓ev_ifle, ↓ev_ifeq, ↓ifp, ↓ifn, ↓ev_b1, ↓ev_b2, ↓ev_put, ↓ev_z0, ↓ev_z1, ↓ev_zB, ↓ev_has9, ↓ev_has10, ↓ev_shl, ↓ev_bit, ↓ev_in, ↓ev_inG, ↓ev_rd, ↓ev_st, decide_eq_true_eq, nI_add, ev_sub, pk_mul, nI_or, nI_xor, zBt, zBf, if_true, if_false, eq_self, Bool.false_eq_true]
      · simp (disch := (first | assumption | omega)) only [zf_X10_fund, zf_X10_fund_j29, zf_X10_fund_j30, zlp, ↓rd78 hM1.1, ↓ev_ifB, ↓ev_iflt, ↓ev_ifle, ↓ev_ifeq, ↓ifp, ↓ifn, ↓ev_b1, ↓ev_b2, ↓ev_put, ↓ev_z0, ↓ev_z1, ↓ev_zB, ↓ev_has9, ↓ev_has10, ↓ev_shl, ↓ev_bit, ↓ev_in, ↓ev_inG, ↓ev_rd, ↓ev_st, decide_eq_true_eq, nI_add, ev_sub, pk_mul, nI_or, nI_xor, zBt, zBf, if_true, if_false, eq_self, Bool.false_eq_true, hM1.put hn, rI_ne]
theorem op_rule {n : Nat} (hn : 803 < n) {M : ZMem} (hI : INV M) (a : Int32) : OPW (zf_X9_rule a) (zf_X10_rule n a) M := by
  obtain ⟨t, nx, r, u, U, T, L, hS, hC, hM⟩ := id hI
  have hb := hS.1.1.b
  obtain ⟨a0, a1, a2, a3, a4, a5, a6, a7, a8, a9, a10, a11, a12, -⟩ := hC.rd
  have hR := hC.remember
  have h12 := hC.r12
  cases hz : zmem 3 a with
  | false =>
    refine OPW.same (-nI 1) ?_ ?_ hI
    · simp (disch := (first | assumption | omega)) only [zf_X9_rule, zf_X9_rule_j18, zlp, ↓zb1_at (isRule9 a), hz, ↓ev_ifB, zBt, zBf, if_true, if_false, eq_self, Bool.false_eq_true]
    · simp (disch := (first | assumption | omega)) only [zf_X10_rule, zf_X10_rule_j30, zf_X10_rule_j31, zlp, ↓zb1_at (isInZ a (show 2 < 2147483647 by omega)), hz, ↓ev_ifB, zBt, zBf, if_true, if_false, eq_self, Bool.false_eq_true]
  | true =>
    obtain ⟨k, hk, rfl⟩ := zmem_of hz
    by_cases g : k = r 9
    · refine OPW.same (-nI 1) ?_ ?_ hI
      · simp (disch := (first | assumption | omega)) only [zf_X9_rule, zf_X9_rule_j18, zlp, ↓zb1_at (isRule9 _), hz, ↓ev_ifB, zBt, zBf, if_true, if_false, eq_self, Bool.false_eq_true, a12, ↓ev_ifB, ↓ev_iflt, ↓ev_ifle, ↓ev_ifeq, ↓ifp, ↓ifn, ↓ev_b1, ↓ev_b2, ↓ev_put, ↓ev_z0, ↓ev_z1, ↓ev_zB, ↓ev_has9, ↓ev_has10, ↓ev_shl, ↓ev_bit, ↓ev_in, ↓ev_inG, ↓ev_rd, ↓ev_st, decide_eq_true_eq, nI_add, ev_sub, pk_mul, nI_or, nI_xor, zBt, zBf, if_true, if_false, eq_self, Bool.false_eq_true]
      · simp (disch := (first | assumption | omega)) only [zf_X10_rule, zf_X10_rule_j30, zf_X10_rule_j31, zlp, ↓rd78 hM.1, ↓ev_ifB, ↓ev_iflt, ↓ev_ifle, ↓ev_ifeq, ↓ifp, ↓ifn, ↓ev_b1, ↓ev_b2, ↓ev_put, ↓ev_z0, ↓ev_z1, ↓ev_zB, ↓ev_has9, ↓ev_has10, ↓ev_shl, ↓ev_bit, ↓ev_in, ↓ev_inG, ↓ev_rd, ↓ev_st, decide_eq_true_eq, nI_add, ev_sub, pk_mul, nI_or, nI_xor, zBt, zBf, if_true, if_false, eq_self, Bool.false_eq_true]
    · refine OPW.put hS hC hM 8 9 k (by omega) (nI (r 9)) ?_ (fun M1 hM1 => ?_)
      · simp (disch := (first | assumption | omega)) only [zf_X9_rule, zf_X9_rule_j18, zlp, ↓zb1_at (isRule9 _), hz, ↓ev_ifB, zBt, zBf, if_true, if_false, eq_self, Bool.false_eq_true, a12, hR, h12, ↓ev_ifB, ↓ev_iflt, ↓ev_ifle, ↓ev_ifeq, ↓ifp, ↓ifn, ↓ev_b1, ↓ev_b2, ↓ev_put, ↓ev_z0, ↓ev_z1, ↓ev_zB, ↓ev_has9, ↓ev_has10, ↓ev_shl, ↓ev_bit, ↓ev_in, ↓ev_inG, ↓ev_rd, ↓ev_st, decide_eq_true_eq, nI_add, ev_sub, pk_mul, nI_or, nI_xor, zBt, zBf, if_true, if_false, eq_self, Bool.false_eq_true]
      · simp (disch := (first | assumption | omega)) only [zf_X10_rule, zf_X10_rule_j30, zf_X10_rule_j31, zlp, ↓rd78 hM1.1, ↓ev_ifB, ↓ev_iflt, ↓ev_ifle, ↓ev_ifeq, ↓ifp, ↓ifn, ↓ev_b1, ↓ev_b2, ↓ev_put, ↓ev_z0, ↓ev_z1, ↓ev_zB, ↓ev_has9, ↓ev_has10, ↓ev_shl, ↓ev_bit, ↓ev_in, ↓ev_inG, ↓ev_rd, ↓ev_st, decide_eq_true_eq, nI_add, ev_sub, pk_mul, nI_or, nI_xor, zBt, zBf, if_true, if_false, eq_self, Bool.false_eq_true, hM1.put hn, rI_ne]
theorem IC.mem {M : ZMem} {t nx u : Nat} {r : ZRow} {U : Nat → ZRow} {T : ZT} {L : ZL} (h : IC M t nx r u U T L) (hw : WF r) (a : Int32) : zf_X9_isMember a M = some (zB (zmem (r 0) a)) := isMember9 h.1 h.2.2.1.1 hw.1 a
theorem IR.mem {M : ZMem} {r : ZRow} (h : IR M r) (hw : WF r) (a : Int32) : zf_X10_isMember a M = some (zB (zmem (r 0) a)) := isMember10 (h 0 (by omega)) hw.1 a
theorem op_out {n : Nat} (hn : 803 < n) {M : ZMem} (hI : INV M) (a : Int32) : OPW (zf_X9_out n a) (zf_X10_out n a) M := by
  obtain ⟨t, nx, r, u, U, T, L, hS, hC, hM⟩ := id hI
  have hb := hS.1.1.b
  obtain ⟨a0, a1, a2, a3, a4, a5, a6, a7, a8, a9, a10, a11, a12, -⟩ := hC.rd
  have hR := hC.remember
  have h12 := hC.r12
  have hdy := fun (K : Nat → Option (Int32 × ZMem)) => hC.1.dy (K := K)
  cases hz : zmem (r 0) a with
  | false =>
    refine OPW.same (-nI 1) ?_ ?_ hI
    · simp (disch := (first | assumption | omega)) only [zf_X9_out, zf_X9_out_j47, zlp, ↓zb1_at (hC.mem hS.1.1 a), hz, ↓ev_ifB, zBt, zBf, if_true, if_false, eq_self, Bool.false_eq_true]
    · simp (disch := (first | assumption | omega)) only [zf_X10_out, zf_X10_out_j46, zlp, ↓zb1_at (hM.1.mem hS.1.1 a), hz, ↓ev_ifB, zBt, zBf, if_true, if_false, eq_self, Bool.false_eq_true]
  | true =>
    obtain ⟨k, hk, rfl⟩ := zmem_of hz
    have hr9 := isReached9 (n := n) hC hS.1 hk (by omega)
    have hr10 := fun M1 (h : IM M1 r u U T L) => isReached10 (n := n) h.1 hS.1 hk (by omega)
    have hlt : r 12 ||| 2 ^ k < 2 ^ r 0 := Nat.or_lt_two_pow hS.1.1.2.2.2.2.2.2.2.2.2.2.2.2.1 (zpow_lt hk)
    by_cases g : (r 12).testBit k = true ∨ zrch r k = false ∨ r 5 < r 8
    · refine OPW.same (-nI 1) ?_ ?_ hI
      · by_cases g1 : (r 12).testBit k = true
        · simp (disch := (first | assumption | omega)) only [zf_X9_out, zf_X9_out_j47, zlp, ↓zb1_at (hC.mem hS.1.1 _), hz, ↓ev_ifB, zBt, zBf, if_true, if_false, eq_self, Bool.false_eq_true, a8, ↓ev_ifB, ↓ev_iflt, ↓ev_ifle, ↓ev_ifeq, ↓ifp, ↓ifn, ↓ev_b1, ↓ev_b2, ↓ev_put, ↓ev_z0, ↓ev_z1, ↓ev_zB, ↓ev_has9, ↓ev_has10, ↓ev_shl, ↓ev_bit, ↓ev_in, ↓ev_inG, ↓ev_rd, ↓ev_st, decide_eq_true_eq, nI_add, ev_sub, pk_mul, nI_or, nI_xor, zBt, zBf, if_true, if_false, eq_self, Bool.false_eq_true]
        · by_cases g2 : zrch r k = true
          · have g3 : r 5 < r 8 := by rcases g with g | g | g; exact absurd g g1; rw [g] at g2; cases g2; exact g
            simp (disch := (first | assumption | omega)) only [zf_X9_out, zf_X9_out_j47, zlp, ↓zb1_at (hC.mem hS.1.1 _), hz, ↓ev_ifB, zBt, zBf, if_true, if_false, eq_self, Bool.false_eq_true, a8, ↓ev_ifB, ↓ev_iflt, ↓ev_ifle, ↓ev_ifeq, ↓ifp, ↓ifn, ↓ev_b1, ↓ev_b2, ↓ev_put, ↓ev_z0, ↓ev_z1, ↓ev_zB, ↓ev_has9, ↓ev_has10, ↓ev_shl, ↓ev_bit, ↓ev_in, ↓ev_inG, ↓ev_rd, ↓ev_st, decide_eq_true_eq, nI_add, ev_sub, pk_mul, nI_or, nI_xor, zBt, zBf, if_true, if_false, eq_self, Bool.false_eq_true, ↓zb1_at hr9, ↓hdy, a4, a5]
          · simp (disch := (first | assumption | omega)) only [zf_X9_out, zf_X9_out_j47, zlp, ↓zb1_at (hC.mem hS.1.1 _), hz, ↓ev_ifB, zBt, zBf, if_true, if_false, eq_self, Bool.false_eq_true, a8, ↓ev_ifB, ↓ev_iflt, ↓ev_ifle, ↓ev_ifeq, ↓ifp, ↓ifn, ↓ev_b1, ↓ev_b2, ↓ev_put, ↓ev_z0, ↓ev_z1, ↓ev_zB, ↓ev_has9, ↓ev_has10, ↓ev_shl, ↓ev_bit, ↓ev_in, ↓ev_inG, ↓ev_rd, ↓ev_st, decide_eq_true_eq, nI_add, ev_sub, pk_mul, nI_or, nI_xor, zBt, zBf, if_true, if_false, eq_self, Bool.false_eq_true, ↓zb1_at hr9, ↓hdy, a4, a5]
      · by_cases g1 : (r 12).testBit k = true
        · simp (disch := (first | assumption | omega)) only [zf_X10_out, zf_X10_out_j46, zlp, ↓zb1_at (hM.1.mem hS.1.1 _), hz, ↓ev_ifB, zBt, zBf, if_true, if_false, eq_self, Bool.false_eq_true, ↓rd78 hM.1, ↓ev_ifB, ↓ev_iflt, ↓ev_ifle, ↓ev_ifeq, ↓ifp, ↓ifn, ↓ev_b1, ↓ev_b2, ↓ev_put, ↓ev_z0, ↓ev_z1, ↓ev_zB, ↓ev_has9, ↓ev_has10, ↓ev_shl, ↓ev_bit, ↓ev_in, ↓ev_inG, ↓ev_rd, ↓ev_st, decide_eq_true_eq, nI_add, ev_sub, pk_mul, nI_or, nI_xor, zBt, zBf, if_true, if_false, eq_self, Bool.false_eq_true]
        · by_cases g2 : zrch r k = true
          · have g3 : r 5 < r 8 := by rcases g with g | g | g; exact absurd g g1; rw [g] at g2; cases g2; exact g
            simp (disch := (first | assumption | omega)) only [zf_X10_out, zf_X10_out_j46, zlp, ↓zb1_at (hM.1.mem hS.1.1 _), hz, ↓ev_ifB, zBt, zBf, if_true, if_false, eq_self, Bool.false_eq_true, ↓rd78 hM.1, ↓ev_ifB, ↓ev_iflt, ↓ev_ifle, ↓ev_ifeq, ↓ifp, ↓ifn, ↓ev_b1, ↓ev_b2, ↓ev_put, ↓ev_z0, ↓ev_z1, ↓ev_zB, ↓ev_has9, ↓ev_has10, ↓ev_shl, ↓ev_bit, ↓ev_in, ↓ev_inG, ↓ev_rd, ↓ev_st, decide_eq_true_eq, nI_add, ev_sub, pk_mul, nI_or, nI_xor, zBt, zBf, if_true, if_false, eq_self, Bool.false_eq_true, ↓zb1_at (hr10 M hM)]
          · simp (disch := (first | assumption | omega)) only [zf_X10_out, zf_X10_out_j46, zlp, ↓zb1_at (hM.1.mem hS.1.1 _), hz, ↓ev_ifB, zBt, zBf, if_true, if_false, eq_self, Bool.false_eq_true, ↓rd78 hM.1, ↓ev_ifB, ↓ev_iflt, ↓ev_ifle, ↓ev_ifeq, ↓ifp, ↓ifn, ↓ev_b1, ↓ev_b2, ↓ev_put, ↓ev_z0, ↓ev_z1, ↓ev_zB, ↓ev_has9, ↓ev_has10, ↓ev_shl, ↓ev_bit, ↓ev_in, ↓ev_inG, ↓ev_rd, ↓ev_st, decide_eq_true_eq, nI_add, ev_sub, pk_mul, nI_or, nI_xor, zBt, zBf, if_true, if_false, eq_self, Bool.false_eq_true, ↓zb1_at (hr10 M hM)]
    · have g1 : ¬ (r 12).testBit k = true := fun z => g (Or.inl z)
      have g2 : zrch r k = true := by
        cases e : zrch r k with
        | true => rfl
        | false => exact absurd (Or.inr (Or.inl e)) g
      have g3 : ¬ r 5 < r 8 := fun z => g (Or.inr (Or.inr z))
      refine OPW.put hS hC hM 4 12 (r 12 ||| 2 ^ k) (by omega) (nI (zbc (r 12 ||| 2 ^ k))) ?_ (fun M1 hM1 => ?_)
      · simp (disch := (first | assumption | omega)) only [zf_X9_out, zf_X9_out_j47, zlp, ↓zb1_at (hC.mem hS.1.1 _), hz, ↓ev_ifB, zBt, zBf, if_true, if_false, eq_self, Bool.false_eq_true, a8, ↓ev_ifB, ↓ev_iflt, ↓ev_ifle, ↓ev_ifeq, ↓ifp, ↓ifn, ↓ev_b1, ↓ev_b2, ↓ev_put, ↓ev_z0, ↓ev_z1, ↓ev_zB, ↓ev_has9, ↓ev_has10, ↓ev_shl, ↓ev_bit, ↓ev_in, ↓ev_inG, ↓ev_rd, ↓ev_st, decide_eq_true_eq, nI_add, ev_sub, pk_mul, nI_or, nI_xor, zBt, zBf, if_true, if_false, eq_self, Bool.false_eq_true, ↓zb1_at hr9, ↓hdy, a4, a5, hR, h12, wre, bitCount9]
      · simp (disch := (first | assumption | omega)) only [zf_X10_out, zf_X10_out_j46, zlp, ↓zb1_at (hM1.1.mem hS.1.1 _), hz, ↓ev_ifB, zBt, zBf, if_true, if_false, eq_self, Bool.false_eq_true, ↓rd78 hM1.1, ↓ev_ifB, ↓ev_iflt, ↓ev_ifle, ↓ev_ifeq, ↓ifp, ↓ifn, ↓ev_b1, ↓ev_b2, ↓ev_put, ↓ev_z0, ↓ev_z1, ↓ev_zB, ↓ev_has9, ↓ev_has10, ↓ev_shl, ↓ev_bit, ↓ev_in, ↓ev_inG, ↓ev_rd, ↓ev_st, decide_eq_true_eq, nI_add, ev_sub, pk_mul, nI_or, nI_xor, zBt, zBf, if_true, if_false, eq_self, Bool.false_eq_true, ↓zb1_at (hr10 M1 hM1), hM1.put hn, wre, bits10]
