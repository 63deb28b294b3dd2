/-! LAYER 2: what is asked -/
theorem IC.tm {M : ZMem} {t nx u : Nat} {r : ZRow} {U : Nat → ZRow} {T : ZT} {L : ZL} (h : IC M t nx r u U T L) {i : Nat} (hi : i < r 0) : M (t + 1) i = nI (r (15 + i)) ∧ M (t + 2) i = nI (r (25 + i)) ∧ M (t + 3) i = nI (r (35 + i)) ∧ M (t + 4) i = nI (r (45 + i)) := h.2.2.1.2.2.2.2.2.1 i hi
theorem IC.tc {M : ZMem} {t nx u : Nat} {r : ZRow} {U : Nat → ZRow} {T : ZT} {L : ZL} (h : IC M t nx r u U T L) {c : Nat} (hc : c < r 1) : M (t + 5) c = nI (r (55 + c)) ∧ M (t + 6) c = nI (r (59 + c)) := h.2.2.1.2.2.2.2.2.2 c hc
theorem op_member {n : Nat} (hn : 803 < n) {M : ZMem} (hI : INV M) (a b : Int32) : OPQ (zf_X9_member n a b) (zf_X10_member n a b) M := by
  obtain ⟨t, nx, r, u, U, T, L, hS, hC, hM⟩ := id hI
  have hb := hS.1.1.b
  obtain ⟨a0, a1, a2, a3, a4, a5, a6, a7, a8, a9, a10, a11, a12, -⟩ := hC.rd
  have hdy := fun (K : Nat → Option Int32) => hC.1.dy (K := K)
  cases hz : zmem (r 0) a with
  | false =>
    refine ⟨-nI 1, ?_, ?_⟩
    · simp (disch := (first | assumption | omega)) only [zf_X9_member, zlp, ↓zb1_at (hC.mem hS.1.1 a), hz, ↓ev_ifB, zBt, zBf, if_true, if_false, eq_self, Bool.false_eq_true]
    · simp (disch := (first | assumption | omega)) only [zf_X10_member, zlp, ↓zb1_at (hM.1.mem hS.1.1 a), hz, ↓ev_ifB, zBt, zBf, if_true, if_false, eq_self, Bool.false_eq_true]
  | true =>
    obtain ⟨i, hi, rfl⟩ := zmem_of hz
    obtain ⟨m1, m2, m3, m4⟩ := hC.tm hi
    have m5 := hC.foe (show i < 10 by omega)
    have hcl9 := claim7 hC.2.2.1 hC.2.2.2.1.1 hS.1.1 hi
    have hcl10 := claim10 hM.1 hS.1.1 hi
    have hrd9 := reachDay9 (n := n) hC hS.1 hi (by omega)
    have hrd10 := reachedOn10 (n := n) hM.1 hS.1 hi (by omega)
    rcases zint b with hb' | ⟨k, hk, rfl⟩
    · refine ⟨-nI 1, ?_, ?_⟩
      · simp (disch := (first | assumption | omega)) only [zf_X9_member, zlp, ↓zb1_at (hC.mem hS.1.1 _), hz, ↓ev_ifB, zBt, zBf, if_true, if_false, eq_self, Bool.false_eq_true, ↓in2, ↓ev_ifB, ↓ev_iflt, ↓ev_ifle, ↓ev_ifeq, ↓ifp, ↓ifn, ↓ev_b1, ↓ev_b2, ↓ev_put, ↓ev_z0, ↓ev_z1, ↓ev_zB, ↓ev_has9, ↓ev_has10, ↓ev_shl, ↓ev_bit, ↓ev_in, ↓ev_inG, ↓ev_rd, ↓ev_st, decide_eq_true_eq, nI_add, ev_sub, pk_mul, nI_or, nI_xor, zBt, zBf, if_true, if_false, eq_self, Bool.false_eq_true]
      · simp (disch := (first | assumption | omega)) only [zf_X10_member, zlp, ↓zb1_at (hM.1.mem hS.1.1 _), hz, ↓ev_ifB, zBt, zBf, if_true, if_false, eq_self, Bool.false_eq_true, ↓in2, ↓ev_ifB, ↓ev_iflt, ↓ev_ifle, ↓ev_ifeq, ↓ifp, ↓ifn, ↓ev_b1, ↓ev_b2, ↓ev_put, ↓ev_z0, ↓ev_z1, ↓ev_zB, ↓ev_has9, ↓ev_has10, ↓ev_shl, ↓ev_bit, ↓ev_in, ↓ev_inG, ↓ev_rd, ↓ev_st, decide_eq_true_eq, nI_add, ev_sub, pk_mul, nI_or, nI_xor, zBt, zBf, if_true, if_false, eq_self, Bool.false_eq_true]
    · rcases (by omega : k = 0 ∨ k = 1 ∨ k = 2 ∨ k = 3 ∨ k = 4 ∨ k = 5 ∨ k = 6 ∨ k = 7 ∨ k = 8 ∨ k = 9 ∨ 10 ≤ k) with rfl | rfl | rfl | rfl | rfl | rfl | rfl | rfl | rfl | rfl | hk
      · refine ⟨nI (r (15 + i)), ?_, ?_⟩
        · simp (disch := (first | assumption | omega)) only [zf_X9_member, zlp, ↓zb1_at (hC.mem hS.1.1 _), hz, ↓ev_ifB, zBt, zBf, if_true, if_false, eq_self, Bool.false_eq_true, ↓ev_ifB, ↓ev_iflt, ↓ev_ifle, ↓ev_ifeq, ↓ifp, ↓ifn, ↓ev_b1, ↓ev_b2, ↓ev_put, ↓ev_z0, ↓ev_z1, ↓ev_zB, ↓ev_has9, ↓ev_has10, ↓ev_shl, ↓ev_bit, ↓ev_in, ↓ev_inG, ↓ev_rd, ↓ev_st, decide_eq_true_eq, nI_add, ev_sub, pk_mul, nI_or, nI_xor, zBt, zBf, if_true, if_false, eq_self, Bool.false_eq_true, ↓hdy, m1, m2, m3, m4]
        · simp (disch := (first | assumption | omega)) only [zf_X10_member, zlp, ↓zb1_at (hM.1.mem hS.1.1 _), hz, ↓ev_ifB, zBt, zBf, if_true, if_false, eq_self, Bool.false_eq_true, ↓rd78 hM.1, ↓ev_ifB, ↓ev_iflt, ↓ev_ifle, ↓ev_ifeq, ↓ifp, ↓ifn, ↓ev_b1, ↓ev_b2, ↓ev_put, ↓ev_z0, ↓ev_z1, ↓ev_zB, ↓ev_has9, ↓ev_has10, ↓ev_shl, ↓ev_bit, ↓ev_in, ↓ev_inG, ↓ev_rd, ↓ev_st, decide_eq_true_eq, nI_add, ev_sub, pk_mul, nI_or, nI_xor, zBt, zBf, if_true, if_false, eq_self, Bool.false_eq_true]
      · refine ⟨nI (r (25 + i)), ?_, ?_⟩
        · simp (disch := (first | assumption | omega)) only [zf_X9_member, zlp, ↓zb1_at (hC.mem hS.1.1 _), hz, ↓ev_ifB, zBt, zBf, if_true, if_false, eq_self, Bool.false_eq_true, ↓ev_ifB, ↓ev_iflt, ↓ev_ifle, ↓ev_ifeq, ↓ifp, ↓ifn, ↓ev_b1, ↓ev_b2, ↓ev_put, ↓ev_z0, ↓ev_z1, ↓ev_zB, ↓ev_has9, ↓ev_has10, ↓ev_shl, ↓ev_bit, ↓ev_in, ↓ev_inG, ↓ev_rd, ↓ev_st, decide_eq_true_eq, nI_add, ev_sub, pk_mul, nI_or, nI_xor, zBt, zBf, if_true, if_false, eq_self, Bool.false_eq_true, ↓hdy, m1, m2, m3, m4]
        · simp (disch := (first | assumption | omega)) only [zf_X10_member, zlp, ↓zb1_at (hM.1.mem hS.1.1 _), hz, ↓ev_ifB, zBt, zBf, if_true, if_false, eq_self, Bool.false_eq_true, ↓rd78 hM.1, ↓ev_ifB, ↓ev_iflt, ↓ev_ifle, ↓ev_ifeq, ↓ifp, ↓ifn, ↓ev_b1, ↓ev_b2, ↓ev_put, ↓ev_z0, ↓ev_z1, ↓ev_zB, ↓ev_has9, ↓ev_has10, ↓ev_shl, ↓ev_bit, ↓ev_in, ↓ev_inG, ↓ev_rd, ↓ev_st, decide_eq_true_eq, nI_add, ev_sub, pk_mul, nI_or, nI_xor, zBt, zBf, if_true, if_false, eq_self, Bool.false_eq_true]
      · refine ⟨nI (r (35 + i)), ?_, ?_⟩
        · simp (disch := (first | assumption | omega)) only [zf_X9_member, zlp, ↓zb1_at (hC.mem hS.1.1 _), hz, ↓ev_ifB, zBt, zBf, if_true, if_false, eq_self, Bool.false_eq_true, ↓ev_ifB, ↓ev_iflt, ↓ev_ifle, ↓ev_ifeq, ↓ifp, ↓ifn, ↓ev_b1, ↓ev_b2, ↓ev_put, ↓ev_z0, ↓ev_z1, ↓ev_zB, ↓ev_has9, ↓ev_has10, ↓ev_shl, ↓ev_bit, ↓ev_in, ↓ev_inG, ↓ev_rd, ↓ev_st, decide_eq_true_eq, nI_add, ev_sub, pk_mul, nI_or, nI_xor, zBt, zBf, if_true, if_false, eq_self, Bool.false_eq_true, ↓hdy, m1, m2, m3, m4]
        · simp (disch := (first | assumption | omega)) only [zf_X10_member, zlp, ↓zb1_at (hM.1.mem hS.1.1 _), hz, ↓ev_ifB, zBt, zBf, if_true, if_false, eq_self, Bool.false_eq_true, ↓rd78 hM.1, ↓ev_ifB, ↓ev_iflt, ↓ev_ifle, ↓ev_ifeq, ↓ifp, ↓ifn, ↓ev_b1, ↓ev_b2, ↓ev_put, ↓ev_z0, ↓ev_z1, ↓ev_zB, ↓ev_has9, ↓ev_has10, ↓ev_shl, ↓ev_bit, ↓ev_in, ↓ev_inG, ↓ev_rd, ↓ev_st, decide_eq_true_eq, nI_add, ev_sub, pk_mul, nI_or, nI_xor, zBt, zBf, if_true, if_false, eq_self, Bool.false_eq_true]
      · refine ⟨nI (r (45 + i)), ?_, ?_⟩
        · simp (disch := (first | assumption | omega)) only [zf_X9_member, zlp, ↓zb1_at (hC.mem hS.1.1 _), hz, ↓ev_ifB, zBt, zBf, if_true, if_false, eq_self, Bool.false_eq_true, ↓ev_ifB, ↓ev_iflt, ↓ev_ifle, ↓ev_ifeq, ↓ifp, ↓ifn, ↓ev_b1, ↓ev_b2, ↓ev_put, ↓ev_z0, ↓ev_z1, ↓ev_zB, ↓ev_has9, ↓ev_has10, ↓ev_shl, ↓ev_bit, ↓ev_in, ↓ev_inG, ↓ev_rd, ↓ev_st, decide_eq_true_eq, nI_add, ev_sub, pk_mul, nI_or, nI_xor, zBt, zBf, if_true, if_false, eq_self, Bool.false_eq_true, ↓hdy, m1, m2, m3, m4]
        · simp (disch := (first | assumption | omega)) only [zf_X10_member, zlp, ↓zb1_at (hM.1.mem hS.1.1 _), hz, ↓ev_ifB, zBt, zBf, if_true, if_false, eq_self, Bool.false_eq_true, ↓rd78 hM.1, ↓ev_ifB, ↓ev_iflt, ↓ev_ifle, ↓ev_ifeq, ↓ifp, ↓ifn, ↓ev_b1, ↓ev_b2, ↓ev_put, ↓ev_z0, ↓ev_z1, ↓ev_zB, ↓ev_has9, ↓ev_has10, ↓ev_shl, ↓ev_bit, ↓ev_in, ↓ev_inG, ↓ev_rd, ↓ev_st, decide_eq_true_eq, nI_add, ev_sub, pk_mul, nI_or, nI_xor, zBt, zBf, if_true, if_false, eq_self, Bool.false_eq_true]
      · refine ⟨nI (zclaim r i), ?_, ?_⟩
        · simp (disch := (first | assumption | omega)) only [zf_X9_member, zlp, ↓zb1_at (hC.mem hS.1.1 _), hz, ↓ev_ifB, zBt, zBf, if_true, if_false, eq_self, Bool.false_eq_true, ↓ev_ifB, ↓ev_iflt, ↓ev_ifle, ↓ev_ifeq, ↓ifp, ↓ifn, ↓ev_b1, ↓ev_b2, ↓ev_put, ↓ev_z0, ↓ev_z1, ↓ev_zB, ↓ev_has9, ↓ev_has10, ↓ev_shl, ↓ev_bit, ↓ev_in, ↓ev_inG, ↓ev_rd, ↓ev_st, decide_eq_true_eq, nI_add, ev_sub, pk_mul, nI_or, nI_xor, zBt, zBf, if_true, if_false, eq_self, Bool.false_eq_true, ↓hdy, ↓zb1_at hcl9]
        · simp (disch := (first | assumption | omega)) only [zf_X10_member, zlp, ↓zb1_at (hM.1.mem hS.1.1 _), hz, ↓ev_ifB, zBt, zBf, if_true, if_false, eq_self, Bool.false_eq_true, ↓rd78 hM.1, ↓ev_ifB, ↓ev_iflt, ↓ev_ifle, ↓ev_ifeq, ↓ifp, ↓ifn, ↓ev_b1, ↓ev_b2, ↓ev_put, ↓ev_z0, ↓ev_z1, ↓ev_zB, ↓ev_has9, ↓ev_has10, ↓ev_shl, ↓ev_bit, ↓ev_in, ↓ev_inG, ↓ev_rd, ↓ev_st, decide_eq_true_eq, nI_add, ev_sub, pk_mul, nI_or, nI_xor, zBt, zBf, if_true, if_false, eq_self, Bool.false_eq_true, ↓zb1_at hcl10]
      · refine ⟨nI ((r 12).testBit i).toNat, ?_, ?_⟩
        · simp (disch := (first | assumption | omega)) only [zf_X9_member, zf_X9_bitOf, zlp, ↓zb1_at (hC.mem hS.1.1 _), hz, ↓ev_ifB, zBt, zBf, if_true, if_false, eq_self, Bool.false_eq_true, ↓ev_ifB, ↓ev_iflt, ↓ev_ifle, ↓ev_ifeq, ↓ifp, ↓ifn, ↓ev_b1, ↓ev_b2, ↓ev_put, ↓ev_z0, ↓ev_z1, ↓ev_zB, ↓ev_has9, ↓ev_has10, ↓ev_shl, ↓ev_bit, ↓ev_in, ↓ev_inG, ↓ev_rd, ↓ev_st, decide_eq_true_eq, nI_add, ev_sub, pk_mul, nI_or, nI_xor, zBt, zBf, if_true, if_false, eq_self, Bool.false_eq_true, a8]
        · simp (disch := (first | assumption | omega)) only [zf_X10_member, zlp, ↓zb1_at (hM.1.mem hS.1.1 _), hz, ↓ev_ifB, zBt, zBf, if_true, if_false, eq_self, Bool.false_eq_true, ↓rd78 hM.1, ↓ev_ifB, ↓ev_iflt, ↓ev_ifle, ↓ev_ifeq, ↓ifp, ↓ifn, ↓ev_b1, ↓ev_b2, ↓ev_put, ↓ev_z0, ↓ev_z1, ↓ev_zB, ↓ev_has9, ↓ev_has10, ↓ev_shl, ↓ev_bit, ↓ev_in, ↓ev_inG, ↓ev_rd, ↓ev_st, decide_eq_true_eq, nI_add, ev_sub, pk_mul, nI_or, nI_xor, zBt, zBf, if_true, if_false, eq_self, Bool.false_eq_true, Nat.reduceAdd, Nat.reduceSub]
      · refine ⟨nI ((r 13).testBit i).toNat, ?_, ?_⟩
        · simp (disch := (first | assumption | omega)) only [zf_X9_member, zf_X9_bitOf, zlp, ↓zb1_at (hC.mem hS.1.1 _), hz, ↓ev_ifB, zBt, zBf, if_true, if_false, eq_self, Bool.false_eq_true, ↓ev_ifB, ↓ev_iflt, ↓ev_ifle, ↓ev_ifeq, ↓ifp, ↓ifn, ↓ev_b1, ↓ev_b2, ↓ev_put, ↓ev_z0, ↓ev_z1, ↓ev_zB, ↓ev_has9, ↓ev_has10, ↓ev_shl, ↓ev_bit, ↓ev_in, ↓ev_inG, ↓ev_rd, ↓ev_st, decide_eq_true_eq, nI_add, ev_sub, pk_mul, nI_or, nI_xor, zBt, zBf, if_true, if_false, eq_self, Bool.false_eq_true, a9]
        · simp (disch := (first | assumption | omega)) only [zf_X10_member, zlp, ↓zb1_at (hM.1.mem hS.1.1 _), hz, ↓ev_ifB, zBt, zBf, if_true, if_false, eq_self, Bool.false_eq_true, ↓rd78 hM.1, ↓ev_ifB, ↓ev_iflt, ↓ev_ifle, ↓ev_ifeq, ↓ifp, ↓ifn, ↓ev_b1, ↓ev_b2, ↓ev_put, ↓ev_z0, ↓ev_z1, ↓ev_zB, ↓ev_has9, ↓ev_has10, ↓ev_shl, ↓ev_bit, ↓ev_in, ↓ev_inG, ↓ev_rd, ↓ev_st, decide_eq_true_eq, nI_add, ev_sub, pk_mul, nI_or, nI_xor, zBt, zBf, if_true, if_false, eq_self, Bool.false_eq_true, Nat.reduceAdd, Nat.reduceSub]
      · refine ⟨nI ((r 14).testBit i).toNat, ?_, ?_⟩
        · simp (disch := (first | assumption | omega)) only [zf_X9_member, zf_X9_bitOf, zlp, ↓zb1_at (hC.mem hS.1.1 _), hz, ↓ev_ifB, zBt, zBf, if_true, if_false, eq_self, Bool.false_eq_true, ↓ev_ifB, ↓ev_iflt, ↓ev_ifle, ↓ev_ifeq, ↓ifp, ↓ifn, ↓ev_b1, ↓ev_b2, ↓ev_put, ↓ev_z0, ↓ev_z1, ↓ev_zB, ↓ev_has9, ↓ev_has10, ↓ev_shl, ↓ev_bit, ↓ev_in, ↓ev_inG, ↓ev_rd, ↓ev_st, decide_eq_true_eq, nI_add, ev_sub, pk_mul, nI_or, nI_xor, zBt, zBf, if_true, if_false, eq_self, Bool.false_eq_true, a10]
        · simp (disch := (first | assumption | omega)) only [zf_X10_member, zlp, ↓zb1_at (hM.1.mem hS.1.1 _), hz, ↓ev_ifB, zBt, zBf, if_true, if_false, eq_self, Bool.false_eq_true, ↓rd78 hM.1, ↓ev_ifB, ↓ev_iflt, ↓ev_ifle, ↓ev_ifeq, ↓ifp, ↓ifn, ↓ev_b1, ↓ev_b2, ↓ev_put, ↓ev_z0, ↓ev_z1, ↓ev_zB, ↓ev_has9, ↓ev_has10, ↓ev_shl, ↓ev_bit, ↓ev_in, ↓ev_inG, ↓ev_rd, ↓ev_st, decide_eq_true_eq, nI_add, ev_sub, pk_mul, nI_or, nI_xor, zBt, zBf, if_true, if_false, eq_self, Bool.false_eq_true, Nat.reduceAdd, Nat.reduceSub]
      · refine ⟨zdI 0 (zrd0 r i), ?_, ?_⟩
        · simp (disch := (first | assumption | omega)) only [zf_X9_member, zlp, ↓zb1_at (hC.mem hS.1.1 _), hz, ↓ev_ifB, zBt, zBf, if_true, if_false, eq_self, Bool.false_eq_true, ↓ev_ifB, ↓ev_iflt, ↓ev_ifle, ↓ev_ifeq, ↓ifp, ↓ifn, ↓ev_b1, ↓ev_b2, ↓ev_put, ↓ev_z0, ↓ev_z1, ↓ev_zB, ↓ev_has9, ↓ev_has10, ↓ev_shl, ↓ev_bit, ↓ev_in, ↓ev_inG, ↓ev_rd, ↓ev_st, decide_eq_true_eq, nI_add, ev_sub, pk_mul, nI_or, nI_xor, zBt, zBf, if_true, if_false, eq_self, Bool.false_eq_true, ↓zb1_at hrd9]
        · simp (disch := (first | assumption | omega)) only [zf_X10_member, zlp, ↓zb1_at (hM.1.mem hS.1.1 _), hz, ↓ev_ifB, zBt, zBf, if_true, if_false, eq_self, Bool.false_eq_true, ↓ev_ifB, ↓ev_iflt, ↓ev_ifle, ↓ev_ifeq, ↓ifp, ↓ifn, ↓ev_b1, ↓ev_b2, ↓ev_put, ↓ev_z0, ↓ev_z1, ↓ev_zB, ↓ev_has9, ↓ev_has10, ↓ev_shl, ↓ev_bit, ↓ev_in, ↓ev_inG, ↓ev_rd, ↓ev_st, decide_eq_true_eq, nI_add, ev_sub, pk_mul, nI_or, nI_xor, zBt, zBf, if_true, if_false, eq_self, Bool.false_eq_true, ↓zb1_at hrd10]
      · refine ⟨nI (r (63 + i)), ?_, ?_⟩
        · simp (disch := (first | assumption | omega)) only [zf_X9_member, zlp, ↓zb1_at (hC.mem hS.1.1 _), hz, ↓ev_ifB, zBt, zBf, if_true, if_false, eq_self, Bool.false_eq_true, ↓ev_ifB, ↓ev_iflt, ↓ev_ifle, ↓ev_ifeq, ↓ifp, ↓ifn, ↓ev_b1, ↓ev_b2, ↓ev_put, ↓ev_z0, ↓ev_z1, ↓ev_zB, ↓ev_has9, ↓ev_has10, ↓ev_shl, ↓ev_bit, ↓ev_in, ↓ev_inG, ↓ev_rd, ↓ev_st, decide_eq_true_eq, nI_add, ev_sub, pk_mul, nI_or, nI_xor, zBt, zBf, if_true, if_false, eq_self, Bool.false_eq_true, m5]
        · simp (disch := (first | assumption | omega)) only [zf_X10_member, zlp, ↓zb1_at (hM.1.mem hS.1.1 _), hz, ↓ev_ifB, zBt, zBf, if_true, if_false, eq_self, Bool.false_eq_true, ↓rd78 hM.1, ↓ev_ifB, ↓ev_iflt, ↓ev_ifle, ↓ev_ifeq, ↓ifp, ↓ifn, ↓ev_b1, ↓ev_b2, ↓ev_put, ↓ev_z0, ↓ev_z1, ↓ev_zB, ↓ev_has9, ↓ev_has10, ↓ev_shl, ↓ev_bit, ↓ev_in, ↓ev_inG, ↓ev_rd, ↓ev_st, decide_eq_true_eq, nI_add, ev_sub, pk_mul, nI_or, nI_xor, zBt, zBf, if_true, if_false, eq_self, Bool.false_eq_true]
      · refine ⟨-nI 1, ?_, ?_⟩
        · simp (disch := (first | assumption | omega)) only [zf_X9_member, zlp, ↓zb1_at (hC.mem hS.1.1 _), hz, ↓ev_ifB, zBt, zBf, if_true, if_false, eq_self, Bool.false_eq_true, ↓ev_ifB, ↓ev_iflt, ↓ev_ifle, ↓ev_ifeq, ↓ifp, ↓ifn, ↓ev_b1, ↓ev_b2, ↓ev_put, ↓ev_z0, ↓ev_z1, ↓ev_zB, ↓ev_has9, ↓ev_has10, ↓ev_shl, ↓ev_bit, ↓ev_in, ↓ev_inG, ↓ev_rd, ↓ev_st, decide_eq_true_eq, nI_add, ev_sub, pk_mul, nI_or, nI_xor, zBt, zBf, if_true, if_false, eq_self, Bool.false_eq_true]
        · simp (disch := (first | assumption | omega)) only [zf_X10_member, zlp, ↓zb1_at (hM.1.mem hS.1.1 _), hz, ↓ev_ifB, zBt, zBf, if_true, if_false, eq_self, Bool.false_eq_true, ↓ev_ifB, ↓ev_iflt, ↓ev_ifle, ↓ev_ifeq, ↓ifp, ↓ifn, ↓ev_b1, ↓ev_b2, ↓ev_put, ↓ev_z0, ↓ev_z1, ↓ev_zB, ↓ev_has9, ↓ev_has10, ↓ev_shl, ↓ev_bit, ↓ev_in, ↓ev_inG, ↓ev_rd, ↓ev_st, decide_eq_true_eq, nI_add, ev_sub, pk_mul, nI_or, nI_xor, zBt, zBf, if_true, if_false, eq_self, Bool.false_eq_true]
/-- how many a CHANNEL reaches -/
def zthru (r : ZRow) (c : Nat) : Nat := zsum (fun i => ((r (45 + i)).testBit c).toNat) (r 0)
theorem thru9 {M : ZMem} {t nx u : Nat} {r : ZRow} {U : Nat → ZRow} {T : ZT} {L : ZL} (h : IC M t nx r u U T L) (hw : WF r) {c n : Nat} (hc : c < 10) (hn : 10 < n) : zf_X9_reachedThrough n (nI c) M = some (nI (zthru r c)) := by
  have hb := hw.b
  obtain ⟨a0, -⟩ := h.rd
  have hdy := fun (K : Nat → Option Int32) => h.1.dy (K := K)
  unfold zf_X9_reachedThrough
  refine zloop (fun n i (s : Nat) => zf_X9_reachedThrough_L4 M (nI c) (fun v => some v) n (nI s) (nI i)) (zsum (fun i => ((r (45 + i)).testBit c).toNat)) (some (nI (zthru r c))) (r 0) ?_ ?_ n 0 (Nat.zero_le _) (by omega)
  · intro n i hi
    have hm := (h.tm hi).2.2.2
    have := zreach_lt hw hi
    show zf_X9_reachedThrough_L4 M (nI c) _ (n + 1) (nI _) (nI i) = zf_X9_reachedThrough_L4 M (nI c) _ n (nI _) (nI (i + 1))
    simp (disch := (first | assumption | omega)) only [zf_X9_reachedThrough_L4, zf_X9_bitOf, zlp, ↓hdy, a0, ↓ev_ifB, ↓ev_iflt, ↓ev_ifle, ↓ev_ifeq, ↓ifp, ↓ifn, ↓ev_b1, ↓ev_b2, ↓ev_put, ↓ev_z0, ↓ev_z1, ↓ev_zB, ↓ev_has9, ↓ev_has10, ↓ev_shl, ↓ev_bit, ↓ev_in, ↓ev_inG, ↓ev_rd, ↓ev_st, decide_eq_true_eq, nI_add, ev_sub, pk_mul, nI_or, nI_xor, zBt, zBf, if_true, if_false, eq_self, Bool.false_eq_true, hm, zsum]
  · intro n
    show zf_X9_reachedThrough_L4 M (nI c) _ (n + 1) (nI _) (nI (r 0)) = _
    simp (disch := (first | assumption | omega)) only [zf_X9_reachedThrough_L4, zlp, ↓hdy, a0, ↓ev_ifB, ↓ev_iflt, ↓ev_ifle, ↓ev_ifeq, ↓ifp, ↓ifn, ↓ev_b1, ↓ev_b2, ↓ev_put, ↓ev_z0, ↓ev_z1, ↓ev_zB, ↓ev_has9, ↓ev_has10, ↓ev_shl, ↓ev_bit, ↓ev_in, ↓ev_inG, ↓ev_rd, ↓ev_st, decide_eq_true_eq, nI_add, ev_sub, pk_mul, nI_or, nI_xor, zBt, zBf, if_true, if_false, eq_self, Bool.false_eq_true, zthru]
theorem thru10 {M : ZMem} {r : ZRow} (h : IR M r) (hw : WF r) {c n : Nat} (hc : c < 10) (hn : 10 < n) : zf_X10_channel_L56 M (nI c) (fun v => some v) n (nI 0) (nI 0) = some (nI (zthru r c)) := by
  have hb := hw.b
  refine zloop (fun n i (s : Nat) => zf_X10_channel_L56 M (nI c) (fun v => some v) n (nI s) (nI i)) (zsum (fun i => ((r (45 + i)).testBit c).toNat)) (some (nI (zthru r c))) (r 0) ?_ ?_ n 0 (Nat.zero_le _) (by omega)
  · intro n i hi
    have := zreach_lt hw hi
    show zf_X10_channel_L56 M (nI c) _ (n + 1) (nI _) (nI i) = zf_X10_channel_L56 M (nI c) _ n (nI _) (nI (i + 1))
    simp (disch := (first | assumption | omega)) only [zf_X10_channel_L56, zlp, ↓rd78 h, ↓ev_ifB, ↓ev_iflt, ↓ev_ifle, ↓ev_ifeq, ↓ifp, ↓ifn, ↓ev_b1, ↓ev_b2, ↓ev_put, ↓ev_z0, ↓ev_z1, ↓ev_zB, ↓ev_has9, ↓ev_has10, ↓ev_shl, ↓ev_bit, ↓ev_in, ↓ev_inG, ↓ev_rd, ↓ev_st, decide_eq_true_eq, nI_add, ev_sub, pk_mul, nI_or, nI_xor, zBt, zBf, if_true, if_false, eq_self, Bool.false_eq_true, zsum]
  · intro n
    show zf_X10_channel_L56 M (nI c) _ (n + 1) (nI _) (nI (r 0)) = _
    simp (disch := (first | assumption | omega)) only [zf_X10_channel_L56, zlp, ↓rd78 h, ↓ev_ifB, ↓ev_iflt, ↓ev_ifle, ↓ev_ifeq, ↓ifp, ↓ifn, ↓ev_b1, ↓ev_b2, ↓ev_put, ↓ev_z0, ↓ev_z1, ↓ev_zB, ↓ev_has9, ↓ev_has10, ↓ev_shl, ↓ev_bit, ↓ev_in, ↓ev_inG, ↓ev_rd, ↓ev_st, decide_eq_true_eq, nI_add, ev_sub, pk_mul, nI_or, nI_xor, zBt, zBf, if_true, if_false, eq_self, Bool.false_eq_true, zthru]
theorem op_channel {n : Nat} (hn : 803 < n) {M : ZMem} (hI : INV M) (a b : Int32) : OPQ (zf_X9_channel n a b) (zf_X10_channel n a b) M := by
  obtain ⟨t, nx, r, u, U, T, L, hS, hC, hM⟩ := id hI
  have hb := hS.1.1.b
  obtain ⟨a0, a1, -⟩ := hC.rd
  have hdy := fun (K : Nat → Option Int32) => hC.1.dy (K := K)
  have hin := isInM a (show r 1 < 1073741824 by omega)
  cases hz : zmem (r 1) a with
  | false =>
    refine ⟨-nI 1, ?_, ?_⟩
    · rcases zmem_false hz with ha | ⟨k, hk, hk2, rfl⟩
      · simp (disch := (first | assumption | omega)) only [zf_X9_channel, zf_X9_channel_j15, zlp, ↓in1]
      · simp (disch := (first | assumption | omega)) only [zf_X9_channel, zf_X9_channel_j15, zlp, ↓ev_ifB, ↓ev_iflt, ↓ev_ifle, ↓ev_ifeq, ↓ifp, ↓ifn, ↓ev_b1, ↓ev_b2, ↓ev_put, ↓ev_z0, ↓ev_z1, ↓ev_zB, ↓ev_has9, ↓ev_has10, ↓ev_shl, ↓ev_bit, ↓ev_in, ↓ev_inG, ↓ev_rd, ↓ev_st, decide_eq_true_eq, nI_add, ev_sub, pk_mul, nI_or, nI_xor, zBt, zBf, if_true, if_false, eq_self, Bool.false_eq_true, ↓hdy, a1]
    · simp (disch := (first | assumption | omega)) only [zf_X10_channel, zf_X10_channel_j25, zlp, ↓rd78 hM.1, ↓zb1_at hin, hz, ↓ev_ifB, zBt, zBf, if_true, if_false, eq_self, Bool.false_eq_true]
  | true =>
    obtain ⟨c, hc, rfl⟩ := zmem_of hz
    obtain ⟨m1, m2⟩ := hC.tc hc
    have ht9 := thru9 (n := n) hC hS.1.1 (show c < 10 by omega) (by omega)
    have ht10 := thru10 (n := n) hM.1 hS.1.1 (show c < 10 by omega) (by omega)
    rcases zint b with hb' | ⟨k, hk, rfl⟩
    · refine ⟨-nI 1, ?_, ?_⟩
      · simp (disch := (first | assumption | omega)) only [zf_X9_channel, zf_X9_channel_j15, zlp, ↓ev_ifB, ↓ev_iflt, ↓ev_ifle, ↓ev_ifeq, ↓ifp, ↓ifn, ↓ev_b1, ↓ev_b2, ↓ev_put, ↓ev_z0, ↓ev_z1, ↓ev_zB, ↓ev_has9, ↓ev_has10, ↓ev_shl, ↓ev_bit, ↓ev_in, ↓ev_inG, ↓ev_rd, ↓ev_st, decide_eq_true_eq, nI_add, ev_sub, pk_mul, nI_or, nI_xor, zBt, zBf, if_true, if_false, eq_self, Bool.false_eq_true, ↓hdy, a1, ↓in2]
      · simp (disch := (first | assumption | omega)) only [zf_X10_channel, zf_X10_channel_j25, zlp, ↓rd78 hM.1, ↓zb1_at hin, hz, ↓ev_ifB, zBt, zBf, if_true, if_false, eq_self, Bool.false_eq_true, ↓ev_ifB, ↓ev_iflt, ↓ev_ifle, ↓ev_ifeq, ↓ifp, ↓ifn, ↓ev_b1, ↓ev_b2, ↓ev_put, ↓ev_z0, ↓ev_z1, ↓ev_zB, ↓ev_has9, ↓ev_has10, ↓ev_shl, ↓ev_bit, ↓ev_in, ↓ev_inG, ↓ev_rd, ↓ev_st, decide_eq_true_eq, nI_add, ev_sub, pk_mul, nI_or, nI_xor, zBt, zBf, if_true, if_false, eq_self, Bool.false_eq_true]
    · rcases (by omega : k = 0 ∨ k = 1 ∨ k = 2 ∨ 3 ≤ k) with rfl | rfl | rfl | hk
      · refine ⟨nI (r (55 + c)), ?_, ?_⟩
        · simp (disch := (first | assumption | omega)) only [zf_X9_channel, zf_X9_channel_j15, zlp, ↓ev_ifB, ↓ev_iflt, ↓ev_ifle, ↓ev_ifeq, ↓ifp, ↓ifn, ↓ev_b1, ↓ev_b2, ↓ev_put, ↓ev_z0, ↓ev_z1, ↓ev_zB, ↓ev_has9, ↓ev_has10, ↓ev_shl, ↓ev_bit, ↓ev_in, ↓ev_inG, ↓ev_rd, ↓ev_st, decide_eq_true_eq, nI_add, ev_sub, pk_mul, nI_or, nI_xor, zBt, zBf, if_true, if_false, eq_self, Bool.false_eq_true, ↓hdy, a1, m1]
        · simp (disch := (first | assumption | omega)) only [zf_X10_channel, zf_X10_channel_j25, zf_X10_channel_j47, zlp, ↓rd78 hM.1, ↓zb1_at hin, hz, ↓ev_ifB, zBt, zBf, if_true, if_false, eq_self, Bool.false_eq_true, ↓ev_ifB, ↓ev_iflt, ↓ev_ifle, ↓ev_ifeq, ↓ifp, ↓ifn, ↓ev_b1, ↓ev_b2, ↓ev_put, ↓ev_z0, ↓ev_z1, ↓ev_zB, ↓ev_has9, ↓ev_has10, ↓ev_shl, ↓ev_bit, ↓ev_in, ↓ev_inG, ↓ev_rd, ↓ev_st, decide_eq_true_eq, nI_add, ev_sub, pk_mul, nI_or, nI_xor, zBt, zBf, if_true, if_false, eq_self, Bool.false_eq_true]
      · refine ⟨nI (r (59 + c)), ?_, ?_⟩
        · simp (disch := (first | assumption | omega)) only [zf_X9_channel, zf_X9_channel_j15, zlp, ↓ev_ifB, ↓ev_iflt, ↓ev_ifle, ↓ev_ifeq, ↓ifp, ↓ifn, ↓ev_b1, ↓ev_b2, ↓ev_put, ↓ev_z0, ↓ev_z1, ↓ev_zB, ↓ev_has9, ↓ev_has10, ↓ev_shl, ↓ev_bit, ↓ev_in, ↓ev_inG, ↓ev_rd, ↓ev_st, decide_eq_true_eq, nI_add, ev_sub, pk_mul, nI_or, nI_xor, zBt, zBf, if_true, if_false, eq_self, Bool.false_eq_true, ↓hdy, a1, m2]
        · simp (disch := (first | assumption | omega)) only [zf_X10_channel, zf_X10_channel_j25, zf_X10_channel_j47, zlp, ↓rd78 hM.1, ↓zb1_at hin, hz, ↓ev_ifB, zBt, zBf, if_true, if_false, eq_self, Bool.false_eq_true, ↓ev_ifB, ↓ev_iflt, ↓ev_ifle, ↓ev_ifeq, ↓ifp, ↓ifn, ↓ev_b1, ↓ev_b2, ↓ev_put, ↓ev_z0, ↓ev_z1, ↓ev_zB, ↓ev_has9, ↓ev_has10, ↓ev_shl, ↓ev_bit, ↓ev_in, ↓ev_inG, ↓ev_rd, ↓ev_st, decide_eq_true_eq, nI_add, ev_sub, pk_mul, nI_or, nI_xor, zBt, zBf, if_true, if_false, eq_self, Bool.false_eq_true]
      · refine ⟨nI (zthru r c), ?_, ?_⟩
        · simp (disch := (first | assumption | omega)) only [zf_X9_channel, zf_X9_channel_j15, zlp, ↓ev_ifB, ↓ev_iflt, ↓ev_ifle, ↓ev_ifeq, ↓ifp, ↓ifn, ↓ev_b1, ↓ev_b2, ↓ev_put, ↓ev_z0, ↓ev_z1, ↓ev_zB, ↓ev_has9, ↓ev_has10, ↓ev_shl, ↓ev_bit, ↓ev_in, ↓ev_inG, ↓ev_rd, ↓ev_st, decide_eq_true_eq, nI_add, ev_sub, pk_mul, nI_or, nI_xor, zBt, zBf, if_true, if_false, eq_self, Bool.false_eq_true, ↓hdy, a1, ↓zb1_at ht9]
        · simp (disch := (first | assumption | omega)) only [zf_X10_channel, zf_X10_channel_j25, zf_X10_channel_j47, zlp, ↓rd78 hM.1, ↓zb1_at hin, hz, ↓ev_ifB, zBt, zBf, if_true, if_false, eq_self, Bool.false_eq_true, ↓ev_ifB, ↓ev_iflt, ↓ev_ifle, ↓ev_ifeq, ↓ifp, ↓ifn, ↓ev_b1, ↓ev_b2, ↓ev_put, ↓ev_z0, ↓ev_z1, ↓ev_zB, ↓ev_has9, ↓ev_has10, ↓ev_shl, ↓ev_bit, ↓ev_in, ↓ev_inG, ↓ev_rd, ↓ev_st, decide_eq_true_eq, nI_add, ev_sub, pk_mul, nI_or, nI_xor, zBt, zBf, if_true, if_false, eq_self, Bool.false_eq_true, ht10]
      · refine ⟨-nI 1, ?_, ?_⟩
        · simp (disch := (first | assumption | omega)) only [zf_X9_channel, zf_X9_channel_j15, zlp, ↓ev_ifB, ↓ev_iflt, ↓ev_ifle, ↓ev_ifeq, ↓ifp, ↓ifn, ↓ev_b1, ↓ev_b2, ↓ev_put, ↓ev_z0, ↓ev_z1, ↓ev_zB, ↓ev_has9, ↓ev_has10, ↓ev_shl, ↓ev_bit, ↓ev_in, ↓ev_inG, ↓ev_rd, ↓ev_st, decide_eq_true_eq, nI_add, ev_sub, pk_mul, nI_or, nI_xor, zBt, zBf, if_true, if_false, eq_self, Bool.false_eq_true, ↓hdy, a1]
        · simp (disch := (first | assumption | omega)) only [zf_X10_channel, zf_X10_channel_j25, zf_X10_channel_j47, zlp, ↓rd78 hM.1, ↓zb1_at hin, hz, ↓ev_ifB, zBt, zBf, if_true, if_false, eq_self, Bool.false_eq_true, ↓ev_ifB, ↓ev_iflt, ↓ev_ifle, ↓ev_ifeq, ↓ifp, ↓ifn, ↓ev_b1, ↓ev_b2, ↓ev_put, ↓ev_z0, ↓ev_z1, ↓ev_zB, ↓ev_has9, ↓ev_has10, ↓ev_shl, ↓ev_bit, ↓ev_in, ↓ev_inG, ↓ev_rd, ↓ev_st, decide_eq_true_eq, nI_add, ev_sub, pk_mul, nI_or, nI_xor, zBt, zBf, if_true, if_false, eq_self, Bool.false_eq_true]
theorem op_line {M : ZMem} (hI : INV M) (a b : Int32) : OPQ (zf_X9_line a b) (zf_X10_line a b) M := by
  obtain ⟨t, nx, r, u, U, T, L, hS, hC, hM⟩ := id hI
  have hL := hS.2.2.2
  have hL0 := hL.1
  obtain ⟨c1, c2⟩ := hC.2.2.2.2.2.2.1
  obtain ⟨d1, d2⟩ := hM.2.2.2
  have hdy := fun (K : Nat → Option Int32) => hC.1.dy (K := K)
  have hin := isInM a (show L.1 < 1073741824 by omega)
  cases hz : zmem L.1 a with
  | false =>
    refine ⟨-nI 1, ?_, ?_⟩
    · rcases zmem_false hz with ha | ⟨k, hk, hk2, rfl⟩
      · simp (disch := (first | assumption | omega)) only [zf_X9_line, zf_X9_line_j19, zlp, ↓in1]
      · simp (disch := (first | assumption | omega)) only [zf_X9_line, zf_X9_line_j19, zlp, ↓ev_ifB, ↓ev_iflt, ↓ev_ifle, ↓ev_ifeq, ↓ifp, ↓ifn, ↓ev_b1, ↓ev_b2, ↓ev_put, ↓ev_z0, ↓ev_z1, ↓ev_zB, ↓ev_has9, ↓ev_has10, ↓ev_shl, ↓ev_bit, ↓ev_in, ↓ev_inG, ↓ev_rd, ↓ev_st, decide_eq_true_eq, nI_add, ev_sub, pk_mul, nI_or, nI_xor, zBt, zBf, if_true, if_false, eq_self, Bool.false_eq_true, ↓hdy, c1]
    · simp (disch := (first | assumption | omega)) only [zf_X10_line, zf_X10_line_j18, zlp, d1, ↓zb1_at hin, hz, ↓ev_ifB, zBt, zBf, if_true, if_false, eq_self, Bool.false_eq_true]
  | true =>
    obtain ⟨k, hk, rfl⟩ := zmem_of hz
    obtain ⟨e1, e2, st, e3, e4, e5⟩ := c2 k hk
    obtain ⟨f1, f2, f3⟩ := d2 k hk
    obtain ⟨g1, g2, -⟩ := hL.2 k hk
    rcases zint b with hb' | ⟨w, hw, rfl⟩
    · refine ⟨-nI 1, ?_, ?_⟩
      · simp (disch := (first | assumption | omega)) only [zf_X9_line, zf_X9_line_j19, zlp, ↓ev_ifB, ↓ev_iflt, ↓ev_ifle, ↓ev_ifeq, ↓ifp, ↓ifn, ↓ev_b1, ↓ev_b2, ↓ev_put, ↓ev_z0, ↓ev_z1, ↓ev_zB, ↓ev_has9, ↓ev_has10, ↓ev_shl, ↓ev_bit, ↓ev_in, ↓ev_inG, ↓ev_rd, ↓ev_st, decide_eq_true_eq, nI_add, ev_sub, pk_mul, nI_or, nI_xor, zBt, zBf, if_true, if_false, eq_self, Bool.false_eq_true, ↓hdy, c1, ↓in0]
      · simp (disch := (first | assumption | omega)) only [zf_X10_line, zf_X10_line_j18, zlp, d1, ↓zb1_at hin, hz, ↓ev_ifB, zBt, zBf, if_true, if_false, eq_self, Bool.false_eq_true, ↓ev_ifB, ↓ev_iflt, ↓ev_ifle, ↓ev_ifeq, ↓ifp, ↓ifn, ↓ev_b1, ↓ev_b2, ↓ev_put, ↓ev_z0, ↓ev_z1, ↓ev_zB, ↓ev_has9, ↓ev_has10, ↓ev_shl, ↓ev_bit, ↓ev_in, ↓ev_inG, ↓ev_rd, ↓ev_st, decide_eq_true_eq, nI_add, ev_sub, pk_mul, nI_or, nI_xor, zBt, zBf, if_true, if_false, eq_self, Bool.false_eq_true, ↓in0]
    · by_cases h0 : w = 0
      · subst h0
        refine ⟨nI (L.2.1 k), ?_, ?_⟩
        · simp (disch := (first | assumption | omega)) only [zf_X9_line, zf_X9_line_j19, zlp, ↓ev_ifB, ↓ev_iflt, ↓ev_ifle, ↓ev_ifeq, ↓ifp, ↓ifn, ↓ev_b1, ↓ev_b2, ↓ev_put, ↓ev_z0, ↓ev_z1, ↓ev_zB, ↓ev_has9, ↓ev_has10, ↓ev_shl, ↓ev_bit, ↓ev_in, ↓ev_inG, ↓ev_rd, ↓ev_st, decide_eq_true_eq, nI_add, ev_sub, pk_mul, nI_or, nI_xor, zBt, zBf, if_true, if_false, eq_self, Bool.false_eq_true, ↓hdy, c1, e1]
        · simp (disch := (first | assumption | omega)) only [zf_X10_line, zf_X10_line_j18, zlp, d1, ↓zb1_at hin, hz, ↓ev_ifB, zBt, zBf, if_true, if_false, eq_self, Bool.false_eq_true, ↓ev_ifB, ↓ev_iflt, ↓ev_ifle, ↓ev_ifeq, ↓ifp, ↓ifn, ↓ev_b1, ↓ev_b2, ↓ev_put, ↓ev_z0, ↓ev_z1, ↓ev_zB, ↓ev_has9, ↓ev_has10, ↓ev_shl, ↓ev_bit, ↓ev_in, ↓ev_inG, ↓ev_rd, ↓ev_st, decide_eq_true_eq, nI_add, ev_sub, pk_mul, nI_or, nI_xor, zBt, zBf, if_true, if_false, eq_self, Bool.false_eq_true, f1]
      · by_cases h1 : w ≤ L.2.2.1 k
        · refine ⟨nI (L.2.2.2 k (w - 1)), ?_, ?_⟩
          · have e6 := e5 (w - 1) (by omega)
            rw [show st + (w - 1) = st + w - 1 by omega] at e6
            simp (disch := (first | assumption | omega)) only [zf_X9_line, zf_X9_line_j19, zlp, ↓ev_ifB, ↓ev_iflt, ↓ev_ifle, ↓ev_ifeq, ↓ifp, ↓ifn, ↓ev_b1, ↓ev_b2, ↓ev_put, ↓ev_z0, ↓ev_z1, ↓ev_zB, ↓ev_has9, ↓ev_has10, ↓ev_shl, ↓ev_bit, ↓ev_in, ↓ev_inG, ↓ev_rd, ↓ev_st, decide_eq_true_eq, nI_add, ev_sub, pk_mul, nI_or, nI_xor, zBt, zBf, if_true, if_false, eq_self, Bool.false_eq_true, ↓hdy, c1, e1, e2, e3, e6]
          · have f6 := f3 (w - 1) (by omega)
            rw [show 8 * k + (w - 1) = 8 * k + w - 1 by omega] at f6
            simp (disch := (first | assumption | omega)) only [zf_X10_line, zf_X10_line_j18, zf_X10_line_j59, zlp, d1, ↓zb1_at hin, hz, ↓ev_ifB, zBt, zBf, if_true, if_false, eq_self, Bool.false_eq_true, ↓ev_ifB, ↓ev_iflt, ↓ev_ifle, ↓ev_ifeq, ↓ifp, ↓ifn, ↓ev_b1, ↓ev_b2, ↓ev_put, ↓ev_z0, ↓ev_z1, ↓ev_zB, ↓ev_has9, ↓ev_has10, ↓ev_shl, ↓ev_bit, ↓ev_in, ↓ev_inG, ↓ev_rd, ↓ev_st, decide_eq_true_eq, nI_add, ev_sub, pk_mul, nI_or, nI_xor, zBt, zBf, if_true, if_false, eq_self, Bool.false_eq_true, f1, f2, f6]
        · refine ⟨-nI 2, ?_, ?_⟩
          · simp (disch := (first | assumption | omega)) only [zf_X9_line, zf_X9_line_j19, zlp, ↓ev_ifB, ↓ev_iflt, ↓ev_ifle, ↓ev_ifeq, ↓ifp, ↓ifn, ↓ev_b1, ↓ev_b2, ↓ev_put, ↓ev_z0, ↓ev_z1, ↓ev_zB, ↓ev_has9, ↓ev_has10, ↓ev_shl, ↓ev_bit, ↓ev_in, ↓ev_inG, ↓ev_rd, ↓ev_st, decide_eq_true_eq, nI_add, ev_sub, pk_mul, nI_or, nI_xor, zBt, zBf, if_true, if_false, eq_self, Bool.false_eq_true, ↓hdy, c1, e1, e2, e3]
          · simp (disch := (first | assumption | omega)) only [zf_X10_line, zf_X10_line_j18, zf_X10_line_j59, zlp, d1, ↓zb1_at hin, hz, ↓ev_ifB, zBt, zBf, if_true, if_false, eq_self, Bool.false_eq_true, ↓ev_ifB, ↓ev_iflt, ↓ev_ifle, ↓ev_ifeq, ↓ifp, ↓ifn, ↓ev_b1, ↓ev_b2, ↓ev_put, ↓ev_z0, ↓ev_z1, ↓ev_zB, ↓ev_has9, ↓ev_has10, ↓ev_shl, ↓ev_bit, ↓ev_in, ↓ev_inG, ↓ev_rd, ↓ev_st, decide_eq_true_eq, nI_add, ev_sub, pk_mul, nI_or, nI_xor, zBt, zBf, if_true, if_false, eq_self, Bool.false_eq_true, f1, f2]
