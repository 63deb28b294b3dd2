/-! LAYER 2: the ACTS, one by one (2) -/
theorem op_file {n : Nat} (hn : 803 < n) {M : ZMem} (hI : INV M) (a : Int32) : OPW (zf_X9_file n a) (zf_X10_file n a) M := by
  obtain ⟨t, nx, r, u, U, T, L, hS, hC, hM⟩ := id hI
  have hb := hS.1.1.b
  obtain ⟨a0, a1, a2, a3, a4, a5, a6, a7, a8, a9, a10, a11, a12, -⟩ := hC.rd
  have hR := hC.remember
  have h12 := hC.r12
  cases hz : zmem (r 0) a with
  | false =>
    refine OPW.same (-nI 1) ?_ ?_ hI
    · simp (disch := (first | assumption | omega)) only [zf_X9_file, zf_X9_file_j44, zlp, ↓zb1_at (hC.mem hS.1.1 a), hz, ↓ev_ifB, zBt, zBf, if_true, if_false, eq_self, Bool.false_eq_true]
    · simp (disch := (first | assumption | omega)) only [zf_X10_file, zf_X10_file_j44, zlp, ↓zb1_at (hM.1.mem hS.1.1 a), hz, ↓ev_ifB, zBt, zBf, if_true, if_false, eq_self, Bool.false_eq_true]
  | true =>
    obtain ⟨k, hk, rfl⟩ := zmem_of hz
    have hr9 := isReached9 (n := n) hC hS.1 hk (by omega)
    have hr10 := fun M1 (h : IM M1 r u U T L) => isReached10 (n := n) h.1 hS.1 hk (by omega)
    have hlt : r 13 ||| 2 ^ k < 2 ^ r 0 := Nat.or_lt_two_pow hS.1.1.2.2.2.2.2.2.2.2.2.2.2.2.2.1 (zpow_lt hk)
    by_cases g1 : (r 12).testBit k = true
    · refine OPW.same (-nI 1) ?_ ?_ hI
      · simp (disch := (first | assumption | omega)) only [zf_X9_file, zf_X9_file_j44, zlp, ↓zb1_at (hC.mem hS.1.1 _), hz, ↓ev_ifB, zBt, zBf, if_true, if_false, eq_self, Bool.false_eq_true, a8, ↓ev_ifB, ↓ev_iflt, ↓ev_ifle, ↓ev_ifeq, ↓ifp, ↓ifn, ↓ev_b1, ↓ev_b2, ↓ev_put, ↓ev_z0, ↓ev_z1, ↓ev_zB, ↓ev_has9, ↓ev_has10, ↓ev_shl, ↓ev_bit, ↓ev_in, ↓ev_inG, ↓ev_rd, ↓ev_st, decide_eq_true_eq, nI_add, ev_sub, pk_mul, nI_or, nI_xor, zBt, zBf, if_true, if_false, eq_self, Bool.false_eq_true]
      · simp (disch := (first | assumption | omega)) only [zf_X10_file, zf_X10_file_j44, zlp, ↓zb1_at (hM.1.mem hS.1.1 _), hz, ↓ev_ifB, zBt, zBf, if_true, if_false, eq_self, Bool.false_eq_true, ↓rd78 hM.1, ↓ev_ifB, ↓ev_iflt, ↓ev_ifle, ↓ev_ifeq, ↓ifp, ↓ifn, ↓ev_b1, ↓ev_b2, ↓ev_put, ↓ev_z0, ↓ev_z1, ↓ev_zB, ↓ev_has9, ↓ev_has10, ↓ev_shl, ↓ev_bit, ↓ev_in, ↓ev_inG, ↓ev_rd, ↓ev_st, decide_eq_true_eq, nI_add, ev_sub, pk_mul, nI_or, nI_xor, zBt, zBf, if_true, if_false, eq_self, Bool.false_eq_true]
    · by_cases g2 : (r 13).testBit k = true
      · refine OPW.same (-nI 1) ?_ ?_ hI
        · simp (disch := (first | assumption | omega)) only [zf_X9_file, zf_X9_file_j44, zlp, ↓zb1_at (hC.mem hS.1.1 _), hz, ↓ev_ifB, zBt, zBf, if_true, if_false, eq_self, Bool.false_eq_true, a8, a9, ↓ev_ifB, ↓ev_iflt, ↓ev_ifle, ↓ev_ifeq, ↓ifp, ↓ifn, ↓ev_b1, ↓ev_b2, ↓ev_put, ↓ev_z0, ↓ev_z1, ↓ev_zB, ↓ev_has9, ↓ev_has10, ↓ev_shl, ↓ev_bit, ↓ev_in, ↓ev_inG, ↓ev_rd, ↓ev_st, decide_eq_true_eq, nI_add, ev_sub, pk_mul, nI_or, nI_xor, zBt, zBf, if_true, if_false, eq_self, Bool.false_eq_true]
        · simp (disch := (first | assumption | omega)) only [zf_X10_file, zf_X10_file_j44, zlp, ↓zb1_at (hM.1.mem hS.1.1 _), hz, ↓ev_ifB, zBt, zBf, if_true, if_false, eq_self, Bool.false_eq_true, ↓rd78 hM.1, ↓ev_ifB, ↓ev_iflt, ↓ev_ifle, ↓ev_ifeq, ↓ifp, ↓ifn, ↓ev_b1, ↓ev_b2, ↓ev_put, ↓ev_z0, ↓ev_z1, ↓ev_zB, ↓ev_has9, ↓ev_has10, ↓ev_shl, ↓ev_bit, ↓ev_in, ↓ev_inG, ↓ev_rd, ↓ev_st, decide_eq_true_eq, nI_add, ev_sub, pk_mul, nI_or, nI_xor, zBt, zBf, if_true, if_false, eq_self, Bool.false_eq_true]
      · by_cases g3 : zrch r k = true
        · refine OPW.put hS hC hM 5 13 (r 13 ||| 2 ^ k) (by omega) (nI (zbc (r 13 ||| 2 ^ k))) ?_ (fun M1 hM1 => ?_)
          · simp (disch := (first | assumption | omega)) only [zf_X9_file, zf_X9_file_j44, zlp, ↓zb1_at (hC.mem hS.1.1 _), hz, ↓ev_ifB, zBt, zBf, if_true, if_false, eq_self, Bool.false_eq_true, a8, a9, ↓ev_ifB, ↓ev_iflt, ↓ev_ifle, ↓ev_ifeq, ↓ifp, ↓ifn, ↓ev_b1, ↓ev_b2, ↓ev_put, ↓ev_z0, ↓ev_z1, ↓ev_zB, ↓ev_has9, ↓ev_has10, ↓ev_shl, ↓ev_bit, ↓ev_in, ↓ev_inG, ↓ev_rd, ↓ev_st, decide_eq_true_eq, nI_add, ev_sub, pk_mul, nI_or, nI_xor, zBt, zBf, if_true, if_false, eq_self, Bool.false_eq_true, ↓zb1_at hr9, hR, h12, wre, bitCount9]
          · simp (disch := (first | assumption | omega)) only [zf_X10_file, zf_X10_file_j44, zlp, ↓zb1_at (hM1.1.mem hS.1.1 _), hz, ↓ev_ifB, zBt, zBf, if_true, if_false, eq_self, Bool.false_eq_true, ↓rd78 hM1.1, ↓ev_ifB, ↓ev_iflt, ↓ev_ifle, ↓ev_ifeq, ↓ifp, ↓ifn, ↓ev_b1, ↓ev_b2, ↓ev_put, ↓ev_z0, ↓ev_z1, ↓ev_zB, ↓ev_has9, ↓ev_has10, ↓ev_shl, ↓ev_bit, ↓ev_in, ↓ev_inG, ↓ev_rd, ↓ev_st, decide_eq_true_eq, nI_add, ev_sub, pk_mul, nI_or, nI_xor, zBt, zBf, if_true, if_false, eq_self, Bool.false_eq_true, ↓zb1_at (hr10 M1 hM1), hM1.put hn, wre, bits10]
        · refine OPW.same (-nI 1) ?_ ?_ hI
          · simp (disch := (first | assumption | omega)) only [zf_X9_file, zf_X9_file_j44, zlp, ↓zb1_at (hC.mem hS.1.1 _), hz, ↓ev_ifB, zBt, zBf, if_true, if_false, eq_self, Bool.false_eq_true, a8, a9, ↓ev_ifB, ↓ev_iflt, ↓ev_ifle, ↓ev_ifeq, ↓ifp, ↓ifn, ↓ev_b1, ↓ev_b2, ↓ev_put, ↓ev_z0, ↓ev_z1, ↓ev_zB, ↓ev_has9, ↓ev_has10, ↓ev_shl, ↓ev_bit, ↓ev_in, ↓ev_inG, ↓ev_rd, ↓ev_st, decide_eq_true_eq, nI_add, ev_sub, pk_mul, nI_or, nI_xor, zBt, zBf, if_true, if_false, eq_self, Bool.false_eq_true, ↓zb1_at hr9]
          · simp (disch := (first | assumption | omega)) only [zf_X10_file, zf_X10_file_j44, zlp, ↓zb1_at (hM.1.mem hS.1.1 _), hz, ↓ev_ifB, zBt, zBf, if_true, if_false, eq_self, Bool.false_eq_true, ↓rd78 hM.1, ↓ev_ifB, ↓ev_iflt, ↓ev_ifle, ↓ev_ifeq, ↓ifp, ↓ifn, ↓ev_b1, ↓ev_b2, ↓ev_put, ↓ev_z0, ↓ev_z1, ↓ev_zB, ↓ev_has9, ↓ev_has10, ↓ev_shl, ↓ev_bit, ↓ev_in, ↓ev_inG, ↓ev_rd, ↓ev_st, decide_eq_true_eq, nI_add, ev_sub, pk_mul, nI_or, nI_xor, zBt, zBf, if_true, if_false, eq_self, Bool.false_eq_true, ↓zb1_at (hr10 M hM)]
theorem op_lazy {n : Nat} (hn : 803 < n) {M : ZMem} (hI : INV M) (a : Int32) (b : Bool) : OPW (zf_X9_lazy a (zB b)) (zf_X10_lazy n a (zB b)) M := by
  obtain ⟨t, nx, r, u, U, T, L, hS, hC, hM⟩ := id hI
  have hb := hS.1.1.b
  obtain ⟨a0, a1, a2, a3, a4, a5, a6, a7, a8, a9, a10, a11, a12, -⟩ := hC.rd
  have hR := hC.remember
  have h12 := hC.r12
  cases hz : zmem (r 0) a with
  | false =>
    refine OPW.same (nI 0) ?_ ?_ hI
    · simp (disch := (first | assumption | omega)) only [zf_X9_lazy, zf_X9_lazy_j23, zlp, ↓zb1_at (hC.mem hS.1.1 a), hz, ↓ev_ifB, zBt, zBf, if_true, if_false, eq_self, Bool.false_eq_true]
    · simp (disch := (first | assumption | omega)) only [zf_X10_lazy, zf_X10_lazy_j23, zlp, ↓zb1_at (hM.1.mem hS.1.1 a), hz, ↓ev_ifB, zBt, zBf, if_true, if_false, eq_self, Bool.false_eq_true]
  | true =>
    obtain ⟨k, hk, rfl⟩ := zmem_of hz
    have hlt : r 14 ^^^ 2 ^ k < 2 ^ r 0 := Nat.xor_lt_two_pow hS.1.1.2.2.2.2.2.2.2.2.2.2.2.2.2.2.1 (zpow_lt hk)
    by_cases g1 : (r 14).testBit k = b
    · refine OPW.same (nI 0) ?_ ?_ hI
      · simp (disch := (first | assumption | omega)) only [zf_X9_lazy, zf_X9_lazy_j23, zlp, ↓zb1_at (hC.mem hS.1.1 _), hz, ↓ev_ifB, zBt, zBf, if_true, if_false, eq_self, Bool.false_eq_true, a10, ↓ev_ifB, ↓ev_iflt, ↓ev_ifle, ↓ev_ifeq, ↓ifp, ↓ifn, ↓ev_b1, ↓ev_b2, ↓ev_put, ↓ev_z0, ↓ev_z1, ↓ev_zB, ↓ev_has9, ↓ev_has10, ↓ev_shl, ↓ev_bit, ↓ev_in, ↓ev_inG, ↓ev_rd, ↓ev_st, decide_eq_true_eq, nI_add, ev_sub, pk_mul, nI_or, nI_xor, zBt, zBf, if_true, if_false, eq_self, Bool.false_eq_true, ↓ev_ifBB]
      · simp (disch := (first | assumption | omega)) only [zf_X10_lazy, zf_X10_lazy_j23, zlp, ↓zb1_at (hM.1.mem hS.1.1 _), hz, ↓ev_ifB, zBt, zBf, if_true, if_false, eq_self, Bool.false_eq_true, ↓rd78 hM.1, ↓ev_ifB, ↓ev_iflt, ↓ev_ifle, ↓ev_ifeq, ↓ifp, ↓ifn, ↓ev_b1, ↓ev_b2, ↓ev_put, ↓ev_z0, ↓ev_z1, ↓ev_zB, ↓ev_has9, ↓ev_has10, ↓ev_shl, ↓ev_bit, ↓ev_in, ↓ev_inG, ↓ev_rd, ↓ev_st, decide_eq_true_eq, nI_add, ev_sub, pk_mul, nI_or, nI_xor, zBt, zBf, if_true, if_false, eq_self, Bool.false_eq_true, ↓ev_ifBB]
    · refine OPW.put hS hC hM 6 14 (r 14 ^^^ 2 ^ k) (by omega) (nI 1) ?_ (fun M1 hM1 => ?_)
      · simp (disch := (first | assumption | omega)) only [zf_X9_lazy, zf_X9_lazy_j23, zlp, ↓zb1_at (hC.mem hS.1.1 _), hz, ↓ev_ifB, zBt, zBf, if_true, if_false, eq_self, Bool.false_eq_true, a10, ↓ev_ifB, ↓ev_iflt, ↓ev_ifle, ↓ev_ifeq, ↓ifp, ↓ifn, ↓ev_b1, ↓ev_b2, ↓ev_put, ↓ev_z0, ↓ev_z1, ↓ev_zB, ↓ev_has9, ↓ev_has10, ↓ev_shl, ↓ev_bit, ↓ev_in, ↓ev_inG, ↓ev_rd, ↓ev_st, decide_eq_true_eq, nI_add, ev_sub, pk_mul, nI_or, nI_xor, zBt, zBf, if_true, if_false, eq_self, Bool.false_eq_true, ↓ev_ifBB, hR, h12]
      · simp (disch := (first | assumption | omega)) only [zf_X10_lazy, zf_X10_lazy_j23, zlp, ↓zb1_at (hM1.1.mem hS.1.1 _), hz, ↓ev_ifB, zBt, zBf, if_true, if_false, eq_self, Bool.false_eq_true, ↓rd78 hM1.1, ↓ev_ifB, ↓ev_iflt, ↓ev_ifle, ↓ev_ifeq, ↓ifp, ↓ifn, ↓ev_b1, ↓ev_b2, ↓ev_put, ↓ev_z0, ↓ev_z1, ↓ev_zB, ↓ev_has9, ↓ev_has10, ↓ev_shl, ↓ev_bit, ↓ev_in, ↓ev_inG, ↓ev_rd, ↓ev_st, decide_eq_true_eq, nI_add, ev_sub, pk_mul, nI_or, nI_xor, zBt, zBf, if_true, if_false, eq_self, Bool.false_eq_true, ↓ev_ifBB, hM1.put hn]
theorem zordI_of {c : Nat} {a : Int32} (h : zordI c a = true) (hc : c < 5) : ∃ o, o < 256 ∧ a = nI o ∧ zord c o = true := by
  unfold zordI at h
  rw [Bool.and_eq_true, decide_eq_true_eq] at h
  obtain ⟨o, ho, rfl⟩ := nI_of h.1
  rw [nI_clamp ho] at h
  have h2 := h.2
  unfold zord at h2
  rw [Bool.and_eq_true, decide_eq_true_eq] at h2
  have := (z4 c hc).1
  exact ⟨o, by omega, rfl, h.2⟩
theorem IC.ord {M : ZMem} {t nx u n : Nat} {r : ZRow} {U : Nat → ZRow} {T : ZT} {L : ZL} (h : IC M t nx r u U T L) (hw : WF r) (hn : 4 < n) (a : Int32) : zf_X1_isOrder n t a M = some (zB (zordI (r 1) a)) := by
  have hb := hw.b
  rw [isOrder1 h.2.2.1.2.1 (by omega) hn, zB_if]
theorem IR.ord {M : ZMem} {n : Nat} {r : ZRow} (h : IR M r) (hw : WF r) (hn : 4 < n) (a : Int32) : zf_X10_isOrder n a M = some (zB (zordI (r 1) a)) := by
  have hb := hw.b
  rw [isOrder10 (h 1 (by omega)) (by omega) hn, zB_if]
theorem zcostN_0 {r : ZRow} (h : r 11 = 0) : zcostN r = 0 := if_pos h
theorem op_order {n : Nat} (hn : 803 < n) {M : ZMem} (hI : INV M) (a : Int32) : OPW (zf_X9_order n a) (zf_X10_order n a) M := by
  obtain ⟨t, nx, r, u, U, T, L, hS, hC, hM⟩ := id hI
  have hb := hS.1.1.b
  obtain ⟨a0, a1, a2, a3, a4, a5, a6, a7, a8, a9, a10, a11, a12, -⟩ := hC.rd
  have hR := hC.remember
  have h12 := hC.r12
  have hdy := fun (K : Nat → Option (Int32 × ZMem)) => hC.1.dy (K := K)
  have ho9 := hC.ord (n := n) hS.1.1 (by omega) a
  have ho10 := fun M1 (h : IM M1 r u U T L) => h.1.ord (n := n) hS.1.1 (by omega) a
  have hs9 := isSent9 hC hS.1.1
  cases hz : zordI (r 1) a with
  | false =>
    refine OPW.same (-nI 1) ?_ ?_ hI
    · simp (disch := (first | assumption | omega)) only [zf_X9_order, zf_X9_order_j32, zlp, ↓hdy, ↓zb1_at ho9, hz, ↓ev_ifB, zBt, zBf, if_true, if_false, eq_self, Bool.false_eq_true]
    · simp (disch := (first | assumption | omega)) only [zf_X10_order, zf_X10_order_j29, zlp, ↓zb1_at (ho10 M hM), hz, ↓ev_ifB, zBt, zBf, if_true, if_false, eq_self, Bool.false_eq_true]
  | true =>
    obtain ⟨o, ho, rfl, hzo⟩ := zordI_of hz (by omega)
    by_cases g1 : o = r 10
    · refine OPW.same (-nI 1) ?_ ?_ hI
      · simp (disch := (first | assumption | omega)) only [zf_X9_order, zf_X9_order_j32, zlp, ↓hdy, ↓zb1_at ho9, hz, ↓ev_ifB, zBt, zBf, if_true, if_false, eq_self, Bool.false_eq_true, a6, ↓ev_ifB, ↓ev_iflt, ↓ev_ifle, ↓ev_ifeq, ↓ifp, ↓ifn, ↓ev_b1, ↓ev_b2, ↓ev_put, ↓ev_z0, ↓ev_z1, ↓ev_zB, ↓ev_has9, ↓ev_has10, ↓ev_shl, ↓ev_bit, ↓ev_in, ↓ev_inG, ↓ev_rd, ↓ev_st, decide_eq_true_eq, nI_add, ev_sub, pk_mul, nI_or, nI_xor, zBt, zBf, if_true, if_false, eq_self, Bool.false_eq_true]
      · simp (disch := (first | assumption | omega)) only [zf_X10_order, zf_X10_order_j29, zlp, ↓zb1_at (ho10 M hM), hz, ↓ev_ifB, zBt, zBf, if_true, if_false, eq_self, Bool.false_eq_true, ↓rd78 hM.1, ↓ev_ifB, ↓ev_iflt, ↓ev_ifle, ↓ev_ifeq, ↓ifp, ↓ifn, ↓ev_b1, ↓ev_b2, ↓ev_put, ↓ev_z0, ↓ev_z1, ↓ev_zB, ↓ev_has9, ↓ev_has10, ↓ev_shl, ↓ev_bit, ↓ev_in, ↓ev_inG, ↓ev_rd, ↓ev_st, decide_eq_true_eq, nI_add, ev_sub, pk_mul, nI_or, nI_xor, zBt, zBf, if_true, if_false, eq_self, Bool.false_eq_true]
    · by_cases g2 : r 11 = 0
      · refine OPW.act (r' := zat r 10 o) (v := nI (r 10)) hS hC hM ⟨hS.1.1.put 10 o (by omega), by rw [zat_ne (by omega), zat_eq]; exact hzo⟩ (TA.at r _ (by unfold zto; omega)) (M1 := zwr (zrem9 M nx u) 12 1 (nI o)) ?_ act_ne ?_ (fun M1 hM1 => ⟨zwr (zrem10 M1 u) 78 10 (nI o), ?_, put_ne, hM1.1.put (by omega)⟩)
        · simp (disch := (first | assumption | omega)) only [zf_X9_order, zf_X9_order_j32, zlp, ↓hdy, ↓zb1_at ho9, hz, ↓ev_ifB, zBt, zBf, if_true, if_false, eq_self, Bool.false_eq_true, a6, ↓ev_ifB, ↓ev_iflt, ↓ev_ifle, ↓ev_ifeq, ↓ifp, ↓ifn, ↓ev_b1, ↓ev_b2, ↓ev_put, ↓ev_z0, ↓ev_z1, ↓ev_zB, ↓ev_has9, ↓ev_has10, ↓ev_shl, ↓ev_bit, ↓ev_in, ↓ev_inG, ↓ev_rd, ↓ev_st, decide_eq_true_eq, nI_add, ev_sub, pk_mul, nI_or, nI_xor, zBt, zBf, if_true, if_false, eq_self, Bool.false_eq_true, ↓zb1_at hs9, hR, h12]
        · have hs := hC.2.2.2.1.rem (u := u) hC.2.2.2.2.1.2.1
          refine ⟨hs.1.put 1 10 o (by omega), ?_⟩
          rw [wrj (by omega), hs.2, zcostN_0 g2, zcostN_0 (by rw [zat_ne (by omega)]; exact g2)]
        · simp (disch := (first | assumption | omega)) only [zf_X10_order, zf_X10_order_j29, zlp, ↓zb1_at (ho10 M1 hM1), hz, ↓ev_ifB, zBt, zBf, if_true, if_false, eq_self, Bool.false_eq_true, ↓rd78 hM1.1, ↓rd11 hM1.1, ↓ev_ifB, ↓ev_iflt, ↓ev_ifle, ↓ev_ifeq, ↓ifp, ↓ifn, ↓ev_b1, ↓ev_b2, ↓ev_put, ↓ev_z0, ↓ev_z1, ↓ev_zB, ↓ev_has9, ↓ev_has10, ↓ev_shl, ↓ev_bit, ↓ev_in, ↓ev_inG, ↓ev_rd, ↓ev_st, decide_eq_true_eq, nI_add, ev_sub, pk_mul, nI_or, nI_xor, zBt, zBf, if_true, if_false, eq_self, Bool.false_eq_true, ↓snt_lt, hM1.put hn, rI_ne]
      · refine OPW.same (-nI 1) ?_ ?_ hI
        · simp (disch := (first | assumption | omega)) only [zf_X9_order, zf_X9_order_j32, zlp, ↓hdy, ↓zb1_at ho9, hz, ↓ev_ifB, zBt, zBf, if_true, if_false, eq_self, Bool.false_eq_true, a6, ↓ev_ifB, ↓ev_iflt, ↓ev_ifle, ↓ev_ifeq, ↓ifp, ↓ifn, ↓ev_b1, ↓ev_b2, ↓ev_put, ↓ev_z0, ↓ev_z1, ↓ev_zB, ↓ev_has9, ↓ev_has10, ↓ev_shl, ↓ev_bit, ↓ev_in, ↓ev_inG, ↓ev_rd, ↓ev_st, decide_eq_true_eq, nI_add, ev_sub, pk_mul, nI_or, nI_xor, zBt, zBf, if_true, if_false, eq_self, Bool.false_eq_true, ↓zb1_at hs9]
        · simp (disch := (first | assumption | omega)) only [zf_X10_order, zf_X10_order_j29, zlp, ↓zb1_at (ho10 M hM), hz, ↓ev_ifB, zBt, zBf, if_true, if_false, eq_self, Bool.false_eq_true, ↓rd78 hM.1, ↓rd11 hM.1, ↓ev_ifB, ↓ev_iflt, ↓ev_ifle, ↓ev_ifeq, ↓ifp, ↓ifn, ↓ev_b1, ↓ev_b2, ↓ev_put, ↓ev_z0, ↓ev_z1, ↓ev_zB, ↓ev_has9, ↓ev_has10, ↓ev_shl, ↓ev_bit, ↓ev_in, ↓ev_inG, ↓ev_rd, ↓ev_st, decide_eq_true_eq, nI_add, ev_sub, pk_mul, nI_or, nI_xor, zBt, zBf, if_true, if_false, eq_self, Bool.false_eq_true, ↓snt_lt]
theorem costs10 {M : ZMem} {r : ZRow} (h : IR M r) (hg : GD r) {n : Nat} (hn : 10 < n) : zf_X10_costs n M = some (nI (zcostN r)) := by
  have hb := hg.1.b
  have hc := costsFor10 (n := n) h hg.1 (show r 10 < 256 by omega) hg.2 hn
  unfold zcostN
  by_cases g : r 11 = 0
  · rw [if_pos g]
    simp (disch := (first | assumption | omega)) only [zf_X10_costs, zf_X10_costs_j25, zlp, ↓rd11 h, ↓snt_ge, ↓ev_ifB, ↓ev_iflt, ↓ev_ifle, ↓ev_ifeq, ↓ifp, ↓ifn, ↓ev_b1, ↓ev_b2, ↓ev_put, ↓ev_z0, ↓ev_z1, ↓ev_zB, ↓ev_has9, ↓ev_has10, ↓ev_shl, ↓ev_bit, ↓ev_in, ↓ev_inG, ↓ev_rd, ↓ev_st, decide_eq_true_eq, nI_add, ev_sub, pk_mul, nI_or, nI_xor, zBt, zBf, if_true, if_false, eq_self, Bool.false_eq_true]
  · rw [if_neg g]
    simp (disch := (first | assumption | omega)) only [zf_X10_costs, zf_X10_costs_j25, zlp, ↓rd11 h, ↓snt_ge, ↓rd78 h, ↓ev_ifB, ↓ev_iflt, ↓ev_ifle, ↓ev_ifeq, ↓ifp, ↓ifn, ↓ev_b1, ↓ev_b2, ↓ev_put, ↓ev_z0, ↓ev_z1, ↓ev_zB, ↓ev_has9, ↓ev_has10, ↓ev_shl, ↓ev_bit, ↓ev_in, ↓ev_inG, ↓ev_rd, ↓ev_st, decide_eq_true_eq, nI_add, ev_sub, pk_mul, nI_or, nI_xor, zBt, zBf, if_true, if_false, eq_self, Bool.false_eq_true, ↓zb1_at hc]
theorem op_send {n : Nat} (hn : 803 < n) {M : ZMem} (hI : INV M) : OPW (zf_X9_send n) (zf_X10_send n) M := by
  obtain ⟨t, nx, r, u, U, T, L, hS, hC, hM⟩ := id hI
  have hb := hS.1.1.b
  obtain ⟨a0, a1, a2, a3, a4, a5, a6, a7, a8, a9, a10, a11, a12, -⟩ := hC.rd
  have hR := hC.remember
  have h12 := hC.r12
  have hnx : nx < 12 := hC.2.2.2.2.1.2.1
  have ht := hC.t
  have hdy := fun (K : Nat → Option (Int32 × ZMem)) => hC.1.dy (K := K)
  have hs9 := isSent9 hC hS.1.1
  by_cases g1 : r 11 = 0
  · by_cases g2 : r 1 = 0
    · refine OPW.same (-nI 1) ?_ ?_ hI
      · simp (disch := (first | assumption | omega)) only [zf_X9_send, zf_X9_send_j20, zlp, ↓zb1_at hs9, ↓ev_ifB, ↓ev_iflt, ↓ev_ifle, ↓ev_ifeq, ↓ifp, ↓ifn, ↓ev_b1, ↓ev_b2, ↓ev_put, ↓ev_z0, ↓ev_z1, ↓ev_zB, ↓ev_has9, ↓ev_has10, ↓ev_shl, ↓ev_bit, ↓ev_in, ↓ev_inG, ↓ev_rd, ↓ev_st, decide_eq_true_eq, nI_add, ev_sub, pk_mul, nI_or, nI_xor, zBt, zBf, if_true, if_false, eq_self, Bool.false_eq_true, ↓hdy, a1]
      · simp (disch := (first | assumption | omega)) only [zf_X10_send, zf_X10_send_j19, zlp, ↓rd78 hM.1, ↓rd11 hM.1, ↓ev_ifB, ↓ev_iflt, ↓ev_ifle, ↓ev_ifeq, ↓ifp, ↓ifn, ↓ev_b1, ↓ev_b2, ↓ev_put, ↓ev_z0, ↓ev_z1, ↓ev_zB, ↓ev_has9, ↓ev_has10, ↓ev_shl, ↓ev_bit, ↓ev_in, ↓ev_inG, ↓ev_rd, ↓ev_st, decide_eq_true_eq, nI_add, ev_sub, pk_mul, nI_or, nI_xor, zBt, zBf, if_true, if_false, eq_self, Bool.false_eq_true, ↓snt_ge]
    · have hg : GD (zat r 11 (r 8 + 1)) := hS.1.put 11 (r 8 + 1) (by omega)
      have hta : TA r (zat r 11 (r 8 + 1)) := TA.at r _ (by unfold zto; omega)
      have ecost : zcostN (zat r 11 (r 8 + 1)) = zcosts r (r 10) := by
        unfold zcostN
        rw [zat_eq, if_neg (by omega), zat_ne (by omega), zcosts_ta hta (by omega)]
      have hT : TD (zwr (zrem9 M nx u) 12 2 (nI (r 8))) t r := hC.2.2.1.congr (fun k h1 h2 => by rw [wrn (by omega), zrem9_ne (by omega) (by omega) (by omega) (by omega)])
      have hIT : IT (zwr (zrem9 M nx u) 12 2 (nI (r 8))) t := hC.1.congr (by rw [wrn (by omega), zrem9_ne (by omega) (by omega) (by omega) (by omega)])
      have hdy2 := fun (K : Nat → Option (Int32 × ZMem)) => hIT.dy (K := K)
      have hcb := costsBy1 (n := n) hT hS.1.1 (show r 10 < 256 by omega) hS.1.2 (by omega)
      have e10 : zwr (zrem9 M nx u) 12 2 (nI (r 8)) 12 1 = nI (r 10) := by rw [wrj (by omega), h12]; exact a6
      refine OPW.act (r' := zat r 11 (r 8 + 1)) (v := nI (zcosts r (r 10))) hS hC hM hg hta (M1 := zwr (zwr (zrem9 M nx u) 12 2 (nI (r 8))) 12 3 (nI (zcosts r (r 10)))) ?_ (fun k h1 h2 => by rw [wrn h1, wrn h1]) ?_ (fun M1 hM1 => ⟨zwr (zrem10 M1 u) 78 11 (nI (r 8)), ?_, put_ne, ?_⟩)
      · simp (disch := (first | assumption | omega)) only [zf_X9_send, zf_X9_send_j20, zlp, ↓zb1_at hs9, ↓ev_ifB, ↓ev_iflt, ↓ev_ifle, ↓ev_ifeq, ↓ifp, ↓ifn, ↓ev_b1, ↓ev_b2, ↓ev_put, ↓ev_z0, ↓ev_z1, ↓ev_zB, ↓ev_has9, ↓ev_has10, ↓ev_shl, ↓ev_bit, ↓ev_in, ↓ev_inG, ↓ev_rd, ↓ev_st, decide_eq_true_eq, nI_add, ev_sub, pk_mul, nI_or, nI_xor, zBt, zBf, if_true, if_false, eq_self, Bool.false_eq_true, ↓hdy, a1, hR, h12, a5, ↓hdy2, e10, ↓zb1_at hcb, wre]
      · have hs := hC.2.2.2.1.rem (u := u) hnx
        obtain ⟨⟨b1, b2, b3, b4, b5, b6, b7, b8, b9, b10, b11⟩, b12⟩ := hs
        refine ⟨⟨?_, ?_, ?_, ?_, ?_, ?_, ?_, ?_, ?_, ?_, ?_⟩, ?_⟩
        · simp [zwr_get, zat, b1]
        · simp [zwr_get, zat, b2]
        · simp [zwr_get, zat]
        · simp [zwr_get, zat, b4]
        · simp [zwr_get, zat, b5]
        · simp [zwr_get, zat, b6]
        · simp [zwr_get, zat, b7]
        · simp [zwr_get, zat, b8]
        · simp [zwr_get, zat, b9]
        · simp [zwr_get, zat, b10]
        · intro i hi
          rw [wrn (by omega), wrn (by omega), zat_ne (by omega)]
          exact b11 i hi
        · rw [wre, ecost]
      · have hR2 : IR (zwr (zrem10 M1 u) 78 11 (nI (r 8))) (zat r 11 (r 8 + 1)) := by
          intro j hj
          rw [zwr_get]
          by_cases h : j = 11
          · subst h
            rw [if_pos ⟨rfl, rfl⟩]
            unfold rI
            rw [if_pos rfl, zat_eq]
            exact (nI_pred _).symm
          · rw [if_neg (fun z => h z.2), rem78, hM1.1 j hj, rI_ne h, rI_ne h, zat_ne h]
        have hcf := costs10 (n := n) hR2 hg (by omega)
        rw [ecost] at hcf
        simp (disch := (first | assumption | omega)) only [zf_X10_send, zf_X10_send_j19, zlp, ↓rd78 hM1.1, ↓rd11 hM1.1, ↓ev_ifB, ↓ev_iflt, ↓ev_ifle, ↓ev_ifeq, ↓ifp, ↓ifn, ↓ev_b1, ↓ev_b2, ↓ev_put, ↓ev_z0, ↓ev_z1, ↓ev_zB, ↓ev_has9, ↓ev_has10, ↓ev_shl, ↓ev_bit, ↓ev_in, ↓ev_inG, ↓ev_rd, ↓ev_st, decide_eq_true_eq, nI_add, ev_sub, pk_mul, nI_or, nI_xor, zBt, zBf, if_true, if_false, eq_self, Bool.false_eq_true, ↓snt_ge, hM1.put hn, ↓zb1_at hcf]
      · intro j hj
        rw [zwr_get]
        by_cases h : j = 11
        · subst h
          rw [if_pos ⟨rfl, rfl⟩]
          unfold rI
          rw [if_pos rfl, zat_eq]
          exact (nI_pred _).symm
        · rw [if_neg (fun z => h z.2), rem78, hM1.1 j hj, rI_ne h, rI_ne h, zat_ne h]
  · refine OPW.same (-nI 1) ?_ ?_ hI
    · simp (disch := (first | assumption | omega)) only [zf_X9_send, zf_X9_send_j20, zlp, ↓zb1_at hs9, ↓ev_ifB, ↓ev_iflt, ↓ev_ifle, ↓ev_ifeq, ↓ifp, ↓ifn, ↓ev_b1, ↓ev_b2, ↓ev_put, ↓ev_z0, ↓ev_z1, ↓ev_zB, ↓ev_has9, ↓ev_has10, ↓ev_shl, ↓ev_bit, ↓ev_in, ↓ev_inG, ↓ev_rd, ↓ev_st, decide_eq_true_eq, nI_add, ev_sub, pk_mul, nI_or, nI_xor, zBt, zBf, if_true, if_false, eq_self, Bool.false_eq_true]
    · simp (disch := (first | assumption | omega)) only [zf_X10_send, zf_X10_send_j19, zlp, ↓rd11 hM.1, ↓ev_ifB, ↓ev_iflt, ↓ev_ifle, ↓ev_ifeq, ↓ifp, ↓ifn, ↓ev_b1, ↓ev_b2, ↓ev_put, ↓ev_z0, ↓ev_z1, ↓ev_zB, ↓ev_has9, ↓ev_has10, ↓ev_shl, ↓ev_bit, ↓ev_in, ↓ev_inG, ↓ev_rd, ↓ev_st, decide_eq_true_eq, nI_add, ev_sub, pk_mul, nI_or, nI_xor, zBt, zBf, if_true, if_false, eq_self, Bool.false_eq_true, ↓snt_ge]
