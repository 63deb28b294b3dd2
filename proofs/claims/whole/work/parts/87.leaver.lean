/-! LAYER 2: leaver, alone -/
theorem zoutq_0 (r : ZRow) : zoutq r 0 = r := by
  funext j
  unfold zoutq zat
  by_cases h : j = 12
  · rw [if_pos h, h, Nat.or_zero]
  · rw [if_neg h]
def zlv (r : ZRow) (i : Nat) : Nat → Nat × Option Nat
  | 0 => (zpaid r i, none)
  | j + 1 => if j = i ∨ (r 12).testBit j = true then zlv r i j else if zpaid (zoutq r (2 ^ j)) i ≤ (zlv r i j).1 then zlv r i j else (zpaid (zoutq r (2 ^ j)) i, some j)
theorem zlv_s (r : ZRow) (i j : Nat) : zlv r i (j + 1) = if j = i ∨ (r 12).testBit j = true then zlv r i j else if zpaid (zoutq r (2 ^ j)) i ≤ (zlv r i j).1 then zlv r i j else (zpaid (zoutq r (2 ^ j)) i, some j) := rfl
theorem zoutq_b {r : ZRow} (hg : GD r) {s i : Nat} (hs : s < 2 ^ r 0) (hi : i < r 0) : zpaid (zoutq r s) i ≤ 9900 := zpaid_b (zoutq_gd hg hs).1 (by show i < zat r 12 _ 0; rw [zat_ne (by omega)]; exact hi)
theorem zlv_b {r : ZRow} (hg : GD r) {i : Nat} (hi : i < r 0) : ∀ j, j ≤ r 0 → (zlv r i j).1 ≤ 9900
  | 0, _ => zpaid_b hg.1 hi
  | j + 1, hj => by
    have ih := zlv_b hg hi j (by omega)
    rw [zlv_s]
    split
    · exact ih
    · split
      · exact ih
      · exact zoutq_b hg (zpow_lt (by omega)) hi
theorem op_leaver {n : Nat} (hn : 400000000001 < n) {M : ZMem} (hI : INV M) (a : Int32) : OPW (zf_X9_leaver n a) (zf_X10_leaver n a) M := by
  obtain ⟨t, nx, r, u, U, T, L, hS, hC, hM⟩ := id hI
  have hw := hS.1.1
  have hb := hw.b
  cases hz : zmem (r 0) a with
  | false =>
    refine OPW.same (-nI 1) ?_ ?_ hI
    · simp (disch := (first | assumption | omega)) only [zf_X9_leaver, zlp, ↓zb1_at (hC.mem hw a), hz, ↓ev_ifB, ↓ev_ifeq, ↓ifp, ↓ifn, zBt, zBf, if_true, if_false, eq_self, Bool.false_eq_true]
    · simp (disch := (first | assumption | omega)) only [zf_X10_leaver, zlp, ↓zb1_at (hM.1.mem hw a), hz, ↓ev_ifB, ↓ev_ifeq, ↓ifp, ↓ifn, zBt, zBf, if_true, if_false, eq_self, Bool.false_eq_true]
  | true =>
    obtain ⟨i, hi, rfl⟩ := zmem_of hz
    refine OPW.scr hS hC hM (zoI (zlv r i (r 0)).2) ?_ (fun M1 hM1 => ?_)
    · have key : ∀ d j m M1, j + d = r 0 → d < m → F9 M M1 → ∃ M2, zf_X9_leaver_L23 (nI i) n (fun v44 M45 => some (v44, M45)) m (nI (zlv r i j).1) (zoI (zlv r i j).2) (nI j) M1 = some (zoI (zlv r i (r 0)).2, M2) ∧ F9 M M2 := by
        intro d
        induction d with
        | zero =>
          intro j m M1 hj hm hF
          obtain ⟨m, rfl⟩ : ∃ y, m = y + 1 := ⟨m - 1, by omega⟩
          obtain rfl : j = r 0 := by omega
          have hC1 := hC.f9 hF
          obtain ⟨a0, -⟩ := hC1.rd
          refine ⟨M1, ?_, hF⟩
          rw [zf_X9_leaver_L23, hC1.1.dy, a0, zi_le (by omega) (by omega), if_pos (Nat.le_refl _)]
        | succ d ih =>
          intro j m M1 hj hm hF
          obtain ⟨m, rfl⟩ : ∃ y, m = y + 1 := ⟨m - 1, by omega⟩
          have hC1 := hC.f9 hF
          obtain ⟨a0, a1, a2, a3, a4, a5, a6, a7, a8, -⟩ := hC1.rd
          have hdy := fun (K : Nat → Option (Int32 × ZMem)) => hC1.1.dy (K := K)
          have b1 := zlv_b hS.1 hi j (by omega)
          by_cases g1 : j = i
          · obtain ⟨M2, f1, f2⟩ := ih (j + 1) m M1 (by omega) (by omega) hF
            rw [zlv_s, if_pos (Or.inl g1)] at f1
            refine ⟨M2, f1 ▸ ?_, f2⟩
            simp (disch := (first | assumption | omega)) only [zf_X9_leaver_L23, zf_X9_leaver_j79, zlp, ↓hdy, a0, ↓ev_ifB, ↓ev_iflt, ↓ev_ifle, ↓ev_ifeq, ↓ifp, ↓ifn, ↓ev_b1, ↓ev_b2, ↓ev_put, ↓ev_z0, ↓ev_z1, ↓ev_zB, ↓ev_has9, ↓ev_has10, ↓ev_shl, ↓ev_bit, ↓ev_in, ↓ev_inG, ↓ev_rd, ↓ev_st, decide_eq_true_eq, nI_add, ev_sub, pk_mul, nI_or, nI_xor, zBt, zBf, if_true, if_false, eq_self, Bool.false_eq_true]
          · by_cases g2 : (r 12).testBit j = true
            · obtain ⟨M2, f1, f2⟩ := ih (j + 1) m M1 (by omega) (by omega) hF
              rw [zlv_s, if_pos (Or.inr g2)] at f1
              refine ⟨M2, f1 ▸ ?_, f2⟩
              simp (disch := (first | assumption | omega)) only [zf_X9_leaver_L23, zf_X9_leaver_j79, zlp, ↓hdy, a0, a8, ↓ev_ifB, ↓ev_iflt, ↓ev_ifle, ↓ev_ifeq, ↓ifp, ↓ifn, ↓ev_b1, ↓ev_b2, ↓ev_put, ↓ev_z0, ↓ev_z1, ↓ev_zB, ↓ev_has9, ↓ev_has10, ↓ev_shl, ↓ev_bit, ↓ev_in, ↓ev_inG, ↓ev_rd, ↓ev_st, decide_eq_true_eq, nI_add, ev_sub, pk_mul, nI_or, nI_xor, zBt, zBf, if_true, if_false, eq_self, Bool.false_eq_true]
            · obtain ⟨M2, e1, e2⟩ := paidIfOut9 (n := n) hC1 hS.1 (show i < 10 by omega) (zpow_lt (show j < r 0 by omega)) (by omega)
              obtain ⟨M3, f1, f2⟩ := ih (j + 1) m M2 (by omega) (by omega) (hF.trans e2)
              have b2 := zoutq_b hS.1 (zpow_lt (show j < r 0 by omega)) hi
              have hno : ¬ (j = i ∨ (r 12).testBit j = true) := fun z => z.elim g1 g2
              rw [zlv_s, if_neg hno] at f1
              by_cases g3 : zpaid (zoutq r (2 ^ j)) i ≤ (zlv r i j).1
              · rw [if_pos g3] at f1
                refine ⟨M3, f1 ▸ ?_, f2⟩
                simp (disch := (first | assumption | omega)) only [zf_X9_leaver_L23, zf_X9_leaver_j79, zlp, ↓hdy, a0, a8, ↓ev_ifB, ↓ev_iflt, ↓ev_ifle, ↓ev_ifeq, ↓ifp, ↓ifn, ↓ev_b1, ↓ev_b2, ↓ev_put, ↓ev_z0, ↓ev_z1, ↓ev_zB, ↓ev_has9, ↓ev_has10, ↓ev_shl, ↓ev_bit, ↓ev_in, ↓ev_inG, ↓ev_rd, ↓ev_st, decide_eq_true_eq, nI_add, ev_sub, pk_mul, nI_or, nI_xor, zBt, zBf, if_true, if_false, eq_self, Bool.false_eq_true, e1]
              · rw [if_neg g3] at f1
                have f1' : zf_X9_leaver_L23 (nI i) n (fun v44 M45 => some (v44, M45)) m (nI (zpaid (zoutq r (2 ^ j)) i)) (nI j) (nI (j + 1)) M2 = some (zoI (zlv r i (r 0)).2, M3) := f1
                refine ⟨M3, f1' ▸ ?_, f2⟩
                simp (disch := (first | assumption | omega)) only [zf_X9_leaver_L23, zf_X9_leaver_j79, zlp, ↓hdy, a0, a8, ↓ev_ifB, ↓ev_iflt, ↓ev_ifle, ↓ev_ifeq, ↓ifp, ↓ifn, ↓ev_b1, ↓ev_b2, ↓ev_put, ↓ev_z0, ↓ev_z1, ↓ev_zB, ↓ev_has9, ↓ev_has10, ↓ev_shl, ↓ev_bit, ↓ev_in, ↓ev_inG, ↓ev_rd, ↓ev_st, decide_eq_true_eq, nI_add, ev_sub, pk_mul, nI_or, nI_xor, zBt, zBf, if_true, if_false, eq_self, Bool.false_eq_true, e1]
      obtain ⟨M2, e1, e2⟩ := paidIfOut9 (n := n) (s := 0) hC hS.1 (show i < 10 by omega) (by omega) (by omega)
      rw [zoutq_0] at e1
      obtain ⟨M3, f1, f2⟩ := key (r 0) 0 n M2 (by omega) (by omega) e2
      have f1' : zf_X9_leaver_L23 (nI i) n (fun v44 M45 => some (v44, M45)) n (nI (zpaid r i)) (-nI 2) (nI 0) M2 = some (zoI (zlv r i (r 0)).2, M3) := f1
      refine ⟨M3, ?_, f2⟩
      simp (disch := (first | assumption | omega)) only [zf_X9_leaver, zlp, ↓zb1_at (hC.mem hw _), hz, ↓ev_ifB, ↓ev_ifeq, ↓ifp, ↓ifn, zBt, zBf, if_true, if_false, eq_self, Bool.false_eq_true, e1, ↓ev_b2, f1']
    · have key : ∀ d j m M2, j + d = r 0 → d < m → F10 M1 M2 → ∃ M3, zf_X10_leaver_L27 (nI i) n (fun v52 M53 => some (v52, M53)) m (nI (zlv r i j).1) (zoI (zlv r i j).2) (nI j) M2 = some (zoI (zlv r i (r 0)).2, M3) ∧ F10 M1 M3 := by
        intro d
        induction d with
        | zero =>
          intro j m M2 hj hm hF
          obtain ⟨m, rfl⟩ : ∃ y, m = y + 1 := ⟨m - 1, by omega⟩
          obtain rfl : j = r 0 := by omega
          have hR : IR M2 r := hM1.1.congr hF.2.1
          refine ⟨M2, ?_, hF⟩
          rw [zf_X10_leaver_L27, hR.z0, zi_le (by omega) (by omega), if_pos (Nat.le_refl _)]
        | succ d ih =>
          intro j m M2 hj hm hF
          obtain ⟨m, rfl⟩ : ∃ y, m = y + 1 := ⟨m - 1, by omega⟩
          have hR : IR M2 r := hM1.1.congr hF.2.1
          have b1 := zlv_b hS.1 hi j (by omega)
          by_cases g1 : j = i
          · obtain ⟨M3, f1, f2⟩ := ih (j + 1) m M2 (by omega) (by omega) hF
            rw [zlv_s, if_pos (Or.inl g1)] at f1
            refine ⟨M3, f1 ▸ ?_, f2⟩
            simp (disch := (first | assumption | omega)) only [zf_X10_leaver_L27, zf_X10_leaver_j108, zlp, ↓rd78 hR, ↓ev_ifB, ↓ev_iflt, ↓ev_ifle, ↓ev_ifeq, ↓ifp, ↓ifn, ↓ev_b1, ↓ev_b2, ↓ev_put, ↓ev_z0, ↓ev_z1, ↓ev_zB, ↓ev_has9, ↓ev_has10, ↓ev_shl, ↓ev_bit, ↓ev_in, ↓ev_inG, ↓ev_rd, ↓ev_st, decide_eq_true_eq, nI_add, ev_sub, pk_mul, nI_or, nI_xor, zBt, zBf, if_true, if_false, eq_self, Bool.false_eq_true]
          · by_cases g2 : (r 12).testBit j = true
            · obtain ⟨M3, f1, f2⟩ := ih (j + 1) m M2 (by omega) (by omega) hF
              rw [zlv_s, if_pos (Or.inr g2)] at f1
              refine ⟨M3, f1 ▸ ?_, f2⟩
              simp (disch := (first | assumption | omega)) only [zf_X10_leaver_L27, zf_X10_leaver_j108, zlp, ↓rd78 hR, ↓ev_ifB, ↓ev_iflt, ↓ev_ifle, ↓ev_ifeq, ↓ifp, ↓ifn, ↓ev_b1, ↓ev_b2, ↓ev_put, ↓ev_z0, ↓ev_z1, ↓ev_zB, ↓ev_has9, ↓ev_has10, ↓ev_shl, ↓ev_bit, ↓ev_in, ↓ev_inG, ↓ev_rd, ↓ev_st, decide_eq_true_eq, nI_add, ev_sub, pk_mul, nI_or, nI_xor, zBt, zBf, if_true, if_false, eq_self, Bool.false_eq_true]
            · obtain ⟨M3, e1, e2, e3, e4⟩ := paysWithout10 (n := n) hR hS.1 (zpow_lt (show j < r 0 by omega)) hn
              have c := (rme_rd e2).1 i (by omega)
              obtain ⟨M4, f1, f2⟩ := ih (j + 1) m M3 (by omega) (by omega) (hF.trans e4)
              have b2 := zoutq_b hS.1 (zpow_lt (show j < r 0 by omega)) hi
              have hno : ¬ (j = i ∨ (r 12).testBit j = true) := fun z => z.elim g1 g2
              rw [zlv_s, if_neg hno] at f1
              by_cases g3 : zpaid (zoutq r (2 ^ j)) i ≤ (zlv r i j).1
              · rw [if_pos g3] at f1
                refine ⟨M4, f1 ▸ ?_, f2⟩
                simp (disch := (first | assumption | omega)) only [zf_X10_leaver_L27, zf_X10_leaver_j108, zf_X10_leaver_j107, zf_X10_leaver_j86, zlp, ↓rd78 hR, ↓ev_ifB, ↓ev_iflt, ↓ev_ifle, ↓ev_ifeq, ↓ifp, ↓ifn, ↓ev_b1, ↓ev_b2, ↓ev_put, ↓ev_z0, ↓ev_z1, ↓ev_zB, ↓ev_has9, ↓ev_has10, ↓ev_shl, ↓ev_bit, ↓ev_in, ↓ev_inG, ↓ev_rd, ↓ev_st, decide_eq_true_eq, nI_add, ev_sub, pk_mul, nI_or, nI_xor, zBt, zBf, if_true, if_false, eq_self, Bool.false_eq_true, e1, c]
              · rw [if_neg g3] at f1
                have f1' : zf_X10_leaver_L27 (nI i) n (fun v52 M53 => some (v52, M53)) m (nI (zpaid (zoutq r (2 ^ j)) i)) (nI j) (nI (j + 1)) M3 = some (zoI (zlv r i (r 0)).2, M4) := f1
                refine ⟨M4, f1' ▸ ?_, f2⟩
                simp (disch := (first | assumption | omega)) only [zf_X10_leaver_L27, zf_X10_leaver_j108, zf_X10_leaver_j107, zf_X10_leaver_j86, zlp, ↓rd78 hR, ↓ev_ifB, ↓ev_iflt, ↓ev_ifle, ↓ev_ifeq, ↓ifp, ↓ifn, ↓ev_b1, ↓ev_b2, ↓ev_put, ↓ev_z0, ↓ev_z1, ↓ev_zB, ↓ev_has9, ↓ev_has10, ↓ev_shl, ↓ev_bit, ↓ev_in, ↓ev_inG, ↓ev_rd, ↓ev_st, decide_eq_true_eq, nI_add, ev_sub, pk_mul, nI_or, nI_xor, zBt, zBf, if_true, if_false, eq_self, Bool.false_eq_true, e1, c]
      obtain ⟨M2, e1, e2, e3, e4⟩ := paysNow10 (n := n) hM1.1 hS.1 hn
      have c := (rme_rd e2).1 i (by omega)
      obtain ⟨M3, f1, f2⟩ := key (r 0) 0 n M2 (by omega) (by omega) e4
      have f1' : zf_X10_leaver_L27 (nI i) n (fun v52 M53 => some (v52, M53)) n (nI (zpaid r i)) (-nI 2) (nI 0) M2 = some (zoI (zlv r i (r 0)).2, M3) := f1
      refine ⟨M3, ?_, f2⟩
      simp (disch := (first | assumption | omega)) only [zf_X10_leaver, zlp, ↓zb1_at (hM1.1.mem hw _), hz, ↓ev_ifB, ↓ev_ifeq, ↓ifp, ↓ifn, zBt, zBf, if_true, if_false, eq_self, Bool.false_eq_true, ↓zb1_at e1, ↓ev_rd, c, f1']
theorem isSet9 {M : ZMem} {t nx u : Nat} {r : ZRow} {U : Nat → ZRow} {T : ZT} {L : ZL} (h : IC M t nx r u U T L) (hw : WF r) (a : Int32) : zf_X9_isSet a M = some (zB (zmem (2 ^ r 0) a)) := by
  have hb := hw.b
  have hev := everyone9 h.1 h.2.2.1.1 hw.1
  rcases zint a with ha | ⟨k, hk, rfl⟩
  · rw [zmem_neg ha]
    simp (disch := (first | assumption | omega)) only [zf_X9_isSet, zf_X9_isSet_j16, zf_X9_isSet_j17, zlp, ↓in1, ↓ev_z0, zBf]
  · rw [zmem_nI hk]
    by_cases g : k < 2 ^ r 0
    · rw [decide_eq_true g]
      simp (disch := (first | assumption | omega)) only [zf_X9_isSet, zf_X9_isSet_j16, zf_X9_isSet_j17, zlp, ↓zb1_at hev, ↓ev_ifB, ↓ev_iflt, ↓ev_ifle, ↓ev_ifeq, ↓ifp, ↓ifn, ↓ev_b1, ↓ev_b2, ↓ev_put, ↓ev_z0, ↓ev_z1, ↓ev_zB, ↓ev_has9, ↓ev_has10, ↓ev_shl, ↓ev_bit, ↓ev_in, ↓ev_inG, ↓ev_rd, ↓ev_st, decide_eq_true_eq, nI_add, ev_sub, pk_mul, nI_or, nI_xor, zBt, zBf, if_true, if_false, eq_self, Bool.false_eq_true]
    · rw [decide_eq_false g]
      simp (disch := (first | assumption | omega)) only [zf_X9_isSet, zf_X9_isSet_j16, zf_X9_isSet_j17, zlp, ↓zb1_at hev, ↓ev_ifB, ↓ev_iflt, ↓ev_ifle, ↓ev_ifeq, ↓ifp, ↓ifn, ↓ev_b1, ↓ev_b2, ↓ev_put, ↓ev_z0, ↓ev_z1, ↓ev_zB, ↓ev_has9, ↓ev_has10, ↓ev_shl, ↓ev_bit, ↓ev_in, ↓ev_inG, ↓ev_rd, ↓ev_st, decide_eq_true_eq, nI_add, ev_sub, pk_mul, nI_or, nI_xor, zBt, zBf, if_true, if_false, eq_self, Bool.false_eq_true]
theorem isSet10 {M : ZMem} {r : ZRow} (h : IR M r) (hw : WF r) (a : Int32) : zf_X10_isSet a M = some (zB (zmem (2 ^ r 0) a)) := by
  have hb := hw.b
  have hal := all10 (h 0 (by omega)) hw.1
  have hin := isInZ a (show 2 ^ r 0 - 1 < 2147483647 by omega)
  rw [show 2 ^ r 0 - 1 + 1 = 2 ^ r 0 by omega] at hin
  simp (disch := (first | assumption | omega)) only [zf_X10_isSet, zlp, ↓zb1_at hal, ↓zb1_at hin, ↓ev_zB]
/-- those that are not in a set -/
def zcom (m s : Nat) : Nat := (2 ^ m - 1) &&& (s ^^^ (2 ^ m - 1))
theorem zcom_lt (m s : Nat) : zcom m s < 2 ^ m := by
  have h1 : zcom m s ≤ 2 ^ m - 1 := Nat.and_le_left
  have := Nat.two_pow_pos m
  omega
theorem zcom_tb {m s i : Nat} (hi : i < m) : (zcom m s).testBit i = !s.testBit i := by
  unfold zcom
  rw [Nat.testBit_and, Nat.testBit_xor, tb_all]
  simp [hi]
theorem op_alone {n : Nat} (hn : 400000000001 < n) {M : ZMem} (hI : INV M) (a : Int32) : OPW (zf_X9_alone n a) (zf_X10_alone n a) M := by
  obtain ⟨t, nx, r, u, U, T, L, hS, hC, hM⟩ := id hI
  have hw := hS.1.1
  have hb := hw.b
  cases hz : zmem (2 ^ r 0) a with
  | false =>
    refine OPW.same (-nI 1) ?_ ?_ hI
    · simp (disch := (first | assumption | omega)) only [zf_X9_alone, zlp, ↓zb1_at (isSet9 hC hw a), hz, ↓ev_ifB, ↓ev_ifeq, ↓ifp, ↓ifn, zBt, zBf, if_true, if_false, eq_self, Bool.false_eq_true]
    · simp (disch := (first | assumption | omega)) only [zf_X10_alone, zlp, ↓zb1_at (isSet10 hM.1 hw a), hz, ↓ev_ifB, ↓ev_ifeq, ↓ifp, ↓ifn, zBt, zBf, if_true, if_false, eq_self, Bool.false_eq_true]
  | true =>
    obtain ⟨s, hs, rfl⟩ := zmem_of hz
    have hcl := zcom_lt (r 0) s
    have hgq := zoutq_gd hS.1 hcl
    have hps := zpaid_sum (q := zoutq r (zcom (r 0) s)) hgq.1.1
    have hnl := znet_le hgq.1
    have e0 : zoutq r (zcom (r 0) s) 0 = r 0 := zat_ne (by omega)
    have hnot : nI (2 ^ r 0 - 1) &&& (nI s ^^^ -nI 1) = nI (zcom (r 0) s) := nI_not hw.1
    refine OPW.scr hS hC hM (nI (zsum (zpaid (zoutq r (zcom (r 0) s))) (r 0))) ?_ (fun M1 hM1 => ?_)
    · obtain ⟨h1, M1, e1, e2, e3⟩ := were9 (n := n) hC hS.1 4 12 (r 12 ||| zcom (r 0) s) (by omega) hgq (by omega)
      obtain ⟨c1, c2, c3, -⟩ := pay_rd e2
      have c1' : M1 63 15 = nI (znet (zoutq r (zcom (r 0) s))) := c1
      have c3' : M1 63 17 = nI (zleft (zoutq r (zcom (r 0) s))) := c3
      have hdy := fun (K : Nat → Option (Int32 × ZMem)) => h1.dy (K := K)
      have e4 : zcpS M 14 12 14 4 = nI (r 12) := (cpS_sd hC.2.2.2.1).1.2.2.2.1
      have hC0 := hC.f9 cpS_f9
      have hev := everyone9 hC0.1 hC0.2.2.1.1 hw.1
      have esub : znet (zoutq r (zcom (r 0) s)) - zleft (zoutq r (zcom (r 0) s)) = zsum (zpaid (zoutq r (zcom (r 0) s))) (r 0) := by rw [e0] at hps; omega
      refine ⟨M1, ?_, e3⟩
      simp (disch := (first | assumption | omega)) only [zf_X9_alone, zlp, ↓zb1_at (isSet9 hC hw _), hz, ↓ev_ifB, ↓ev_ifeq, ↓ifp, ↓ifn, zBt, zBf, if_true, if_false, eq_self, Bool.false_eq_true, ↓zb1_at copy14, ↓zb1_at hev, hnot, ↓ev_put, e4, nI_or, ↓hdy, ↓zb1_at e1, c1', c3', ev_sub, esub]
    · obtain ⟨M2, e1, e2, e3, e4⟩ := paysWithout10 (n := n) hM1.1 hS.1 hcl hn
      have hal := all10 (hM1.1 0 (by omega)) hw.1
      have hpa := paidAll10 (n := n) (a := s) e3.1 hw (rme_rd e2).1 (by omega) (by omega)
      have esum : zsum (fun i => if s.testBit i then zpaid (zoutq r (zcom (r 0) s)) i else 0) (r 0) = zsum (zpaid (zoutq r (zcom (r 0) s))) (r 0) := zsum_congr (fun i hi => by
        by_cases g : s.testBit i = true
        · rw [if_pos g]
        · rw [if_neg g]
          refine (zpaid_n ?_).symm
          have g' : s.testBit i = false := by simpa using g
          unfold zhun zcnt
          rw [zoutq_12, Nat.testBit_or, zcom_tb hi, g']
          simp)
      rw [esum] at hpa
      refine ⟨M2, ?_, e4⟩
      simp (disch := (first | assumption | omega)) only [zf_X10_alone, zlp, ↓zb1_at (isSet10 hM1.1 hw _), hz, ↓ev_ifB, ↓ev_ifeq, ↓ifp, ↓ifn, zBt, zBf, if_true, if_false, eq_self, Bool.false_eq_true, ↓zb1_at hal, hnot, ↓zb1_at e1, ↓zb1_at hpa]
