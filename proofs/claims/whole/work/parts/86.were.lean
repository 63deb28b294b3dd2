/-! LAYER 2: votes; what would be -/
theorem isHund9 (a : Int32) : zf_X9_isHundredths a = some (zB (zmem 101 a)) := by
  rcases zint a with ha | ⟨k, hk, rfl⟩
  · rw [zmem_neg ha]
    simp (disch := (first | assumption | omega)) only [zf_X9_isHundredths, zf_X9_isHundredths_j14, zf_X9_isHundredths_j15, zlp, ↓in1, ↓ev_z0, zBf]
  · rw [zmem_nI hk]
    by_cases g : k < 101
    · rw [decide_eq_true g]
      simp (disch := (first | assumption | omega)) only [zf_X9_isHundredths, zf_X9_isHundredths_j14, zf_X9_isHundredths_j15, zlp, ↓ev_ifB, ↓ev_iflt, ↓ev_ifle, ↓ev_ifeq, ↓ifp, ↓ifn, ↓ev_b1, ↓ev_b2, ↓ev_put, ↓ev_z0, ↓ev_z1, ↓ev_zB, ↓ev_has9, ↓ev_has10, ↓ev_shl, ↓ev_bit, ↓ev_in, ↓ev_inG, ↓ev_rd, ↓ev_st, decide_eq_true_eq, nI_add, ev_sub, pk_mul, nI_or, nI_xor, zBt, zBf, if_true, if_false, eq_self, Bool.false_eq_true]
    · rw [decide_eq_false g]
      simp (disch := (first | assumption | omega)) only [zf_X9_isHundredths, zf_X9_isHundredths_j14, zf_X9_isHundredths_j15, zlp, ↓ev_ifB, ↓ev_iflt, ↓ev_ifle, ↓ev_ifeq, ↓ifp, ↓ifn, ↓ev_b1, ↓ev_b2, ↓ev_put, ↓ev_z0, ↓ev_z1, ↓ev_zB, ↓ev_has9, ↓ev_has10, ↓ev_shl, ↓ev_bit, ↓ev_in, ↓ev_inG, ↓ev_rd, ↓ev_st, decide_eq_true_eq, nI_add, ev_sub, pk_mul, nI_or, nI_xor, zBt, zBf, if_true, if_false, eq_self, Bool.false_eq_true]
/-- the claims of those content -/
def zyes (q : ZRow) (h : Nat) : Nat → Nat := zsum (fun i => if zcnt q i && decide (h * zclaim q i ≤ 100 * zpaid q i) then zclaim q i else 0)
theorem zyes_s (q : ZRow) (h i : Nat) : zyes q h (i + 1) = zyes q h i + if zcnt q i && decide (h * zclaim q i ≤ 100 * zpaid q i) then zclaim q i else 0 := rfl
theorem zyes_le {q : ZRow} (hw : WF q) {h : Nat} : zyes q h (q 0) ≤ 99000 := by
  have hb := hw.b
  have := zsum_le (f := fun i => if zcnt q i && decide (h * zclaim q i ≤ 100 * zpaid q i) then zclaim q i else 0) (c := 9900) (n := q 0) (fun i hi => by
    show (if _ then zclaim q i else 0) ≤ 9900
    have := zclaim_le hw hi
    split <;> omega)
  unfold zyes
  omega
theorem op_votes {n : Nat} (hn : 400000000001 < n) {M : ZMem} (hI : INV M) (a : Int32) : OPW (zf_X9_votes n a) (zf_X10_votes n a) M := by
  obtain ⟨t, nx, r, u, U, T, L, hS, hC, hM⟩ := id hI
  have hw := hS.1.1
  have hb := hw.b
  have hcnl := zcntS_lt hw.1
  have hcal := zca_le hw
  have hhd := zhd_le (q := r)
  cases hz : zmem 101 a with
  | false =>
    refine OPW.same (-nI 1) ?_ ?_ hI
    · simp (disch := (first | assumption | omega)) only [zf_X9_votes, zlp, ↓zb1_at (isHund9 a), hz, ↓ev_ifB, ↓ev_ifeq, ↓ifp, ↓ifn, zBt, zBf, if_true, if_false, eq_self, Bool.false_eq_true]
    · simp (disch := (first | assumption | omega)) only [zf_X10_votes, zlp, ↓zb1_at (isInZ a (show 100 < 2147483647 by omega)), hz, ↓ev_ifB, ↓ev_ifeq, ↓ifp, ↓ifn, zBt, zBf, if_true, if_false, eq_self, Bool.false_eq_true]
  | true =>
    obtain ⟨h, hh, rfl⟩ := zmem_of hz
    have hyl := zyes_le hw (h := h)
    by_cases g : zhd r = 0
    · have gcs := (zcnt_0 hw.1).mpr g
      refine OPW.scr hS hC hM (-nI 2) ?_ (fun M1 hM1 => ?_)
      · obtain ⟨M1, e1, e2, e3⟩ := payNow9 (n := n) hC hS.1 (by omega)
        have c := (pay_rd e2).2.2.2.2.2.1
        refine ⟨M1, ?_, e3⟩
        simp (disch := (first | assumption | omega)) only [zf_X9_votes, zlp, ↓zb1_at (isHund9 _), hz, ↓zb1_at e1, c, g, ↓ev_ifB, ↓ev_iflt, ↓ev_ifle, ↓ev_ifeq, ↓ifp, ↓ifn, ↓ev_b1, ↓ev_b2, ↓ev_put, ↓ev_z0, ↓ev_z1, ↓ev_zB, ↓ev_has9, ↓ev_has10, ↓ev_shl, ↓ev_bit, ↓ev_in, ↓ev_inG, ↓ev_rd, ↓ev_st, decide_eq_true_eq, nI_add, ev_sub, pk_mul, nI_or, nI_xor, zBt, zBf, if_true, if_false, eq_self, Bool.false_eq_true]
      · obtain ⟨M2, e1, e2, e3, e4⟩ := paysNow10 (n := n) hM1.1 hS.1 hn
        have c := e3.2.2.2.1
        refine ⟨M2, ?_, e4⟩
        simp (disch := (first | assumption | omega)) only [zf_X10_votes, zlp, ↓zb1_at (isInZ _ (show 100 < 2147483647 by omega)), hz, ↓zb1_at e1, c, gcs, ↓ev_ifB, ↓ev_iflt, ↓ev_ifle, ↓ev_ifeq, ↓ifp, ↓ifn, ↓ev_b1, ↓ev_b2, ↓ev_put, ↓ev_z0, ↓ev_z1, ↓ev_zB, ↓ev_has9, ↓ev_has10, ↓ev_shl, ↓ev_bit, ↓ev_in, ↓ev_inG, ↓ev_rd, ↓ev_st, decide_eq_true_eq, nI_add, ev_sub, pk_mul, nI_or, nI_xor, zBt, zBf, if_true, if_false, eq_self, Bool.false_eq_true]
    · have gcs : ¬ zcntS r = 0 := fun z => g ((zcnt_0 hw.1).mp z)
      refine OPW.scr hS hC hM (zB (decide (zca r < 2 * zyes r h (r 0)))) ?_ (fun M1 hM1 => ?_)
      · obtain ⟨M1, e1, e2, e3⟩ := payNow9 (n := n) hC hS.1 (by omega)
        obtain ⟨c1, c2, c3, c4, c5, c6, c7, c8, c9⟩ := pay_rd e2
        have hC1 := hC.f9 e3
        obtain ⟨a0, -⟩ := hC1.rd
        have hdy := fun (K : Nat → Option (Int32 × ZMem)) => hC1.1.dy (K := K)
        have hl : ∀ (K : Int32 → Option (Int32 × ZMem)), zf_X9_votes_L30 M1 (nI h) K n (nI 0) (nI 0) = K (nI (zyes r h (r 0))) := by
          intro K
          refine zloop (fun m i (x : Nat) => zf_X9_votes_L30 M1 (nI h) K m (nI x) (nI i)) (zyes r h) _ (r 0) (fun m i hi => ?_) (fun m => ?_) n 0 (Nat.zero_le _) (by omega)
          · show zf_X9_votes_L30 M1 (nI h) K (m + 1) (nI _) (nI i) = zf_X9_votes_L30 M1 (nI h) K m (nI _) (nI (i + 1))
            have htb := zcntS_tb hi
            have d69 := c7 i (by omega)
            have d64 := c8 i hi
            have hcl := zclaim_le hw hi
            have hpl := zpaid_le (q := r) i
            have hm1 : h * zclaim r i ≤ 100 * 9900 := Nat.mul_le_mul (by omega) hcl
            rw [zyes_s]
            cases hc : zcnt r i with
            | false =>
              rw [Bool.false_and, if_neg (by decide)]
              simp (disch := (first | assumption | omega)) only [zf_X9_votes_L30, zf_X9_votes_j93, zlp, ↓hdy, a0, c4, ↓ev_ifle, ↓ifp, ↓ifn, ↓ev_has9, htb, hc, ↓ev_ifB, Bool.false_eq_true, if_false, nI_add, Nat.add_zero]
            | true =>
              rw [Bool.true_and]
              by_cases g2 : h * zclaim r i ≤ 100 * zpaid r i
              · rw [decide_eq_true g2, if_pos rfl]
                simp (disch := (first | assumption | omega)) only [zf_X9_votes_L30, zf_X9_votes_j93, zlp, ↓hdy, a0, c4, ↓ev_ifle, ↓ev_iflt, ↓ifp, ↓ifn, ↓ev_has9, htb, hc, ↓ev_ifB, eq_self, if_true, ↓ev_rd, d69, d64, pk_mul, nI_add]
              · rw [decide_eq_false g2, if_neg (by decide)]
                simp (disch := (first | assumption | omega)) only [zf_X9_votes_L30, zf_X9_votes_j93, zlp, ↓hdy, a0, c4, ↓ev_ifle, ↓ev_iflt, ↓ifp, ↓ifn, ↓ev_has9, htb, hc, ↓ev_ifB, eq_self, if_true, ↓ev_rd, d69, d64, pk_mul, nI_add, Nat.add_zero]
          · show zf_X9_votes_L30 M1 (nI h) K (m + 1) (nI _) (nI (r 0)) = _
            simp (disch := (first | assumption | omega)) only [zf_X9_votes_L30, zlp, ↓hdy, a0, ↓ev_ifB, ↓ev_iflt, ↓ev_ifle, ↓ev_ifeq, ↓ifp, ↓ifn, ↓ev_b1, ↓ev_b2, ↓ev_put, ↓ev_z0, ↓ev_z1, ↓ev_zB, ↓ev_has9, ↓ev_has10, ↓ev_shl, ↓ev_bit, ↓ev_in, ↓ev_inG, ↓ev_rd, ↓ev_st, decide_eq_true_eq, nI_add, ev_sub, pk_mul, nI_or, nI_xor, zBt, zBf, if_true, if_false, eq_self, Bool.false_eq_true]
        refine ⟨M1, ?_, e3⟩
        by_cases g3 : zca r < 2 * zyes r h (r 0)
        · rw [decide_eq_true g3]
          simp (disch := (first | assumption | omega)) only [zf_X9_votes, zf_X9_votes_j117, zlp, ↓zb1_at (isHund9 _), hz, ↓zb1_at e1, c6, c5, ↓hl, ↓ev_ifB, ↓ev_iflt, ↓ev_ifle, ↓ev_ifeq, ↓ifp, ↓ifn, ↓ev_b1, ↓ev_b2, ↓ev_put, ↓ev_z0, ↓ev_z1, ↓ev_zB, ↓ev_has9, ↓ev_has10, ↓ev_shl, ↓ev_bit, ↓ev_in, ↓ev_inG, ↓ev_rd, ↓ev_st, decide_eq_true_eq, nI_add, ev_sub, pk_mul, nI_or, nI_xor, zBt, zBf, if_true, if_false, eq_self, Bool.false_eq_true]
        · rw [decide_eq_false g3]
          simp (disch := (first | assumption | omega)) only [zf_X9_votes, zf_X9_votes_j117, zlp, ↓zb1_at (isHund9 _), hz, ↓zb1_at e1, c6, c5, ↓hl, ↓ev_ifB, ↓ev_iflt, ↓ev_ifle, ↓ev_ifeq, ↓ifp, ↓ifn, ↓ev_b1, ↓ev_b2, ↓ev_put, ↓ev_z0, ↓ev_z1, ↓ev_zB, ↓ev_has9, ↓ev_has10, ↓ev_shl, ↓ev_bit, ↓ev_in, ↓ev_inG, ↓ev_rd, ↓ev_st, decide_eq_true_eq, nI_add, ev_sub, pk_mul, nI_or, nI_xor, zBt, zBf, if_true, if_false, eq_self, Bool.false_eq_true]
      · obtain ⟨M2, e1, e2, e3, e4⟩ := paysNow10 (n := n) hM1.1 hS.1 hn
        have c4 := e3.2.2.2.1
        have c7 := (rme_rd e2).1
        have hI2 := e3.1
        have hl : ∀ (K : Int32 → Option (Int32 × ZMem)), zf_X10_votes_L30 M2 (nI h) K n (nI 0) (nI 0) = K (nI (zyes r h (r 0))) := by
          intro K
          refine zloop (fun m i (x : Nat) => zf_X10_votes_L30 M2 (nI h) K m (nI x) (nI i)) (zyes r h) _ (r 0) (fun m i hi => ?_) (fun m => ?_) n 0 (Nat.zero_le _) (by omega)
          · show zf_X10_votes_L30 M2 (nI h) K (m + 1) (nI _) (nI i) = zf_X10_votes_L30 M2 (nI h) K m (nI _) (nI (i + 1))
            have htb := zcntS_tb hi
            have d86 := c7 i (by omega)
            have hcl10 := claim10 hI2 hw hi
            have hcl := zclaim_le hw hi
            have hpl := zpaid_le (q := r) i
            have hm1 : h * zclaim r i ≤ 100 * 9900 := Nat.mul_le_mul (by omega) hcl
            rw [zyes_s]
            cases hc : zcnt r i with
            | false =>
              rw [Bool.false_and, if_neg (by decide)]
              simp (disch := (first | assumption | omega)) only [zf_X10_votes_L30, zf_X10_votes_j79, zf_X10_votes_j80, zlp, ↓rd78 hI2, c4, ↓ev_ifle, ↓ifp, ↓ifn, ↓ev_has10, htb, hc, ↓ev_ifB, Bool.false_eq_true, if_false, nI_add, Nat.add_zero]
            | true =>
              rw [Bool.true_and]
              by_cases g2 : h * zclaim r i ≤ 100 * zpaid r i
              · rw [decide_eq_true g2, if_pos rfl]
                simp (disch := (first | assumption | omega)) only [zf_X10_votes_L30, zf_X10_votes_j79, zf_X10_votes_j80, zlp, ↓rd78 hI2, c4, ↓ev_ifle, ↓ev_iflt, ↓ifp, ↓ifn, ↓ev_has10, htb, hc, ↓ev_ifB, eq_self, if_true, ↓ev_rd, d86, ↓zb1_at hcl10, pk_mul, nI_add]
              · rw [decide_eq_false g2, if_neg (by decide)]
                simp (disch := (first | assumption | omega)) only [zf_X10_votes_L30, zf_X10_votes_j79, zf_X10_votes_j80, zlp, ↓rd78 hI2, c4, ↓ev_ifle, ↓ev_iflt, ↓ifp, ↓ifn, ↓ev_has10, htb, hc, ↓ev_ifB, eq_self, if_true, ↓ev_rd, d86, ↓zb1_at hcl10, pk_mul, nI_add, Nat.add_zero]
          · show zf_X10_votes_L30 M2 (nI h) K (m + 1) (nI _) (nI (r 0)) = _
            simp (disch := (first | assumption | omega)) only [zf_X10_votes_L30, zlp, ↓rd78 hI2, ↓ev_ifB, ↓ev_iflt, ↓ev_ifle, ↓ev_ifeq, ↓ifp, ↓ifn, ↓ev_b1, ↓ev_b2, ↓ev_put, ↓ev_z0, ↓ev_z1, ↓ev_zB, ↓ev_has9, ↓ev_has10, ↓ev_shl, ↓ev_bit, ↓ev_in, ↓ev_inG, ↓ev_rd, ↓ev_st, decide_eq_true_eq, nI_add, ev_sub, pk_mul, nI_or, nI_xor, zBt, zBf, if_true, if_false, eq_self, Bool.false_eq_true]
        have hcc := claims10 (n := n) (a := zcntS r) hI2 hw hcnl (by omega)
        rw [zcnt_claims (sq_refl r)] at hcc
        refine ⟨M2, ?_, e4⟩
        by_cases g3 : zca r < 2 * zyes r h (r 0)
        · rw [decide_eq_true g3]
          simp (disch := (first | assumption | omega)) only [zf_X10_votes, zf_X10_votes_j107, zlp, ↓zb1_at (isInZ _ (show 100 < 2147483647 by omega)), hz, ↓zb1_at e1, c4, ↓hl, ↓zb1_at hcc, ↓ev_ifB, ↓ev_iflt, ↓ev_ifle, ↓ev_ifeq, ↓ifp, ↓ifn, ↓ev_b1, ↓ev_b2, ↓ev_put, ↓ev_z0, ↓ev_z1, ↓ev_zB, ↓ev_has9, ↓ev_has10, ↓ev_shl, ↓ev_bit, ↓ev_in, ↓ev_inG, ↓ev_rd, ↓ev_st, decide_eq_true_eq, nI_add, ev_sub, pk_mul, nI_or, nI_xor, zBt, zBf, if_true, if_false, eq_self, Bool.false_eq_true]
        · rw [decide_eq_false g3]
          simp (disch := (first | assumption | omega)) only [zf_X10_votes, zf_X10_votes_j107, zlp, ↓zb1_at (isInZ _ (show 100 < 2147483647 by omega)), hz, ↓zb1_at e1, c4, ↓hl, ↓zb1_at hcc, ↓ev_ifB, ↓ev_iflt, ↓ev_ifle, ↓ev_ifeq, ↓ifp, ↓ifn, ↓ev_b1, ↓ev_b2, ↓ev_put, ↓ev_z0, ↓ev_z1, ↓ev_zB, ↓ev_has9, ↓ev_has10, ↓ev_shl, ↓ev_bit, ↓ev_in, ↓ev_inG, ↓ev_rd, ↓ev_st, decide_eq_true_eq, nI_add, ev_sub, pk_mul, nI_or, nI_xor, zBt, zBf, if_true, if_false, eq_self, Bool.false_eq_true]
/-! were -/
theorem paidIfOut9 {M : ZMem} {t nx u n : Nat} {r : ZRow} {U : Nat → ZRow} {T : ZT} {L : ZL} (h : IC M t nx r u U T L) (hg : GD r) {i s : Nat} (hi : i < 10) (hs : s < 2 ^ r 0) (hn : 100 < n) : ∃ M1, zf_X9_paidIfOut n (nI i) (nI s) M = some (nI (zpaid (zoutq r s) i), M1) ∧ F9 M M1 := by
  obtain ⟨h1, M1, e1, e2, e3⟩ := were9 (n := n) h hg 4 12 (r 12 ||| s) (by omega) (zoutq_gd hg hs) hn
  have c := (pay_rd e2).2.2.2.2.2.2.1 i hi
  have hdy := fun (K : Nat → Option (Int32 × ZMem)) => h1.dy (K := K)
  have e4 : zcpS M 14 12 14 4 = nI (r 12) := (cpS_sd h.2.2.2.1).1.2.2.2.1
  refine ⟨M1, ?_, e3⟩
  simp (disch := (first | assumption | omega)) only [zf_X9_paidIfOut, zlp, ↓zb1_at copy14, ↓ev_put, e4, nI_or, ↓hdy, ↓zb1_at e1, ↓ev_rd, c]
  rfl
theorem paidIfRule9 {M : ZMem} {t nx u n : Nat} {r : ZRow} {U : Nat → ZRow} {T : ZT} {L : ZL} (h : IC M t nx r u U T L) (hg : GD r) {i x : Nat} (hi : i < 10) (hx : x ≤ 2) (hn : 100 < n) : ∃ M1, zf_X9_paidIfRule n (nI i) (nI x) M = some (nI (zpaid (zat r 9 x) i), M1) ∧ F9 M M1 := by
  obtain ⟨h1, M1, e1, e2, e3⟩ := were9 (n := n) h hg 8 9 x (by omega) (hg.put 9 x (by simp [hx])) hn
  have c := (pay_rd e2).2.2.2.2.2.2.1 i hi
  have hdy := fun (K : Nat → Option (Int32 × ZMem)) => h1.dy (K := K)
  refine ⟨M1, ?_, e3⟩
  simp (disch := (first | assumption | omega)) only [zf_X9_paidIfRule, zlp, ↓zb1_at copy14, ↓ev_put, ↓hdy, ↓zb1_at e1, ↓ev_rd, c]
theorem paidBy10 {M : ZMem} {r : ZRow} {n i x : Nat} (h : IR M r) (hg : GD r) (hi : i < 10) (hx : x ≤ 2) (hn : 400000000001 < n) : ∃ M1, zf_X10_paidBy n (nI x) (nI i) M = some (nI (zpaid (zat r 9 x) i), M1) ∧ F10 M M1 := by
  obtain ⟨M1, M2, a1, a2, a3, a4, a5⟩ := paysBy10 (n := n) (p := 9) (x := x) (j := 25) h hg (by omega) (hg.put 9 x (by simp [hx])) hn
  have c := (rme_rd a3).1 i hi
  refine ⟨M2, ?_, a5⟩
  simp (disch := (first | assumption | omega)) only [zf_X10_paidBy, zlp, ↓zb1_at a1, ↓ev_put, ↓zb1_at a2, ↓ev_rd, c]
theorem op_wereOut {n : Nat} (hn : 400000000001 < n) {M : ZMem} (hI : INV M) (a b : Int32) : OPW (zf_X9_wereOut n a b) (zf_X10_wereOut n a b) M := by
  obtain ⟨t, nx, r, u, U, T, L, hS, hC, hM⟩ := id hI
  have hw := hS.1.1
  have hb := hw.b
  cases hz : zmem (r 0) a with
  | false =>
    refine OPW.same (-nI 1) ?_ ?_ hI
    · simp (disch := (first | assumption | omega)) only [zf_X9_wereOut, zf_X9_wereOut_j27, zf_X9_wereOut_j28, zlp, ↓zb1_at (hC.mem hw a), hz, ↓ev_ifB, ↓ev_ifeq, ↓ifp, ↓ifn, zBt, zBf, if_true, if_false, eq_self, Bool.false_eq_true]
    · simp (disch := (first | assumption | omega)) only [zf_X10_wereOut, zf_X10_wereOut_j16, zlp, ↓zb1_at (hM.1.mem hw a), hz, ↓ev_ifB, ↓ev_ifeq, ↓ifp, ↓ifn, zBt, zBf, if_true, if_false, eq_self, Bool.false_eq_true]
  | true =>
    obtain ⟨i, hi, rfl⟩ := zmem_of hz
    cases hz2 : zmem (r 0) b with
    | false =>
      refine OPW.same (-nI 1) ?_ ?_ hI
      · simp (disch := (first | assumption | omega)) only [zf_X9_wereOut, zf_X9_wereOut_j27, zf_X9_wereOut_j28, zlp, ↓zb1_at (hC.mem hw _), hz, hz2, ↓ev_ifB, ↓ev_ifeq, ↓ifp, ↓ifn, zBt, zBf, if_true, if_false, eq_self, Bool.false_eq_true]
      · simp (disch := (first | assumption | omega)) only [zf_X10_wereOut, zf_X10_wereOut_j16, zlp, ↓zb1_at (hM.1.mem hw _), hz, hz2, ↓ev_ifB, ↓ev_ifeq, ↓ifp, ↓ifn, zBt, zBf, if_true, if_false, eq_self, Bool.false_eq_true]
    | true =>
      obtain ⟨j, hj, rfl⟩ := zmem_of hz2
      refine OPW.scr hS hC hM (nI (zpaid (zoutq r (2 ^ j)) i)) ?_ (fun M1 hM1 => ?_)
      · obtain ⟨M1, e1, e2⟩ := paidIfOut9 (n := n) hC hS.1 (show i < 10 by omega) (zpow_lt hj) (by omega)
        refine ⟨M1, ?_, e2⟩
        simp (disch := (first | assumption | omega)) only [zf_X9_wereOut, zf_X9_wereOut_j27, zf_X9_wereOut_j28, zlp, ↓zb1_at (hC.mem hw _), hz, hz2, ↓ev_ifB, ↓ev_iflt, ↓ev_ifle, ↓ev_ifeq, ↓ifp, ↓ifn, ↓ev_b1, ↓ev_b2, ↓ev_put, ↓ev_z0, ↓ev_z1, ↓ev_zB, ↓ev_has9, ↓ev_has10, ↓ev_shl, ↓ev_bit, ↓ev_in, ↓ev_inG, ↓ev_rd, ↓ev_st, decide_eq_true_eq, nI_add, ev_sub, pk_mul, nI_or, nI_xor, zBt, zBf, if_true, if_false, eq_self, Bool.false_eq_true, e1]
      · obtain ⟨M2, e1, e2, e3, e4⟩ := paysWithout10 (n := n) hM1.1 hS.1 (zpow_lt hj) hn
        have c := (rme_rd e2).1 i (by omega)
        refine ⟨M2, ?_, e4⟩
        simp (disch := (first | assumption | omega)) only [zf_X10_wereOut, zf_X10_wereOut_j16, zlp, ↓zb1_at (hM1.1.mem hw _), hz, hz2, ↓ev_ifB, ↓ev_iflt, ↓ev_ifle, ↓ev_ifeq, ↓ifp, ↓ifn, ↓ev_b1, ↓ev_b2, ↓ev_put, ↓ev_z0, ↓ev_z1, ↓ev_zB, ↓ev_has9, ↓ev_has10, ↓ev_shl, ↓ev_bit, ↓ev_in, ↓ev_inG, ↓ev_rd, ↓ev_st, decide_eq_true_eq, nI_add, ev_sub, pk_mul, nI_or, nI_xor, zBt, zBf, if_true, if_false, eq_self, Bool.false_eq_true, e1, c]
theorem op_wereFund {n : Nat} (hn : 400000000001 < n) {M : ZMem} (hI : INV M) (a b : Int32) : OPW (zf_X9_wereFund n a b) (zf_X10_wereFund n a b) M := by
  obtain ⟨t, nx, r, u, U, T, L, hS, hC, hM⟩ := id hI
  have hw := hS.1.1
  have hb := hw.b
  cases hz : zmem (r 0) b with
  | false =>
    refine OPW.same (-nI 1) ?_ ?_ hI
    · simp (disch := (first | assumption | omega)) only [zf_X9_wereFund, zf_X9_wereFund_j15, zlp, ↓zb1_at (hC.mem hw b), hz, ↓ev_ifB, ↓ev_ifeq, ↓ifp, ↓ifn, zBt, zBf, if_true, if_false, eq_self, Bool.false_eq_true]
    · simp (disch := (first | assumption | omega)) only [zf_X10_wereFund, zf_X10_wereFund_j18, zlp, ↓zb1_at (hM.1.mem hw b), hz, ↓ev_ifB, ↓ev_ifeq, ↓ifp, ↓ifn, zBt, zBf, if_true, if_false, eq_self, Bool.false_eq_true]
  | true =>
    obtain ⟨i, hi, rfl⟩ := zmem_of hz
    cases hz2 : zmem 100000 a with
    | false =>
      refine OPW.same (-nI 1) ?_ ?_ hI
      · simp (disch := (first | assumption | omega)) only [zf_X9_wereFund, zf_X9_wereFund_j15, zlp, ↓zb1_at (hC.mem hw _), ↓zb1_at (isFund9 a), hz, hz2, ↓ev_ifB, ↓ev_ifeq, ↓ifp, ↓ifn, zBt, zBf, if_true, if_false, eq_self, Bool.false_eq_true]
      · simp (disch := (first | assumption | omega)) only [zf_X10_wereFund, zf_X10_wereFund_j18, zlp, ↓zb1_at (hM.1.mem hw _), ↓zb1_at (isInZ a (show 99999 < 2147483647 by omega)), hz, hz2, ↓ev_ifB, ↓ev_ifeq, ↓ifp, ↓ifn, zBt, zBf, if_true, if_false, eq_self, Bool.false_eq_true]
    | true =>
      obtain ⟨v, hv, rfl⟩ := zmem_of hz2
      refine OPW.scr hS hC hM (nI (zpaid (zat r 2 v) i)) ?_ (fun M1 hM1 => ?_)
      · obtain ⟨h1, M1, e1, e2, e3⟩ := were9 (n := n) hC hS.1 7 2 v (by omega) (hS.1.put 2 v (by simp; omega)) (by omega)
        have c := (pay_rd e2).2.2.2.2.2.2.1 i (by omega)
        have hdy := fun (K : Nat → Option (Int32 × ZMem)) => h1.dy (K := K)
        refine ⟨M1, ?_, e3⟩
        simp (disch := (first | assumption | omega)) only [zf_X9_wereFund, zf_X9_wereFund_j15, zlp, ↓zb1_at (hC.mem hw _), ↓zb1_at (isFund9 _), hz, hz2, ↓ev_ifB, ↓ev_ifeq, ↓ifp, ↓ifn, zBt, zBf, if_true, if_false, eq_self, Bool.false_eq_true, ↓zb1_at copy14, ↓ev_put, ↓hdy, ↓zb1_at e1, ↓ev_rd, c]
      · obtain ⟨M1', M2, a1, a2, a3, a4, a5⟩ := paysBy10 (n := n) (p := 2) (x := v) (j := 24) hM1.1 hS.1 (by omega) (hS.1.put 2 v (by simp; omega)) hn
        have c := (rme_rd a3).1 i (by omega)
        refine ⟨M2, ?_, a5⟩
        simp (disch := (first | assumption | omega)) only [zf_X10_wereFund, zf_X10_wereFund_j18, zlp, ↓zb1_at (hM1.1.mem hw _), ↓zb1_at (isInZ _ (show 99999 < 2147483647 by omega)), hz, hz2, ↓ev_ifB, ↓ev_ifeq, ↓ifp, ↓ifn, zBt, zBf, if_true, if_false, eq_self, Bool.false_eq_true, ↓zb1_at a1, ↓ev_put, ↓zb1_at a2, ↓ev_rd, c]
theorem op_wereRule {n : Nat} (hn : 400000000001 < n) {M : ZMem} (hI : INV M) (a b : Int32) : OPW (zf_X9_wereRule n a b) (zf_X10_wereRule n a b) M := by
  obtain ⟨t, nx, r, u, U, T, L, hS, hC, hM⟩ := id hI
  have hw := hS.1.1
  have hb := hw.b
  cases hz : zmem (r 0) b with
  | false =>
    refine OPW.same (-nI 1) ?_ ?_ hI
    · simp (disch := (first | assumption | omega)) only [zf_X9_wereRule, zf_X9_wereRule_j24, zf_X9_wereRule_j25, zlp, ↓zb1_at (hC.mem hw b), hz, ↓ev_ifB, ↓ev_ifeq, ↓ifp, ↓ifn, zBt, zBf, if_true, if_false, eq_self, Bool.false_eq_true]
    · simp (disch := (first | assumption | omega)) only [zf_X10_wereRule, zf_X10_wereRule_j26, zf_X10_wereRule_j27, zlp, ↓zb1_at (hM.1.mem hw b), hz, ↓ev_ifB, ↓ev_ifeq, ↓ifp, ↓ifn, zBt, zBf, if_true, if_false, eq_self, Bool.false_eq_true]
  | true =>
    obtain ⟨i, hi, rfl⟩ := zmem_of hz
    cases hz2 : zmem 3 a with
    | false =>
      refine OPW.same (-nI 1) ?_ ?_ hI
      · simp (disch := (first | assumption | omega)) only [zf_X9_wereRule, zf_X9_wereRule_j24, zf_X9_wereRule_j25, zlp, ↓zb1_at (hC.mem hw _), ↓zb1_at (isRule9 a), hz, hz2, ↓ev_ifB, ↓ev_ifeq, ↓ifp, ↓ifn, zBt, zBf, if_true, if_false, eq_self, Bool.false_eq_true]
      · simp (disch := (first | assumption | omega)) only [zf_X10_wereRule, zf_X10_wereRule_j26, zf_X10_wereRule_j27, zlp, ↓zb1_at (hM.1.mem hw _), ↓zb1_at (isInZ a (show 2 < 2147483647 by omega)), hz, hz2, ↓ev_ifB, ↓ev_ifeq, ↓ifp, ↓ifn, zBt, zBf, if_true, if_false, eq_self, Bool.false_eq_true]
    | true =>
      obtain ⟨x, hx, rfl⟩ := zmem_of hz2
      refine OPW.scr hS hC hM (nI (zpaid (zat r 9 x) i)) ?_ (fun M1 hM1 => ?_)
      · obtain ⟨M1, e1, e2⟩ := paidIfRule9 (n := n) hC hS.1 (show i < 10 by omega) (show x ≤ 2 by omega) (by omega)
        refine ⟨M1, ?_, e2⟩
        simp (disch := (first | assumption | omega)) only [zf_X9_wereRule, zf_X9_wereRule_j24, zf_X9_wereRule_j25, zlp, ↓zb1_at (hC.mem hw _), ↓zb1_at (isRule9 _), hz, hz2, ↓ev_ifB, ↓ev_ifeq, ↓ifp, ↓ifn, zBt, zBf, if_true, if_false, eq_self, Bool.false_eq_true, e1, ↓ev_b2]
      · obtain ⟨M2, e1, e2⟩ := paidBy10 (n := n) hM1.1 hS.1 (show i < 10 by omega) (show x ≤ 2 by omega) hn
        refine ⟨M2, ?_, e2⟩
        simp (disch := (first | assumption | omega)) only [zf_X10_wereRule, zf_X10_wereRule_j26, zf_X10_wereRule_j27, zlp, ↓zb1_at (hM1.1.mem hw _), ↓zb1_at (isInZ _ (show 2 < 2147483647 by omega)), hz, hz2, ↓ev_ifB, ↓ev_ifeq, ↓ifp, ↓ifn, zBt, zBf, if_true, if_false, eq_self, Bool.false_eq_true, e1, ↓ev_b2]
/-- the rule by which one is paid most, of the first: which, how much -/
def zrl (r : ZRow) (i : Nat) : Nat → Nat × Nat
  | 0 => (0, zpaid (zat r 9 0) i)
  | x + 1 => if zpaid (zat r 9 (x + 1)) i ≤ (zrl r i x).2 then zrl r i x else (x + 1, zpaid (zat r 9 (x + 1)) i)
theorem zrl_s (r : ZRow) (i x : Nat) : zrl r i (x + 1) = if zpaid (zat r 9 (x + 1)) i ≤ (zrl r i x).2 then zrl r i x else (x + 1, zpaid (zat r 9 (x + 1)) i) := rfl
theorem zpaid_b {q : ZRow} (hw : WF q) {i : Nat} (hi : i < q 0) : zpaid q i ≤ 9900 := Nat.le_trans (zpaid_le i) (zclaim_le hw hi)
theorem zrl_b {r : ZRow} (hw : WF r) {i : Nat} (hi : i < r 0) : ∀ x, x ≤ 2 → (zrl r i x).2 ≤ 9900
  | 0, _ => zpaid_b (hw.put 9 0 (by simp)) (by rw [zat_ne (by omega)]; exact hi)
  | x + 1, hx => by
    rw [zrl_s]
    split
    · exact zrl_b hw hi x (by omega)
    · exact zpaid_b (hw.put 9 (x + 1) (by simp; omega)) (by rw [zat_ne (by omega)]; exact hi)
theorem op_ruleFor {n : Nat} (hn : 400000000001 < n) {M : ZMem} (hI : INV M) (a : Int32) : OPW (zf_X9_ruleFor n a) (zf_X10_ruleFor n a) M := by
  obtain ⟨t, nx, r, u, U, T, L, hS, hC, hM⟩ := id hI
  have hw := hS.1.1
  have hb := hw.b
  cases hz : zmem (r 0) a with
  | false =>
    refine OPW.same (-nI 1) ?_ ?_ hI
    · simp (disch := (first | assumption | omega)) only [zf_X9_ruleFor, zlp, ↓zb1_at (hC.mem hw a), hz, ↓ev_ifB, ↓ev_ifeq, ↓ifp, ↓ifn, zBt, zBf, if_true, if_false, eq_self, Bool.false_eq_true]
    · simp (disch := (first | assumption | omega)) only [zf_X10_ruleFor, zlp, ↓zb1_at (hM.1.mem hw a), hz, ↓ev_ifB, ↓ev_ifeq, ↓ifp, ↓ifn, zBt, zBf, if_true, if_false, eq_self, Bool.false_eq_true]
  | true =>
    obtain ⟨i, hi, rfl⟩ := zmem_of hz
    have hpb : ∀ x, x ≤ 2 → zpaid (zat r 9 x) i ≤ 9900 := fun x hx => zpaid_b (hw.put 9 x (by simp [hx])) (by rw [zat_ne (by omega)]; exact hi)
    refine OPW.scr hS hC hM (nI (zrl r i 2).1) ?_ (fun M1 hM1 => ?_)
    · have key : ∀ d x m M1, x + d = 2 → d + 1 < m → F9 M M1 → ∃ M2, zf_X9_ruleFor_L17 n (nI i) (fun v35 M36 => some (v35, M36)) m (nI (zrl r i x).2) (nI (zrl r i x).1) (nI (x + 1)) M1 = some (nI (zrl r i 2).1, M2) ∧ F9 M M2 := by
        intro d
        induction d with
        | zero =>
          intro x m M1 hx hm hF
          obtain ⟨m, rfl⟩ : ∃ y, m = y + 1 := ⟨m - 1, by omega⟩
          obtain rfl : x = 2 := by omega
          refine ⟨M1, ?_, hF⟩
          rw [zf_X9_ruleFor_L17, if_pos (by decide)]
        | succ d ih =>
          intro x m M1 hx hm hF
          obtain ⟨m, rfl⟩ : ∃ y, m = y + 1 := ⟨m - 1, by omega⟩
          obtain ⟨M2, e1, e2⟩ := paidIfRule9 (n := n) (hC.f9 hF) hS.1 (show i < 10 by omega) (show x + 1 ≤ 2 by omega) (by omega)
          obtain ⟨M3, f1, f2⟩ := ih (x + 1) m M2 (by omega) (by omega) (hF.trans e2)
          have b1 := hpb (x + 1) (by omega)
          have b2 := zrl_b hw hi x (by omega)
          refine ⟨M3, f1 ▸ ?_, f2⟩
          rw [zrl_s]
          by_cases g : zpaid (zat r 9 (x + 1)) i ≤ (zrl r i x).2
          · simp (disch := (first | assumption | omega)) only [zf_X9_ruleFor_L17, zf_X9_ruleFor_j44, zlp, ↓ev_ifB, ↓ev_iflt, ↓ev_ifle, ↓ev_ifeq, ↓ifp, ↓ifn, ↓ev_b1, ↓ev_b2, ↓ev_put, ↓ev_z0, ↓ev_z1, ↓ev_zB, ↓ev_has9, ↓ev_has10, ↓ev_shl, ↓ev_bit, ↓ev_in, ↓ev_inG, ↓ev_rd, ↓ev_st, decide_eq_true_eq, nI_add, ev_sub, pk_mul, nI_or, nI_xor, zBt, zBf, if_true, if_false, eq_self, Bool.false_eq_true, e1]
          · simp (disch := (first | assumption | omega)) only [zf_X9_ruleFor_L17, zf_X9_ruleFor_j44, zlp, ↓ev_ifB, ↓ev_iflt, ↓ev_ifle, ↓ev_ifeq, ↓ifp, ↓ifn, ↓ev_b1, ↓ev_b2, ↓ev_put, ↓ev_z0, ↓ev_z1, ↓ev_zB, ↓ev_has9, ↓ev_has10, ↓ev_shl, ↓ev_bit, ↓ev_in, ↓ev_inG, ↓ev_rd, ↓ev_st, decide_eq_true_eq, nI_add, ev_sub, pk_mul, nI_or, nI_xor, zBt, zBf, if_true, if_false, eq_self, Bool.false_eq_true, e1]
      obtain ⟨M2, e1, e2⟩ := paidIfRule9 (n := n) hC hS.1 (show i < 10 by omega) (show 0 ≤ 2 by omega) (by omega)
      obtain ⟨M3, f1, f2⟩ := key 2 0 (n - 1) M2 (by omega) (by omega) e2
      have b1 := hpb 0 (by omega)
      refine ⟨M3, ?_, f2⟩
      rw [← f1]
      obtain ⟨m, rfl⟩ : ∃ y, n = y + 1 := ⟨n - 1, by omega⟩
      have hstep : zf_X9_ruleFor_L17 (m + 1) (nI i) (fun v35 M36 => some (v35, M36)) (m + 1) (-nI 1) (nI 0) (nI 0) M = zf_X9_ruleFor_L17 (m + 1) (nI i) (fun v35 M36 => some (v35, M36)) m (nI (zrl r i 0).2) (nI (zrl r i 0).1) (nI (0 + 1)) M2 := by
        rw [zf_X9_ruleFor_L17]
        simp (disch := (first | assumption | omega)) only [zf_X9_ruleFor_j44, zlp, ↓ev_ifB, ↓ev_iflt, ↓ev_ifle, ↓ev_ifeq, ↓ifp, ↓ifn, ↓ev_b1, ↓ev_b2, ↓ev_put, ↓ev_z0, ↓ev_z1, ↓ev_zB, ↓ev_has9, ↓ev_has10, ↓ev_shl, ↓ev_bit, ↓ev_in, ↓ev_inG, ↓ev_rd, ↓ev_st, decide_eq_true_eq, nI_add, ev_sub, pk_mul, nI_or, nI_xor, zBt, zBf, if_true, if_false, eq_self, Bool.false_eq_true, e1, ↓m1_le, zrl]
      simp (disch := (first | assumption | omega)) only [zf_X9_ruleFor, zlp, ↓zb1_at (hC.mem hw _), hz, ↓ev_ifB, ↓ev_ifeq, ↓ifp, ↓ifn, zBt, zBf, if_true, if_false, eq_self, Bool.false_eq_true, hstep, Nat.add_sub_cancel]
    · have key : ∀ d x m M2, x + d = 2 → d + 1 < m → F10 M1 M2 → ∃ M3, zf_X10_ruleFor_L22 n (nI i) (fun v39 M40 => some (v39, M40)) m (nI (zrl r i x).1) (nI (zrl r i x).2) (nI (x + 1)) M2 = some (nI (zrl r i 2).1, M3) ∧ F10 M1 M3 := by
        intro d
        induction d with
        | zero =>
          intro x m M2 hx hm hF
          obtain ⟨m, rfl⟩ : ∃ y, m = y + 1 := ⟨m - 1, by omega⟩
          obtain rfl : x = 2 := by omega
          refine ⟨M2, ?_, hF⟩
          rw [zf_X10_ruleFor_L22, if_pos (by decide)]
        | succ d ih =>
          intro x m M2 hx hm hF
          obtain ⟨m, rfl⟩ : ∃ y, m = y + 1 := ⟨m - 1, by omega⟩
          obtain ⟨M3, e1, e2⟩ := paidBy10 (n := n) (hM1.1.congr hF.2.1) hS.1 (show i < 10 by omega) (show x + 1 ≤ 2 by omega) hn
          obtain ⟨M4, f1, f2⟩ := ih (x + 1) m M3 (by omega) (by omega) (hF.trans e2)
          have b1 := hpb (x + 1) (by omega)
          have b2 := zrl_b hw hi x (by omega)
          refine ⟨M4, f1 ▸ ?_, f2⟩
          rw [zrl_s]
          by_cases g : zpaid (zat r 9 (x + 1)) i ≤ (zrl r i x).2
          · simp (disch := (first | assumption | omega)) only [zf_X10_ruleFor_L22, zf_X10_ruleFor_j49, zf_X10_ruleFor_j62, zlp, ↓ev_ifB, ↓ev_iflt, ↓ev_ifle, ↓ev_ifeq, ↓ifp, ↓ifn, ↓ev_b1, ↓ev_b2, ↓ev_put, ↓ev_z0, ↓ev_z1, ↓ev_zB, ↓ev_has9, ↓ev_has10, ↓ev_shl, ↓ev_bit, ↓ev_in, ↓ev_inG, ↓ev_rd, ↓ev_st, decide_eq_true_eq, nI_add, ev_sub, pk_mul, nI_or, nI_xor, zBt, zBf, if_true, if_false, eq_self, Bool.false_eq_true, e1]
          · simp (disch := (first | assumption | omega)) only [zf_X10_ruleFor_L22, zf_X10_ruleFor_j49, zf_X10_ruleFor_j62, zlp, ↓ev_ifB, ↓ev_iflt, ↓ev_ifle, ↓ev_ifeq, ↓ifp, ↓ifn, ↓ev_b1, ↓ev_b2, ↓ev_put, ↓ev_z0, ↓ev_z1, ↓ev_zB, ↓ev_has9, ↓ev_has10, ↓ev_shl, ↓ev_bit, ↓ev_in, ↓ev_inG, ↓ev_rd, ↓ev_st, decide_eq_true_eq, nI_add, ev_sub, pk_mul, nI_or, nI_xor, zBt, zBf, if_true, if_false, eq_self, Bool.false_eq_true, e1]
      obtain ⟨M2, e1, e2⟩ := paidBy10 (n := n) hM1.1 hS.1 (show i < 10 by omega) (show 0 ≤ 2 by omega) hn
      obtain ⟨M3, f1, f2⟩ := key 2 0 n M2 (by omega) (by omega) e2
      have f1' : zf_X10_ruleFor_L22 n (nI i) (fun v39 M40 => some (v39, M40)) n (nI 0) (nI (zpaid (zat r 9 0) i)) (nI 1) M2 = some (nI (zrl r i 2).1, M3) := f1
      refine ⟨M3, ?_, f2⟩
      simp (disch := (first | assumption | omega)) only [zf_X10_ruleFor, zlp, ↓zb1_at (hM1.1.mem hw _), hz, ↓ev_ifB, ↓ev_ifeq, ↓ifp, ↓ifn, zBt, zBf, if_true, if_false, eq_self, Bool.false_eq_true, e1, ↓ev_b2, f1']
