/-! LAYER 2: what is PAID -/
theorem op_paid {n : Nat} (hn : 400000000001 < n) {M : ZMem} (hI : INV M) (a : Int32) : OPW (zf_X9_paid n a) (zf_X10_paid n a) M := by
  obtain ⟨t, nx, r, u, U, T, L, hS, hC, hM⟩ := id hI
  have hw := hS.1.1
  have hb := hw.b
  cases hz : zmem (r 0) a with
  | false =>
    refine OPW.same (-nI 1) ?_ ?_ hI
    · simp (disch := (first | assumption | omega)) only [zf_X9_paid, zlp, ↓zb1_at (hC.mem hw a), hz, ↓ev_ifB, ↓ev_ifeq, ↓ifp, ↓ifn, zBt, zBf, if_true, if_false, eq_self, Bool.false_eq_true]
    · simp (disch := (first | assumption | omega)) only [zf_X10_paid, zlp, ↓zb1_at (hM.1.mem hw a), hz, ↓ev_ifB, ↓ev_ifeq, ↓ifp, ↓ifn, zBt, zBf, if_true, if_false, eq_self, Bool.false_eq_true]
  | true =>
    obtain ⟨i, hi, rfl⟩ := zmem_of hz
    refine OPW.scr hS hC hM (nI (zpaid r i)) ?_ (fun M1 hM1 => ?_)
    · obtain ⟨M1, e1, e2, e3⟩ := payNow9 (n := n) hC hS.1 (by omega)
      have c := (pay_rd e2).2.2.2.2.2.2.1 i (by omega)
      refine ⟨M1, ?_, e3⟩
      simp (disch := (first | assumption | omega)) only [zf_X9_paid, zlp, ↓zb1_at (hC.mem hw _), hz, ↓ev_ifB, ↓ev_ifeq, ↓ifp, ↓ifn, zBt, zBf, if_true, if_false, eq_self, Bool.false_eq_true, ↓zb1_at e1, ↓ev_rd, c]
    · obtain ⟨M2, e1, e2, e3, e4⟩ := paysNow10 (n := n) hM1.1 hS.1 hn
      have c := (rme_rd e2).1 i (by omega)
      refine ⟨M2, ?_, e4⟩
      simp (disch := (first | assumption | omega)) only [zf_X10_paid, zlp, ↓zb1_at (hM1.1.mem hw _), hz, ↓ev_ifB, ↓ev_ifeq, ↓ifp, ↓ifn, zBt, zBf, if_true, if_false, eq_self, Bool.false_eq_true, ↓zb1_at e1, ↓ev_rd, c]
theorem zhad_rounds {q : ZRow} {v k i : Nat} (hi : i < q 0) (hk : k < 9) (h : zrk q v 9 ≤ k) : zhadF q v k i = 0 := by
  cases hg : zgk q v (k + 1) with
  | true =>
    have h1 := zrk_go (k + 1) hg
    have h2 : zrk q v (k + 1) ≤ zrk q v 9 := zsum_len (by omega)
    omega
  | false =>
    cases hg2 : zgk q v k with
    | false => exact zhad_stop hg2 i
    | true =>
      rw [zgk_s, hg2, Bool.true_and] at hg
      have h3 := of_decide_eq_false hg
      exact zsum_eq0 (by omega) i hi
theorem zrounds_le {q : ZRow} : zrounds q ≤ 9 := zsum_le1
theorem op_had {n : Nat} (hn : 400000000001 < n) {M : ZMem} (hI : INV M) (a b : Int32) : OPW (zf_X9_had n a b) (zf_X10_had n a b) M := by
  obtain ⟨t, nx, r, u, U, T, L, hS, hC, hM⟩ := id hI
  have hw := hS.1.1
  have hb := hw.b
  cases hz : zmem (r 0) a with
  | false =>
    refine OPW.same (-nI 1) ?_ ?_ hI
    · simp (disch := (first | assumption | omega)) only [zf_X9_had, zf_X9_had_j19, zlp, ↓zb1_at (hC.mem hw a), hz, ↓ev_ifB, ↓ev_ifeq, ↓ifp, ↓ifn, zBt, zBf, if_true, if_false, eq_self, Bool.false_eq_true]
    · simp (disch := (first | assumption | omega)) only [zf_X10_had, zf_X10_had_j18, zlp, ↓zb1_at (hM.1.mem hw a), hz, ↓ev_ifB, ↓ev_ifeq, ↓ifp, ↓ifn, zBt, zBf, if_true, if_false, eq_self, Bool.false_eq_true]
  | true =>
    obtain ⟨i, hi, rfl⟩ := zmem_of hz
    rcases zint b with hb' | ⟨k, hk, rfl⟩
    · refine OPW.same (-nI 1) ?_ ?_ hI
      · simp (disch := (first | assumption | omega)) only [zf_X9_had, zf_X9_had_j19, zlp, ↓zb1_at (hC.mem hw _), hz, ↓ev_ifB, ↓ev_ifeq, ↓ifp, ↓ifn, zBt, zBf, if_true, if_false, eq_self, Bool.false_eq_true, ↓in1]
      · simp (disch := (first | assumption | omega)) only [zf_X10_had, zf_X10_had_j18, zlp, ↓zb1_at (hM.1.mem hw _), hz, ↓ev_ifB, ↓ev_iflt, ↓ev_ifle, ↓ev_ifeq, ↓ifp, ↓ifn, ↓ev_b1, ↓ev_b2, ↓ev_put, ↓ev_z0, ↓ev_z1, ↓ev_zB, ↓ev_has9, ↓ev_has10, ↓ev_shl, ↓ev_bit, ↓ev_in, ↓ev_inG, ↓ev_rd, ↓ev_st, decide_eq_true_eq, nI_add, ev_sub, pk_mul, nI_or, nI_xor, zBt, zBf, if_true, if_false, eq_self, Bool.false_eq_true]
    · by_cases g : 1 ≤ k ∧ k ≤ 9
      · obtain ⟨g1, g2⟩ := g
        refine OPW.scr hS hC hM (nI (zhad r (k - 1) i)) ?_ (fun M1 hM1 => ?_)
        · obtain ⟨M1, e1, e2, e3⟩ := payNow9 (n := n) hC hS.1 (by omega)
          have c := e2.2.1.2.1 (k - 1) (by omega) i (by omega)
          rw [if_pos (show k - 1 < 9 by omega)] at c
          have c' : M1 70 ((k - 1) * 10 + i) = nI (zhad r (k - 1) i) := by rw [Nat.mul_comm]; exact c
          refine ⟨M1, ?_, e3⟩
          simp (disch := (first | assumption | omega)) only [zf_X9_had, zf_X9_had_j19, zlp, ↓zb1_at (hC.mem hw _), hz, ↓ev_ifB, ↓ev_iflt, ↓ev_ifle, ↓ev_ifeq, ↓ifp, ↓ifn, ↓ev_b1, ↓ev_b2, ↓ev_put, ↓ev_z0, ↓ev_z1, ↓ev_zB, ↓ev_has9, ↓ev_has10, ↓ev_shl, ↓ev_bit, ↓ev_in, ↓ev_inG, ↓ev_rd, ↓ev_st, decide_eq_true_eq, nI_add, ev_sub, pk_mul, nI_or, nI_xor, zBt, zBf, if_true, if_false, eq_self, Bool.false_eq_true, ↓zb1_at e1, c']
        · obtain ⟨M2, e1, e2, e3, e4⟩ := paysNow10 (n := n) hM1.1 hS.1 hn
          have c := e2.2.1 (k - 1) (by omega) i (by omega)
          rw [if_pos (show k - 1 < 9 by omega)] at c
          have c' : M2 87 (10 * (k - 1) + i) = nI (zhad r (k - 1) i) := c
          have c28 := (rme_rd e2).2.2
          have hrl := zrounds_le (q := r)
          refine ⟨M2, ?_, e4⟩
          by_cases g3 : zrounds r < k
          · have hz0 : zhad r (k - 1) i = 0 := zhad_rounds hi (by omega) (by have : zrk r (znet r) 9 = zrounds r := rfl; omega)
            rw [hz0]
            simp (disch := (first | assumption | omega)) only [zf_X10_had, zf_X10_had_j18, zf_X10_had_j49, zlp, ↓zb1_at (hM1.1.mem hw _), hz, ↓ev_ifB, ↓ev_iflt, ↓ev_ifle, ↓ev_ifeq, ↓ifp, ↓ifn, ↓ev_b1, ↓ev_b2, ↓ev_put, ↓ev_z0, ↓ev_z1, ↓ev_zB, ↓ev_has9, ↓ev_has10, ↓ev_shl, ↓ev_bit, ↓ev_in, ↓ev_inG, ↓ev_rd, ↓ev_st, decide_eq_true_eq, nI_add, ev_sub, pk_mul, nI_or, nI_xor, zBt, zBf, if_true, if_false, eq_self, Bool.false_eq_true, ↓zb1_at e1, c28]
          · simp (disch := (first | assumption | omega)) only [zf_X10_had, zf_X10_had_j18, zf_X10_had_j49, zlp, ↓zb1_at (hM1.1.mem hw _), hz, ↓ev_ifB, ↓ev_iflt, ↓ev_ifle, ↓ev_ifeq, ↓ifp, ↓ifn, ↓ev_b1, ↓ev_b2, ↓ev_put, ↓ev_z0, ↓ev_z1, ↓ev_zB, ↓ev_has9, ↓ev_has10, ↓ev_shl, ↓ev_bit, ↓ev_in, ↓ev_inG, ↓ev_rd, ↓ev_st, decide_eq_true_eq, nI_add, ev_sub, pk_mul, nI_or, nI_xor, zBt, zBf, if_true, if_false, eq_self, Bool.false_eq_true, ↓zb1_at e1, c28, c']
      · refine OPW.same (-nI 1) ?_ ?_ hI
        · by_cases g1 : k < 1
          · simp (disch := (first | assumption | omega)) only [zf_X9_had, zf_X9_had_j19, zlp, ↓zb1_at (hC.mem hw _), hz, ↓ev_ifB, ↓ev_iflt, ↓ev_ifle, ↓ev_ifeq, ↓ifp, ↓ifn, ↓ev_b1, ↓ev_b2, ↓ev_put, ↓ev_z0, ↓ev_z1, ↓ev_zB, ↓ev_has9, ↓ev_has10, ↓ev_shl, ↓ev_bit, ↓ev_in, ↓ev_inG, ↓ev_rd, ↓ev_st, decide_eq_true_eq, nI_add, ev_sub, pk_mul, nI_or, nI_xor, zBt, zBf, if_true, if_false, eq_self, Bool.false_eq_true]
          · simp (disch := (first | assumption | omega)) only [zf_X9_had, zf_X9_had_j19, zlp, ↓zb1_at (hC.mem hw _), hz, ↓ev_ifB, ↓ev_iflt, ↓ev_ifle, ↓ev_ifeq, ↓ifp, ↓ifn, ↓ev_b1, ↓ev_b2, ↓ev_put, ↓ev_z0, ↓ev_z1, ↓ev_zB, ↓ev_has9, ↓ev_has10, ↓ev_shl, ↓ev_bit, ↓ev_in, ↓ev_inG, ↓ev_rd, ↓ev_st, decide_eq_true_eq, nI_add, ev_sub, pk_mul, nI_or, nI_xor, zBt, zBf, if_true, if_false, eq_self, Bool.false_eq_true]
        · simp (disch := (first | assumption | omega)) only [zf_X10_had, zf_X10_had_j18, zlp, ↓zb1_at (hM.1.mem hw _), hz, ↓ev_ifB, ↓ev_iflt, ↓ev_ifle, ↓ev_ifeq, ↓ifp, ↓ifn, ↓ev_b1, ↓ev_b2, ↓ev_put, ↓ev_z0, ↓ev_z1, ↓ev_zB, ↓ev_has9, ↓ev_has10, ↓ev_shl, ↓ev_bit, ↓ev_in, ↓ev_inG, ↓ev_rd, ↓ev_st, decide_eq_true_eq, nI_add, ev_sub, pk_mul, nI_or, nI_xor, zBt, zBf, if_true, if_false, eq_self, Bool.false_eq_true]
theorem op_pot {n : Nat} (hn : 400000000001 < n) {M : ZMem} (hI : INV M) (a : Int32) : OPW (zf_X9_pot n a) (zf_X10_pot n a) M := by
  obtain ⟨t, nx, r, u, U, T, L, hS, hC, hM⟩ := id hI
  have hw := hS.1.1
  have hb := hw.b
  have hpl := zparts_le hw.1
  cases hz : zmem (zparts r) a with
  | false =>
    refine OPW.scr hS hC hM (-nI 1) ?_ (fun M1 hM1 => ?_)
    · obtain ⟨M1, e1, e2, e3⟩ := payNow9 (n := n) hC hS.1 (by omega)
      refine ⟨M1, ?_, e3⟩
      simp (disch := (first | assumption | omega)) only [zf_X9_pot, zf_X9_pot_j28, zlp, ↓zb1_at e1, ↓zb1_at (isGroup6 e2.2.2 hw.1 a), hz, ↓ev_ifB, ↓ev_ifeq, ↓ifp, ↓ifn, zBt, zBf, if_true, if_false, eq_self, Bool.false_eq_true]
    · obtain ⟨M2, e1, e2, e3, e4⟩ := setsNow10 (n := n) hM1.1 hS.1 hn
      have c20 := e2.2.1
      refine ⟨M2, ?_, e4⟩
      simp (disch := (first | assumption | omega)) only [zf_X10_pot, zf_X10_pot_j27, zlp, ↓zb1_at e1, c20, ↓zb1_at (isInM a (show zparts r < 1073741824 by omega)), hz, ↓ev_ifB, ↓ev_ifeq, ↓ifp, ↓ifn, zBt, zBf, if_true, if_false, eq_self, Bool.false_eq_true]
  | true =>
    obtain ⟨k, hk, rfl⟩ := zmem_of hz
    refine OPW.scr hS hC hM (nI (zpotF r (znet r) k)) ?_ (fun M1 hM1 => ?_)
    · obtain ⟨M1, e1, e2, e3⟩ := payNow9 (n := n) hC hS.1 (by omega)
      have c := (pay_rd e2).2.2.2.2.2.2.2.2 k (by omega)
      refine ⟨M1, ?_, e3⟩
      simp (disch := (first | assumption | omega)) only [zf_X9_pot, zf_X9_pot_j28, zlp, ↓zb1_at e1, ↓zb1_at (isGroup6 e2.2.2 hw.1 _), hz, ↓ev_ifB, ↓ev_ifeq, ↓ifp, ↓ifn, zBt, zBf, if_true, if_false, eq_self, Bool.false_eq_true, ↓ev_rd, c]
    · obtain ⟨M2, e1, e2, e3, e4⟩ := setsNow10 (n := n) hM1.1 hS.1 hn
      have c20 := e2.2.1
      have hp := potOf10 (k := k) (n := n) e2 (rg_refl hS.1) (by omega) (by omega)
      refine ⟨M2, ?_, e4⟩
      simp (disch := (first | assumption | omega)) only [zf_X10_pot, zf_X10_pot_j27, zlp, ↓zb1_at e1, c20, ↓zb1_at (isInM _ (show zparts r < 1073741824 by omega)), hz, ↓ev_ifB, ↓ev_ifeq, ↓ifp, ↓ifn, zBt, zBf, if_true, if_false, eq_self, Bool.false_eq_true, ↓zb1_at hp]
theorem zcnt_0 {q : ZRow} (h0 : q 0 ≤ 10) : (zcntS q = 0) ↔ (zhd q = 0) := by
  have e : zbc (zcntS q) = zhd q := zset_bc h0
  constructor
  · intro h
    rw [h] at e
    rw [← e]
    decide
  · intro h
    refine tb_ext (n := 10) (zcntS_lt h0) (by omega) (fun j hj => ?_)
    rw [Nat.zero_testBit]
    unfold zcntS
    rw [zset_tb]
    by_cases hj2 : j < q 0
    · have h1 := zsum_eq0 h j hj2
      by_cases g : zcnt q j = true
      · rw [if_pos g] at h1; omega
      · have g' : zcnt q j = false := by simpa using g
        rw [g', Bool.and_false]
    · rw [decide_eq_false hj2, Bool.false_and]
theorem zhd_ca {q : ZRow} : zhd q ≤ zca q := zsum_mono (fun i _ => by
  show (if zcnt q i = true then 1 else 0) ≤ (if zcnt q i = true then zclaim q i else 0)
  by_cases g : zcnt q i = true
  · rw [if_pos g, if_pos g]; exact zcnt_pos g
  · rw [if_neg g, if_neg g]; exact Nat.le_refl _)
theorem zca_0 {q : ZRow} (h : zhd q = 0) : zca q = 0 := by
  unfold zca
  rw [zsum_congr (g := fun _ => 0) (fun i hi => ?_), zsum_0]
  have h1 := zsum_eq0 h i hi
  by_cases g : zcnt q i = true
  · rw [if_pos g] at h1; omega
  · rw [if_neg g]
theorem zall_sum {f : Nat → Nat} {m : Nat} : zsum (fun i => if (2 ^ m - 1).testBit i then f i else 0) m = zsum f m := zsum_congr (fun i hi => by rw [tb_all, decide_eq_true hi, if_pos rfl])
theorem op_share {n : Nat} (hn : 400000000001 < n) {M : ZMem} (hI : INV M) : OPW (zf_X9_share n) (zf_X10_share n) M := by
  obtain ⟨t, nx, r, u, U, T, L, hS, hC, hM⟩ := id hI
  have hw := hS.1.1
  have hb := hw.b
  have hnl := znet_le hw
  have hps := zpaid_sum hw.1
  have hcal := zca_le hw
  have hcnl := zcntS_lt hw.1
  by_cases g : zhd r = 0
  · have gca := zca_0 g
    have gcs := (zcnt_0 hw.1).mpr g
    refine OPW.scr hS hC hM (-nI 2) ?_ (fun M1 hM1 => ?_)
    · obtain ⟨M1, e1, e2, e3⟩ := payNow9 (n := n) hC hS.1 (by omega)
      have c := (pay_rd e2).2.2.2.2.1
      refine ⟨M1, ?_, e3⟩
      simp (disch := (first | assumption | omega)) only [zf_X9_share, zlp, ↓zb1_at e1, c, gca, ↓ev_ifB, ↓ev_iflt, ↓ev_ifle, ↓ev_ifeq, ↓ifp, ↓ifn, ↓ev_b1, ↓ev_b2, ↓ev_put, ↓ev_z0, ↓ev_z1, ↓ev_zB, ↓ev_has9, ↓ev_has10, ↓ev_shl, ↓ev_bit, ↓ev_in, ↓ev_inG, ↓ev_rd, ↓ev_st, decide_eq_true_eq, nI_add, ev_sub, pk_mul, nI_or, nI_xor, zBt, zBf, if_true, if_false, eq_self, Bool.false_eq_true]
    · obtain ⟨M2, e1, e2, e3, e4⟩ := paysNow10 (n := n) hM1.1 hS.1 hn
      have c := e3.2.2.2.1
      refine ⟨M2, ?_, e4⟩
      simp (disch := (first | assumption | omega)) only [zf_X10_share, zf_X10_share_j40, zlp, ↓zb1_at e1, c, gcs, ↓ev_ifB, ↓ev_iflt, ↓ev_ifle, ↓ev_ifeq, ↓ifp, ↓ifn, ↓ev_b1, ↓ev_b2, ↓ev_put, ↓ev_z0, ↓ev_z1, ↓ev_zB, ↓ev_has9, ↓ev_has10, ↓ev_shl, ↓ev_bit, ↓ev_in, ↓ev_inG, ↓ev_rd, ↓ev_st, decide_eq_true_eq, nI_add, ev_sub, pk_mul, nI_or, nI_xor, zBt, zBf, if_true, if_false, eq_self, Bool.false_eq_true]
  · have gca : 0 < zca r := by have := zhd_ca (q := r); omega
    have gcs : ¬ zcntS r = 0 := fun z => g ((zcnt_0 hw.1).mp z)
    refine OPW.scr hS hC hM (nI (zsum (zpaid r) (r 0) * 100 / zca r)) ?_ (fun M1 hM1 => ?_)
    · obtain ⟨M1, e1, e2, e3⟩ := payNow9 (n := n) hC hS.1 (by omega)
      obtain ⟨c1, c2, c3, c4, c5, c6, -⟩ := pay_rd e2
      have esub : znet r - zleft r = zsum (zpaid r) (r 0) := by omega
      have hne : ¬ nI (zca r) = 0 := nI_ne0 gca (by omega)
      refine ⟨M1, ?_, e3⟩
      unfold zf_X9_share
      rw [zb1_at e1, c5, if_pos (show (0 : Int32) < nI (zca r) from (nI_ltI (a := 0) (by omega) (by omega)).mpr gca), c1, c3, pk_sub (by omega), esub, show (100 : Int32) = nI 100 from rfl, pk_mul, zdiv_at hne, pk_div (by omega) gca (by omega)]
    · obtain ⟨M2, e1, e2, e3, e4⟩ := paysNow10 (n := n) hM1.1 hS.1 hn
      have c := e3.2.2.2.1
      have hal := all10 (e3.1 0 (by omega)) hw.1
      have hpa := paidAll10 (n := n) (a := 2 ^ r 0 - 1) e3.1 hw (rme_rd e2).1 (by omega) (by omega)
      rw [zall_sum] at hpa
      have hcc := claims10 (n := n) (a := zcntS r) e3.1 hw hcnl (by omega)
      rw [zcnt_claims (sq_refl r)] at hcc
      have l100 : (100 : Int64) = lN 100 := rfl
      refine ⟨M2, ?_, e4⟩
      rw [Nat.mul_comm]
      simp (disch := (first | assumption | omega)) only [zf_X10_share, zf_X10_share_j40, zlp, ↓zb1_at e1, c, ↓ev_ifB, ↓ev_iflt, ↓ev_ifle, ↓ev_ifeq, ↓ifp, ↓ifn, ↓ev_b1, ↓ev_b2, ↓ev_put, ↓ev_z0, ↓ev_z1, ↓ev_zB, ↓ev_has9, ↓ev_has10, ↓ev_shl, ↓ev_bit, ↓ev_in, ↓ev_inG, ↓ev_rd, ↓ev_st, decide_eq_true_eq, nI_add, ev_sub, pk_mul, nI_or, nI_xor, zBt, zBf, if_true, if_false, eq_self, Bool.false_eq_true, ↓zb1_at hal, ↓zb1_at hpa, ↓zb1_at hcc, l100, ev_l, lN_mul, ↓ev_ldiv, lN_i]
/-- how many have all their claim -/
def zsat (q : ZRow) : Nat := zsum (fun i => if zcnt q i && (zpaid q i == zclaim q i) then 1 else 0) (q 0)
theorem satisfied3 {M : ZMem} {q : ZRow} {n : Nat} (h : PAY M q) (hw : WF q) (hn : 10 < n) : zf_X3_satisfied n (nI (q 0)) M = some (nI (zsat q)) := by
  have hb := hw.b
  obtain ⟨c1, c2, c3, c4, c5, c6, c7, c8, c9⟩ := pay_rd h
  have hcnl := zcntS_lt hw.1
  unfold zf_X3_satisfied
  refine zloop (fun m i (x : Nat) => zf_X3_satisfied_L4 (nI (q 0)) M (fun v => some v) m (nI x) (nI i)) (zsum (fun i => if zcnt q i && (zpaid q i == zclaim q i) then 1 else 0)) _ (q 0) (fun m i hi => ?_) (fun m => ?_) n 0 (Nat.zero_le _) (by omega)
  · show zf_X3_satisfied_L4 (nI (q 0)) M _ (m + 1) (nI _) (nI i) = zf_X3_satisfied_L4 (nI (q 0)) M _ m (nI _) (nI (i + 1))
    have htb := zcntS_tb hi
    have d69 := c7 i (by omega)
    have d64 := c8 i hi
    have hcl := zclaim_le hw hi
    have hpl := zpaid_le (q := q) i
    rw [zsum_s]
    cases hc : zcnt q i with
    | false =>
      rw [Bool.false_and, if_neg (by decide), Nat.add_zero]
      simp (disch := (first | assumption | omega)) only [zf_X3_satisfied_L4, zf_X3_satisfied_j38, zlp, c4, ↓ev_ifle, ↓ifp, ↓ifn, ↓ev_has9, htb, hc, ↓ev_ifB, Bool.false_eq_true, if_false, nI_add, Nat.add_zero]
    | true =>
      rw [Bool.true_and]
      by_cases g : zpaid q i = zclaim q i
      · rw [if_pos (by simp [g])]
        simp (disch := (first | assumption | omega)) only [zf_X3_satisfied_L4, zf_X3_satisfied_j38, zlp, c4, ↓ev_ifle, ↓ev_ifeq, ↓ifp, ↓ifn, ↓ev_has9, htb, hc, ↓ev_ifB, eq_self, if_true, ↓ev_rd, d69, d64, nI_add]
      · rw [if_neg (by simp [g])]
        simp (disch := (first | assumption | omega)) only [zf_X3_satisfied_L4, zf_X3_satisfied_j38, zlp, c4, ↓ev_ifle, ↓ev_ifeq, ↓ifp, ↓ifn, ↓ev_has9, htb, hc, ↓ev_ifB, eq_self, if_true, ↓ev_rd, d69, d64, nI_add, Nat.add_zero]
  · show zf_X3_satisfied_L4 (nI (q 0)) M _ (m + 1) (nI _) (nI (q 0)) = _
    simp (disch := (first | assumption | omega)) only [zf_X3_satisfied_L4, zlp, ↓ev_ifB, ↓ev_iflt, ↓ev_ifle, ↓ev_ifeq, ↓ifp, ↓ifn, ↓ev_b1, ↓ev_b2, ↓ev_put, ↓ev_z0, ↓ev_z1, ↓ev_zB, ↓ev_has9, ↓ev_has10, ↓ev_shl, ↓ev_bit, ↓ev_in, ↓ev_inG, ↓ev_rd, ↓ev_st, decide_eq_true_eq, nI_add, ev_sub, pk_mul, nI_or, nI_xor, zBt, zBf, if_true, if_false, eq_self, Bool.false_eq_true]
    rfl
theorem satisfied10 {M : ZMem} {r : ZRow} {n : Nat} (h : RQ M r r) (hg : GD r) (h86 : ∀ i, i < 10 → M 86 i = nI (zpaid r i)) (hn : 10 < n) (K : Int32 → Option (Int32 × ZMem)) : zf_X10_fundOf_L80 M K n (nI 0) (nI 0) = K (nI (zsat r)) := by
  have hw := hg.1
  have hb := hw.b
  have c4 := h.2.2.2.1
  have hcnl := zcntS_lt hw.1
  refine zloop (fun m i (x : Nat) => zf_X10_fundOf_L80 M K m (nI x) (nI i)) (zsum (fun i => if zcnt r i && (zpaid r i == zclaim r i) then 1 else 0)) _ (r 0) (fun m i hi => ?_) (fun m => ?_) n 0 (Nat.zero_le _) (by omega)
  · show zf_X10_fundOf_L80 M K (m + 1) (nI _) (nI i) = zf_X10_fundOf_L80 M K m (nI _) (nI (i + 1))
    have htb := zcntS_tb hi
    have d86 := h86 i (by omega)
    have hcl10 := claim10 h.1 hw hi
    have hcl := zclaim_le hw hi
    have hpl := zpaid_le (q := r) i
    rw [zsum_s]
    cases hc : zcnt r i with
    | false =>
      rw [Bool.false_and, if_neg (by decide), Nat.add_zero]
      simp (disch := (first | assumption | omega)) only [zf_X10_fundOf_L80, zf_X10_fundOf_j120, zf_X10_fundOf_j121, zlp, ↓rd78 h.1, c4, ↓ev_ifle, ↓ifp, ↓ifn, ↓ev_has10, htb, hc, ↓ev_ifB, Bool.false_eq_true, if_false, nI_add, Nat.add_zero]
    | true =>
      rw [Bool.true_and]
      by_cases g : zpaid r i = zclaim r i
      · rw [if_pos (by simp [g])]
        simp (disch := (first | assumption | omega)) only [zf_X10_fundOf_L80, zf_X10_fundOf_j120, zf_X10_fundOf_j121, zlp, ↓rd78 h.1, c4, ↓ev_ifle, ↓ev_ifeq, ↓ifp, ↓ifn, ↓ev_has10, htb, hc, ↓ev_ifB, eq_self, if_true, ↓ev_rd, d86, ↓zb1_at hcl10, nI_add]
      · rw [if_neg (by simp [g])]
        simp (disch := (first | assumption | omega)) only [zf_X10_fundOf_L80, zf_X10_fundOf_j120, zf_X10_fundOf_j121, zlp, ↓rd78 h.1, c4, ↓ev_ifle, ↓ev_ifeq, ↓ifp, ↓ifn, ↓ev_has10, htb, hc, ↓ev_ifB, eq_self, if_true, ↓ev_rd, d86, ↓zb1_at hcl10, nI_add, Nat.add_zero]
  · show zf_X10_fundOf_L80 M K (m + 1) (nI _) (nI (r 0)) = _
    simp (disch := (first | assumption | omega)) only [zf_X10_fundOf_L80, zlp, ↓rd78 h.1, ↓ev_ifB, ↓ev_iflt, ↓ev_ifle, ↓ev_ifeq, ↓ifp, ↓ifn, ↓ev_b1, ↓ev_b2, ↓ev_put, ↓ev_z0, ↓ev_z1, ↓ev_zB, ↓ev_has9, ↓ev_has10, ↓ev_shl, ↓ev_bit, ↓ev_in, ↓ev_inG, ↓ev_rd, ↓ev_st, decide_eq_true_eq, nI_add, ev_sub, pk_mul, nI_or, nI_xor, zBt, zBf, if_true, if_false, eq_self, Bool.false_eq_true]
    rfl
theorem op_fundOf {n : Nat} (hn : 400000000001 < n) {M : ZMem} (hI : INV M) (a : Int32) : OPW (zf_X9_fundOf n a) (zf_X10_fundOf n a) M := by
  obtain ⟨t, nx, r, u, U, T, L, hS, hC, hM⟩ := id hI
  have hw := hS.1.1
  have hb := hw.b
  have hnl := znet_le hw
  have hps := zpaid_sum hw.1
  have hcnl := zcntS_lt hw.1
  have h9 : ∃ M1, zf_X9_payNow n M = some M1 ∧ PAY M1 r ∧ F9 M M1 := payNow9 (n := n) hC hS.1 (by omega)
  obtain ⟨M1, e1, e2, e3⟩ := h9
  obtain ⟨c1, c2, c3, c4, c5, c6, c7, c8, c9⟩ := pay_rd e2
  have hC1 := hC.f9 e3
  obtain ⟨a0, -⟩ := hC1.rd
  have hdy := fun (K : Nat → Option (Int32 × ZMem)) => hC1.1.dy (K := K)
  have hst := satisfied3 (n := n) e2 hw (by omega)
  have h10 := fun M1 (hM1 : IM M1 r u U T L) => paysNow10 (n := n) hM1.1 hS.1 hn
  have esub : znet r - zleft r = zsum (zpaid r) (r 0) := by omega
  rcases zint a with ha | ⟨k, hk, rfl⟩
  · refine OPW.scr hS hC hM (-nI 1) ⟨M1, ?_, e3⟩ (fun M1 hM1 => ?_)
    · simp (disch := (first | assumption | omega)) only [zf_X9_fundOf, zlp, ↓zb1_at e1, ↓in2]
    · obtain ⟨M2, f1, f2, f3, f4⟩ := h10 M1 hM1
      exact ⟨M2, by simp (disch := (first | assumption | omega)) only [zf_X10_fundOf, zlp, ↓zb1_at f1, ↓in2], f4⟩
  · rcases (by omega : k = 0 ∨ k = 1 ∨ k = 2 ∨ k = 3 ∨ k = 4 ∨ k = 5 ∨ 6 ≤ k) with rfl | rfl | rfl | rfl | rfl | rfl | g
    · refine OPW.scr hS hC hM (nI (znet r)) ⟨M1, ?_, e3⟩ (fun M1 hM1 => ?_)
      · simp (disch := (first | assumption | omega)) only [zf_X9_fundOf, zlp, ↓zb1_at e1, ↓ev_ifB, ↓ev_iflt, ↓ev_ifle, ↓ev_ifeq, ↓ifp, ↓ifn, ↓ev_b1, ↓ev_b2, ↓ev_put, ↓ev_z0, ↓ev_z1, ↓ev_zB, ↓ev_has9, ↓ev_has10, ↓ev_shl, ↓ev_bit, ↓ev_in, ↓ev_inG, ↓ev_rd, ↓ev_st, decide_eq_true_eq, nI_add, ev_sub, pk_mul, nI_or, nI_xor, zBt, zBf, if_true, if_false, eq_self, Bool.false_eq_true, c1]
      · obtain ⟨M2, f1, f2, f3, f4⟩ := h10 M1 hM1
        have hnet := net10 (n := n) f3 (rg_refl hS.1) (by omega)
        exact ⟨M2, by simp (disch := (first | assumption | omega)) only [zf_X10_fundOf, zlp, ↓zb1_at f1, ↓ev_ifB, ↓ev_iflt, ↓ev_ifle, ↓ev_ifeq, ↓ifp, ↓ifn, ↓ev_b1, ↓ev_b2, ↓ev_put, ↓ev_z0, ↓ev_z1, ↓ev_zB, ↓ev_has9, ↓ev_has10, ↓ev_shl, ↓ev_bit, ↓ev_in, ↓ev_inG, ↓ev_rd, ↓ev_st, decide_eq_true_eq, nI_add, ev_sub, pk_mul, nI_or, nI_xor, zBt, zBf, if_true, if_false, eq_self, Bool.false_eq_true, ↓zb1_at hnet], f4⟩
    · refine OPW.scr hS hC hM (nI (zsum (zpaid r) (r 0))) ⟨M1, ?_, e3⟩ (fun M1 hM1 => ?_)
      · simp (disch := (first | assumption | omega)) only [zf_X9_fundOf, zlp, ↓zb1_at e1, ↓ev_ifB, ↓ev_iflt, ↓ev_ifle, ↓ev_ifeq, ↓ifp, ↓ifn, ↓ev_b1, ↓ev_b2, ↓ev_put, ↓ev_z0, ↓ev_z1, ↓ev_zB, ↓ev_has9, ↓ev_has10, ↓ev_shl, ↓ev_bit, ↓ev_in, ↓ev_inG, ↓ev_rd, ↓ev_st, decide_eq_true_eq, nI_add, ev_sub, pk_mul, nI_or, nI_xor, zBt, zBf, if_true, if_false, eq_self, Bool.false_eq_true, c1, c3, esub]
      · obtain ⟨M2, f1, f2, f3, f4⟩ := h10 M1 hM1
        have hal := all10 (f3.1 0 (by omega)) hw.1
        have hpa := paidAll10 (n := n) (a := 2 ^ r 0 - 1) f3.1 hw (rme_rd f2).1 (by omega) (by omega)
        rw [zall_sum] at hpa
        exact ⟨M2, by simp (disch := (first | assumption | omega)) only [zf_X10_fundOf, zlp, ↓zb1_at f1, ↓ev_ifB, ↓ev_iflt, ↓ev_ifle, ↓ev_ifeq, ↓ifp, ↓ifn, ↓ev_b1, ↓ev_b2, ↓ev_put, ↓ev_z0, ↓ev_z1, ↓ev_zB, ↓ev_has9, ↓ev_has10, ↓ev_shl, ↓ev_bit, ↓ev_in, ↓ev_inG, ↓ev_rd, ↓ev_st, decide_eq_true_eq, nI_add, ev_sub, pk_mul, nI_or, nI_xor, zBt, zBf, if_true, if_false, eq_self, Bool.false_eq_true, ↓zb1_at hal, ↓zb1_at hpa], f4⟩
    · refine OPW.scr hS hC hM (nI (zrounds r)) ⟨M1, ?_, e3⟩ (fun M1 hM1 => ?_)
      · simp (disch := (first | assumption | omega)) only [zf_X9_fundOf, zlp, ↓zb1_at e1, ↓ev_ifB, ↓ev_iflt, ↓ev_ifle, ↓ev_ifeq, ↓ifp, ↓ifn, ↓ev_b1, ↓ev_b2, ↓ev_put, ↓ev_z0, ↓ev_z1, ↓ev_zB, ↓ev_has9, ↓ev_has10, ↓ev_shl, ↓ev_bit, ↓ev_in, ↓ev_inG, ↓ev_rd, ↓ev_st, decide_eq_true_eq, nI_add, ev_sub, pk_mul, nI_or, nI_xor, zBt, zBf, if_true, if_false, eq_self, Bool.false_eq_true, c2]
      · obtain ⟨M2, f1, f2, f3, f4⟩ := h10 M1 hM1
        have d := (rme_rd f2).2.2
        exact ⟨M2, by simp (disch := (first | assumption | omega)) only [zf_X10_fundOf, zlp, ↓zb1_at f1, ↓ev_ifB, ↓ev_iflt, ↓ev_ifle, ↓ev_ifeq, ↓ifp, ↓ifn, ↓ev_b1, ↓ev_b2, ↓ev_put, ↓ev_z0, ↓ev_z1, ↓ev_zB, ↓ev_has9, ↓ev_has10, ↓ev_shl, ↓ev_bit, ↓ev_in, ↓ev_inG, ↓ev_rd, ↓ev_st, decide_eq_true_eq, nI_add, ev_sub, pk_mul, nI_or, nI_xor, zBt, zBf, if_true, if_false, eq_self, Bool.false_eq_true, d], f4⟩
    · refine OPW.scr hS hC hM (nI (zleft r)) ⟨M1, ?_, e3⟩ (fun M1 hM1 => ?_)
      · simp (disch := (first | assumption | omega)) only [zf_X9_fundOf, zlp, ↓zb1_at e1, ↓ev_ifB, ↓ev_iflt, ↓ev_ifle, ↓ev_ifeq, ↓ifp, ↓ifn, ↓ev_b1, ↓ev_b2, ↓ev_put, ↓ev_z0, ↓ev_z1, ↓ev_zB, ↓ev_has9, ↓ev_has10, ↓ev_shl, ↓ev_bit, ↓ev_in, ↓ev_inG, ↓ev_rd, ↓ev_st, decide_eq_true_eq, nI_add, ev_sub, pk_mul, nI_or, nI_xor, zBt, zBf, if_true, if_false, eq_self, Bool.false_eq_true, c3]
      · obtain ⟨M2, f1, f2, f3, f4⟩ := h10 M1 hM1
        have d := (rme_rd f2).2.1
        exact ⟨M2, by simp (disch := (first | assumption | omega)) only [zf_X10_fundOf, zlp, ↓zb1_at f1, ↓ev_ifB, ↓ev_iflt, ↓ev_ifle, ↓ev_ifeq, ↓ifp, ↓ifn, ↓ev_b1, ↓ev_b2, ↓ev_put, ↓ev_z0, ↓ev_z1, ↓ev_zB, ↓ev_has9, ↓ev_has10, ↓ev_shl, ↓ev_bit, ↓ev_in, ↓ev_inG, ↓ev_rd, ↓ev_st, decide_eq_true_eq, nI_add, ev_sub, pk_mul, nI_or, nI_xor, zBt, zBf, if_true, if_false, eq_self, Bool.false_eq_true, d], f4⟩
    · refine OPW.scr hS hC hM (nI (zhd r)) ⟨M1, ?_, e3⟩ (fun M1 hM1 => ?_)
      · simp (disch := (first | assumption | omega)) only [zf_X9_fundOf, zlp, ↓zb1_at e1, ↓ev_ifB, ↓ev_iflt, ↓ev_ifle, ↓ev_ifeq, ↓ifp, ↓ifn, ↓ev_b1, ↓ev_b2, ↓ev_put, ↓ev_z0, ↓ev_z1, ↓ev_zB, ↓ev_has9, ↓ev_has10, ↓ev_shl, ↓ev_bit, ↓ev_in, ↓ev_inG, ↓ev_rd, ↓ev_st, decide_eq_true_eq, nI_add, ev_sub, pk_mul, nI_or, nI_xor, zBt, zBf, if_true, if_false, eq_self, Bool.false_eq_true, c6]
      · obtain ⟨M2, f1, f2, f3, f4⟩ := h10 M1 hM1
        have d := f3.2.2.2.1
        have hbt := bits10 (n := n) hcnl (by omega)
        rw [show zbc (zcntS r) = zhd r from zset_bc hw.1] at hbt
        exact ⟨M2, by simp (disch := (first | assumption | omega)) only [zf_X10_fundOf, zlp, ↓zb1_at f1, ↓ev_ifB, ↓ev_iflt, ↓ev_ifle, ↓ev_ifeq, ↓ifp, ↓ifn, ↓ev_b1, ↓ev_b2, ↓ev_put, ↓ev_z0, ↓ev_z1, ↓ev_zB, ↓ev_has9, ↓ev_has10, ↓ev_shl, ↓ev_bit, ↓ev_in, ↓ev_inG, ↓ev_rd, ↓ev_st, decide_eq_true_eq, nI_add, ev_sub, pk_mul, nI_or, nI_xor, zBt, zBf, if_true, if_false, eq_self, Bool.false_eq_true, d, ↓zb1_at hbt], f4⟩
    · refine OPW.scr hS hC hM (nI (zsat r)) ⟨M1, ?_, e3⟩ (fun M1 hM1 => ?_)
      · simp (disch := (first | assumption | omega)) only [zf_X9_fundOf, zlp, ↓zb1_at e1, ↓ev_ifB, ↓ev_iflt, ↓ev_ifle, ↓ev_ifeq, ↓ifp, ↓ifn, ↓ev_b1, ↓ev_b2, ↓ev_put, ↓ev_z0, ↓ev_z1, ↓ev_zB, ↓ev_has9, ↓ev_has10, ↓ev_shl, ↓ev_bit, ↓ev_in, ↓ev_inG, ↓ev_rd, ↓ev_st, decide_eq_true_eq, nI_add, ev_sub, pk_mul, nI_or, nI_xor, zBt, zBf, if_true, if_false, eq_self, Bool.false_eq_true, ↓hdy, a0, ↓zb1_at hst]
      · obtain ⟨M2, f1, f2, f3, f4⟩ := h10 M1 hM1
        have hs10 := fun K => satisfied10 (n := n) f3 hS.1 (rme_rd f2).1 (by omega) K
        exact ⟨M2, by simp (disch := (first | assumption | omega)) only [zf_X10_fundOf, zlp, ↓zb1_at f1, ↓ev_ifB, ↓ev_iflt, ↓ev_ifle, ↓ev_ifeq, ↓ifp, ↓ifn, ↓ev_b1, ↓ev_b2, ↓ev_put, ↓ev_z0, ↓ev_z1, ↓ev_zB, ↓ev_has9, ↓ev_has10, ↓ev_shl, ↓ev_bit, ↓ev_in, ↓ev_inG, ↓ev_rd, ↓ev_st, decide_eq_true_eq, nI_add, ev_sub, pk_mul, nI_or, nI_xor, zBt, zBf, if_true, if_false, eq_self, Bool.false_eq_true, ↓hs10], f4⟩
    · refine OPW.scr hS hC hM (-nI 1) ⟨M1, ?_, e3⟩ (fun M1 hM1 => ?_)
      · simp (disch := (first | assumption | omega)) only [zf_X9_fundOf, zlp, ↓zb1_at e1, ↓ev_ifB, ↓ev_iflt, ↓ev_ifle, ↓ev_ifeq, ↓ifp, ↓ifn, ↓ev_b1, ↓ev_b2, ↓ev_put, ↓ev_z0, ↓ev_z1, ↓ev_zB, ↓ev_has9, ↓ev_has10, ↓ev_shl, ↓ev_bit, ↓ev_in, ↓ev_inG, ↓ev_rd, ↓ev_st, decide_eq_true_eq, nI_add, ev_sub, pk_mul, nI_or, nI_xor, zBt, zBf, if_true, if_false, eq_self, Bool.false_eq_true]
      · obtain ⟨M2, f1, f2, f3, f4⟩ := h10 M1 hM1
        exact ⟨M2, by simp (disch := (first | assumption | omega)) only [zf_X10_fundOf, zlp, ↓zb1_at f1, ↓ev_ifB, ↓ev_iflt, ↓ev_ifle, ↓ev_ifeq, ↓ifp, ↓ifn, ↓ev_b1, ↓ev_b2, ↓ev_put, ↓ev_z0, ↓ev_z1, ↓ev_zB, ↓ev_has9, ↓ev_has10, ↓ev_shl, ↓ev_bit, ↓ev_in, ↓ev_inG, ↓ev_rd, ↓ev_st, decide_eq_true_eq, nI_add, ev_sub, pk_mul, nI_or, nI_xor, zBt, zBf, if_true, if_false, eq_self, Bool.false_eq_true], f4⟩
