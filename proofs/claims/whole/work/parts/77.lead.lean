/-! LAYER 2: lead, settles -/
/-- the first of the greatest claim of a part, of the first i -/
def zled (r : ZRow) (g : Nat) : Nat → Option Nat
  | 0 => none
  | i + 1 => if g.testBit i then (match zled r g i with
    | none => some i
    | some b => if zclaim r i ≤ zclaim r b then some b else some i) else zled r g i
theorem zled_s (r : ZRow) (g i : Nat) : zled r g (i + 1) = if g.testBit i then (match zled r g i with | none => some i | some b => if zclaim r i ≤ zclaim r b then some b else some i) else zled r g i := rfl
theorem zled_lt {r : ZRow} {g b : Nat} : ∀ {i : Nat}, zled r g i = some b → b < i
  | 0, e => by cases e
  | i + 1, e => by
    rw [zled_s] at e
    split at e
    · cases e2 : zled r g i with
      | none => rw [e2] at e; cases e; omega
      | some b2 =>
        rw [e2] at e
        have := zled_lt e2
        simp only at e
        split at e
        · cases e; omega
        · cases e; omega
    · have := zled_lt e
      omega
def zoI1 (d : Option Nat) : Int32 := match d with
  | none => -nI 1
  | some d => nI d
theorem op_lead {n : Nat} (hn : 400000000001 < n) {M : ZMem} (hI : INV M) (a : Int32) : OPW (zf_X9_lead n a) (zf_X10_lead n a) M := by
  obtain ⟨t, nx, r, u, U, T, L, hS, hC, hM⟩ := id hI
  have hw := hS.1.1
  have hb := hw.b
  have hpl := zparts_le hw.1
  have hd : (zdv r (zin r)).1 = zparts r := rfl
  cases hz : zmem (zparts r) a with
  | false =>
    refine OPW.scr hS hC hM (-nI 1) ?_ (fun M1 hM1 => ?_)
    · obtain ⟨M1, e1, e2, e3⟩ := splitNow9 (n := n) hC hw (by omega)
      refine ⟨M1, ?_, e3.f9⟩
      simp (disch := (first | assumption | omega)) only [zf_X9_lead, zlp, ↓zb1_at e1, ↓zb1_at (isGroup6 e2 hw.1 a), hz, ↓ev_ifB, ↓ev_ifeq, ↓ifp, ↓ifn, zBt, zBf, if_true, if_false, eq_self, Bool.false_eq_true]
    · obtain ⟨M2, e1, e2, e3⟩ := hM1.1.div hw (zin_lt hw.1) hn
      refine ⟨M2, ?_, e3.f10⟩
      have e4 := e2.1
      simp (disch := (first | assumption | omega)) only [zf_X10_lead, zlp, ↓zb1_at (inNow10 hM1.1 hw), ↓zb1_at e1, e4, hd, ↓zb1_at (isInM a (show zparts r < 1073741824 by omega)), hz, ↓ev_ifB, ↓ev_ifeq, ↓ifp, ↓ifn, zBt, zBf, if_true, if_false, eq_self, Bool.false_eq_true]
  | true =>
    obtain ⟨k, hk, rfl⟩ := zmem_of hz
    have hglt := zgrp_lt (s := zin r) (f := zpart r) (k := k) hw.1
    have hgb : ∀ i, i < r 0 → (zgrp (zin r) (zpart r) (r 0) k).testBit i = ((zin r).testBit i && (zpart r i == k)) := fun i hi => by rw [zgrp_tb]; simp [hi]
    refine OPW.scr hS hC hM (zoI1 (zled r (zgrp (zin r) (zpart r) (r 0) k) (r 0))) ?_ (fun M1 hM1 => ?_)
    · obtain ⟨M1, e1, e2, e3⟩ := splitNow9 (n := n) hC hw (by omega)
      refine ⟨M1, ?_, e3.f9⟩
      have e5 := e2.2.2.2.2 k (by omega)
      have hC1 := hC.f9 e3.f9
      obtain ⟨a0, -⟩ := hC1.rd
      have hdy := fun (K : Nat → Option (Int32 × ZMem)) => hC1.1.dy (K := K)
      have hl : zf_X9_lead_L24 M1 (nI k) (fun v45 => some (v45, M1)) n (-nI 1) (-nI 1) (nI 0) = some (zoI1 (zled r (zgrp (zin r) (zpart r) (r 0) k) (r 0)), M1) := by
        refine zloop (fun m i (s : Option Nat) => zf_X9_lead_L24 M1 (nI k) (fun v45 => some (v45, M1)) m (zoI1 (s.map (zclaim r))) (zoI1 s) (nI i)) (zled r (zgrp (zin r) (zpart r) (r 0) k)) _ (r 0) (fun m i hi => ?_) (fun m => ?_) n 0 (Nat.zero_le _) (by omega)
        · show zf_X9_lead_L24 M1 (nI k) _ (m + 1) (zoI1 ((zled r (zgrp (zin r) (zpart r) (r 0) k) i).map (zclaim r))) (zoI1 (zled r (zgrp (zin r) (zpart r) (r 0) k) i)) (nI i) = zf_X9_lead_L24 M1 (nI k) _ m (zoI1 ((zled r (zgrp (zin r) (zpart r) (r 0) k) (i + 1)).map (zclaim r))) (zoI1 (zled r (zgrp (zin r) (zpart r) (r 0) k) (i + 1))) (nI (i + 1))
          have hcl := claim7 hC1.2.2.1 hC1.2.2.2.1.1 hw hi
          have hcle := zclaim_le hw hi
          rw [zled_s]
          by_cases g : (zgrp (zin r) (zpart r) (r 0) k).testBit i = true
          · rw [if_pos g]
            cases e6 : zled r (zgrp (zin r) (zpart r) (r 0) k) i with
            | none =>
              show zf_X9_lead_L24 M1 (nI k) _ (m + 1) (-nI 1) (-nI 1) (nI i) = zf_X9_lead_L24 M1 (nI k) _ m (nI (zclaim r i)) (nI i) (nI (i + 1))
              simp (disch := (first | assumption | omega)) only [zf_X9_lead_L24, zf_X9_lead_j87, zlp, ↓hdy, a0, ↓ev_ifB, ↓ev_iflt, ↓ev_ifle, ↓ev_ifeq, ↓ifp, ↓ifn, ↓ev_b1, ↓ev_b2, ↓ev_put, ↓ev_z0, ↓ev_z1, ↓ev_zB, ↓ev_has9, ↓ev_has10, ↓ev_shl, ↓ev_bit, ↓ev_in, ↓ev_inG, ↓ev_rd, ↓ev_st, decide_eq_true_eq, nI_add, ev_sub, pk_mul, nI_or, nI_xor, zBt, zBf, if_true, if_false, eq_self, Bool.false_eq_true, e5, ↓zb1_at hcl, ↓m1_le]
            | some b =>
              have hbl := zled_lt e6
              have hble := zclaim_le hw (show b < r 0 by omega)
              by_cases g2 : zclaim r i ≤ zclaim r b
              · show zf_X9_lead_L24 M1 (nI k) _ (m + 1) (nI (zclaim r b)) (nI b) (nI i) = zf_X9_lead_L24 M1 (nI k) _ m (zoI1 ((if zclaim r i ≤ zclaim r b then some b else some i).map (zclaim r))) (zoI1 (if zclaim r i ≤ zclaim r b then some b else some i)) (nI (i + 1))
                rw [if_pos g2]
                show _ = zf_X9_lead_L24 M1 (nI k) _ m (nI (zclaim r b)) (nI b) (nI (i + 1))
                simp (disch := (first | assumption | omega)) only [zf_X9_lead_L24, zf_X9_lead_j87, zlp, ↓hdy, a0, ↓ev_ifB, ↓ev_iflt, ↓ev_ifle, ↓ev_ifeq, ↓ifp, ↓ifn, ↓ev_b1, ↓ev_b2, ↓ev_put, ↓ev_z0, ↓ev_z1, ↓ev_zB, ↓ev_has9, ↓ev_has10, ↓ev_shl, ↓ev_bit, ↓ev_in, ↓ev_inG, ↓ev_rd, ↓ev_st, decide_eq_true_eq, nI_add, ev_sub, pk_mul, nI_or, nI_xor, zBt, zBf, if_true, if_false, eq_self, Bool.false_eq_true, e5, ↓zb1_at hcl]
              · show zf_X9_lead_L24 M1 (nI k) _ (m + 1) (nI (zclaim r b)) (nI b) (nI i) = zf_X9_lead_L24 M1 (nI k) _ m (zoI1 ((if zclaim r i ≤ zclaim r b then some b else some i).map (zclaim r))) (zoI1 (if zclaim r i ≤ zclaim r b then some b else some i)) (nI (i + 1))
                rw [if_neg g2]
                show _ = zf_X9_lead_L24 M1 (nI k) _ m (nI (zclaim r i)) (nI i) (nI (i + 1))
                simp (disch := (first | assumption | omega)) only [zf_X9_lead_L24, zf_X9_lead_j87, zlp, ↓hdy, a0, ↓ev_ifB, ↓ev_iflt, ↓ev_ifle, ↓ev_ifeq, ↓ifp, ↓ifn, ↓ev_b1, ↓ev_b2, ↓ev_put, ↓ev_z0, ↓ev_z1, ↓ev_zB, ↓ev_has9, ↓ev_has10, ↓ev_shl, ↓ev_bit, ↓ev_in, ↓ev_inG, ↓ev_rd, ↓ev_st, decide_eq_true_eq, nI_add, ev_sub, pk_mul, nI_or, nI_xor, zBt, zBf, if_true, if_false, eq_self, Bool.false_eq_true, e5, ↓zb1_at hcl]
          · rw [if_neg g]
            simp (disch := (first | assumption | omega)) only [zf_X9_lead_L24, zf_X9_lead_j87, zlp, ↓hdy, a0, ↓ev_ifB, ↓ev_iflt, ↓ev_ifle, ↓ev_ifeq, ↓ifp, ↓ifn, ↓ev_b1, ↓ev_b2, ↓ev_put, ↓ev_z0, ↓ev_z1, ↓ev_zB, ↓ev_has9, ↓ev_has10, ↓ev_shl, ↓ev_bit, ↓ev_in, ↓ev_inG, ↓ev_rd, ↓ev_st, decide_eq_true_eq, nI_add, ev_sub, pk_mul, nI_or, nI_xor, zBt, zBf, if_true, if_false, eq_self, Bool.false_eq_true, e5]
        · show zf_X9_lead_L24 M1 (nI k) _ (m + 1) _ _ (nI (r 0)) = _
          simp (disch := (first | assumption | omega)) only [zf_X9_lead_L24, zlp, ↓hdy, a0, ↓ev_ifB, ↓ev_iflt, ↓ev_ifle, ↓ev_ifeq, ↓ifp, ↓ifn, ↓ev_b1, ↓ev_b2, ↓ev_put, ↓ev_z0, ↓ev_z1, ↓ev_zB, ↓ev_has9, ↓ev_has10, ↓ev_shl, ↓ev_bit, ↓ev_in, ↓ev_inG, ↓ev_rd, ↓ev_st, decide_eq_true_eq, nI_add, ev_sub, pk_mul, nI_or, nI_xor, zBt, zBf, if_true, if_false, eq_self, Bool.false_eq_true]
      simp (disch := (first | assumption | omega)) only [zf_X9_lead, zlp, ↓zb1_at e1, ↓zb1_at (isGroup6 e2 hw.1 _), hz, ↓ev_ifB, ↓ev_ifeq, ↓ifp, ↓ifn, zBt, zBf, if_true, if_false, eq_self, Bool.false_eq_true, hl]
    · obtain ⟨M2, e1, e2, e3⟩ := hM1.1.div hw (zin_lt hw.1) hn
      refine ⟨M2, ?_, e3.f10⟩
      have e4 := e2.1
      have hR2 : IR M2 r := hM1.1.congr (e3.1 78 (by omega) (by omega))
      have hl : zf_X10_lead_L28 M2 (nI k) (fun v39 => some (v39, M2)) n (-nI 1) (nI 0) = some (zoI1 (zled r (zgrp (zin r) (zpart r) (r 0) k) (r 0)), M2) := by
        refine zloop (fun m i (s : Option Nat) => zf_X10_lead_L28 M2 (nI k) (fun v39 => some (v39, M2)) m (zoI1 s) (nI i)) (zled r (zgrp (zin r) (zpart r) (r 0) k)) _ (r 0) (fun m i hi => ?_) (fun m => ?_) n 0 (Nat.zero_le _) (by omega)
        · show zf_X10_lead_L28 M2 (nI k) _ (m + 1) (zoI1 (zled r (zgrp (zin r) (zpart r) (r 0) k) i)) (nI i) = zf_X10_lead_L28 M2 (nI k) _ m (zoI1 (zled r (zgrp (zin r) (zpart r) (r 0) k) (i + 1))) (nI (i + 1))
          have hcl := claim10 hR2 hw hi
          have hcle := zclaim_le hw hi
          have hpi := e2.2 i (by omega)
          have hpb := zpart_b hw.1 i hi
          unfold zpI at hpi
          have hzp : zpart r i = (zdv r (zin r)).2 i := rfl
          rw [zled_s]
          by_cases g1 : (zin r).testBit i = true
          · rw [if_pos ⟨hi, g1⟩, ← hzp] at hpi
            have hpb := hpb g1
            by_cases g2 : zpart r i = k
            · have g : (zgrp (zin r) (zpart r) (r 0) k).testBit i = true := by rw [hgb i hi]; simp [g1, g2]
              rw [if_pos g]
              cases e6 : zled r (zgrp (zin r) (zpart r) (r 0) k) i with
              | none =>
                show zf_X10_lead_L28 M2 (nI k) _ (m + 1) (-nI 1) (nI i) = zf_X10_lead_L28 M2 (nI k) _ m (nI i) (nI (i + 1))
                simp (disch := (first | assumption | omega)) only [zf_X10_lead_L28, zf_X10_lead_j66, zf_X10_lead_j70, zf_X10_lead_j71, zlp, ↓rd78 hR2, ↓ev_ifB, ↓ev_iflt, ↓ev_ifle, ↓ev_ifeq, ↓ifp, ↓ifn, ↓ev_b1, ↓ev_b2, ↓ev_put, ↓ev_z0, ↓ev_z1, ↓ev_zB, ↓ev_has9, ↓ev_has10, ↓ev_shl, ↓ev_bit, ↓ev_in, ↓ev_inG, ↓ev_rd, ↓ev_st, decide_eq_true_eq, nI_add, ev_sub, pk_mul, nI_or, nI_xor, zBt, zBf, if_true, if_false, eq_self, Bool.false_eq_true, hpi, ↓m1_rf]
              | some b =>
                have hbl := zled_lt e6
                have hble := zclaim_le hw (show b < r 0 by omega)
                have hclb := claim10 hR2 hw (show b < r 0 by omega)
                by_cases g3 : zclaim r i ≤ zclaim r b
                · show zf_X10_lead_L28 M2 (nI k) _ (m + 1) (nI b) (nI i) = zf_X10_lead_L28 M2 (nI k) _ m (zoI1 (if zclaim r i ≤ zclaim r b then some b else some i)) (nI (i + 1))
                  rw [if_pos g3]
                  show _ = zf_X10_lead_L28 M2 (nI k) _ m (nI b) (nI (i + 1))
                  simp (disch := (first | assumption | omega)) only [zf_X10_lead_L28, zf_X10_lead_j66, zf_X10_lead_j70, zf_X10_lead_j71, zlp, ↓rd78 hR2, ↓ev_ifB, ↓ev_iflt, ↓ev_ifle, ↓ev_ifeq, ↓ifp, ↓ifn, ↓ev_b1, ↓ev_b2, ↓ev_put, ↓ev_z0, ↓ev_z1, ↓ev_zB, ↓ev_has9, ↓ev_has10, ↓ev_shl, ↓ev_bit, ↓ev_in, ↓ev_inG, ↓ev_rd, ↓ev_st, decide_eq_true_eq, nI_add, ev_sub, pk_mul, nI_or, nI_xor, zBt, zBf, if_true, if_false, eq_self, Bool.false_eq_true, hpi, ↓m1_eq, ↓zb1_at hcl, ↓zb1_at hclb]
                · show zf_X10_lead_L28 M2 (nI k) _ (m + 1) (nI b) (nI i) = zf_X10_lead_L28 M2 (nI k) _ m (zoI1 (if zclaim r i ≤ zclaim r b then some b else some i)) (nI (i + 1))
                  rw [if_neg g3]
                  show _ = zf_X10_lead_L28 M2 (nI k) _ m (nI i) (nI (i + 1))
                  simp (disch := (first | assumption | omega)) only [zf_X10_lead_L28, zf_X10_lead_j66, zf_X10_lead_j70, zf_X10_lead_j71, zlp, ↓rd78 hR2, ↓ev_ifB, ↓ev_iflt, ↓ev_ifle, ↓ev_ifeq, ↓ifp, ↓ifn, ↓ev_b1, ↓ev_b2, ↓ev_put, ↓ev_z0, ↓ev_z1, ↓ev_zB, ↓ev_has9, ↓ev_has10, ↓ev_shl, ↓ev_bit, ↓ev_in, ↓ev_inG, ↓ev_rd, ↓ev_st, decide_eq_true_eq, nI_add, ev_sub, pk_mul, nI_or, nI_xor, zBt, zBf, if_true, if_false, eq_self, Bool.false_eq_true, hpi, ↓m1_eq, ↓zb1_at hcl, ↓zb1_at hclb]
            · have g : ¬ (zgrp (zin r) (zpart r) (r 0) k).testBit i = true := by rw [hgb i hi]; simp [g2]
              rw [if_neg g]
              simp (disch := (first | assumption | omega)) only [zf_X10_lead_L28, zf_X10_lead_j66, zf_X10_lead_j70, zf_X10_lead_j71, zlp, ↓rd78 hR2, ↓ev_ifB, ↓ev_iflt, ↓ev_ifle, ↓ev_ifeq, ↓ifp, ↓ifn, ↓ev_b1, ↓ev_b2, ↓ev_put, ↓ev_z0, ↓ev_z1, ↓ev_zB, ↓ev_has9, ↓ev_has10, ↓ev_shl, ↓ev_bit, ↓ev_in, ↓ev_inG, ↓ev_rd, ↓ev_st, decide_eq_true_eq, nI_add, ev_sub, pk_mul, nI_or, nI_xor, zBt, zBf, if_true, if_false, eq_self, Bool.false_eq_true, hpi]
          · rw [if_neg (fun z => g1 z.2)] at hpi
            have g : ¬ (zgrp (zin r) (zpart r) (r 0) k).testBit i = true := by rw [hgb i hi]; simp [g1]
            rw [if_neg g]
            have hne : ¬ -nI 1 = nI k := zneg_ne (by decide) (by omega)
            simp (disch := (first | assumption | omega)) only [zf_X10_lead_L28, zf_X10_lead_j66, zf_X10_lead_j70, zf_X10_lead_j71, zlp, ↓rd78 hR2, ↓ev_ifB, ↓ev_iflt, ↓ev_ifle, ↓ev_ifeq, ↓ifp, ↓ifn, ↓ev_b1, ↓ev_b2, ↓ev_put, ↓ev_z0, ↓ev_z1, ↓ev_zB, ↓ev_has9, ↓ev_has10, ↓ev_shl, ↓ev_bit, ↓ev_in, ↓ev_inG, ↓ev_rd, ↓ev_st, decide_eq_true_eq, nI_add, ev_sub, pk_mul, nI_or, nI_xor, zBt, zBf, if_true, if_false, eq_self, Bool.false_eq_true, hpi]
        · show zf_X10_lead_L28 M2 (nI k) _ (m + 1) _ (nI (r 0)) = _
          simp (disch := (first | assumption | omega)) only [zf_X10_lead_L28, zlp, ↓rd78 hR2, ↓ev_ifB, ↓ev_iflt, ↓ev_ifle, ↓ev_ifeq, ↓ifp, ↓ifn, ↓ev_b1, ↓ev_b2, ↓ev_put, ↓ev_z0, ↓ev_z1, ↓ev_zB, ↓ev_has9, ↓ev_has10, ↓ev_shl, ↓ev_bit, ↓ev_in, ↓ev_inG, ↓ev_rd, ↓ev_st, decide_eq_true_eq, nI_add, ev_sub, pk_mul, nI_or, nI_xor, zBt, zBf, if_true, if_false, eq_self, Bool.false_eq_true]
      simp (disch := (first | assumption | omega)) only [zf_X10_lead, zlp, ↓zb1_at (inNow10 hM1.1 hw), ↓zb1_at e1, e4, hd, ↓zb1_at (isInM _ (show zparts r < 1073741824 by omega)), hz, ↓ev_ifB, ↓ev_ifeq, ↓ifp, ↓ifn, zBt, zBf, if_true, if_false, eq_self, Bool.false_eq_true, hl]
/-- without a conflict there are fewer -/
def zset2 (r : ZRow) (a b : Nat) : Bool := (r (63 + a)).testBit b && decide ((zdv (ztog r a b) (zin r)).1 < zparts r)
def zsB (r : ZRow) (a : Nat) : Nat → Nat → Option Nat
  | 0, _ => none
  | d + 1, b => if zset2 r a b then some (10 * a + b) else zsB r a d (b + 1)
def zsA (r : ZRow) : Nat → Nat → Option Nat
  | 0, _ => none
  | d + 1, a => match zsB r a d (a + 1) with
    | some v => some v
    | none => zsA r d (a + 1)
theorem ztog_out {r : ZRow} {a b : Nat} (hab : a ≠ b) (h : (zin r).testBit a = false ∨ (zin r).testBit b = false) : zdv (ztog r a b) (zin r) = zdv r (zin r) := by
  refine zdv_row (ztog_ne (by omega)) (fun i hi hsi j hj hsj => ?_)
  rw [ztog_tb hab]
  have e : (decide (i = a ∧ j = b) || decide (i = b ∧ j = a)) = false := by
    by_cases h1 : i = a ∧ j = b
    · rw [h1.1] at hsi; rw [h1.2] at hsj; rw [hsi, hsj] at h; simp at h
    · by_cases h2 : i = b ∧ j = a
      · rw [h2.1] at hsi; rw [h2.2] at hsj; rw [hsi, hsj] at h; simp at h
      · simp [h1, h2]
  rw [e, Bool.xor_false]
/-- what holds between two tries of the class -/
def SI9 (M M1 : ZMem) (r : ZRow) : Prop := M1 57 0 = nI (r 0) ∧ M1 57 1 = nI (zin r) ∧ (∀ j, j < 10 → M1 58 j = nI (r (63 + j))) ∧ F9 M M1
theorem zxx {a b : Nat} : a ^^^ b ^^^ b = a := by
  apply Nat.eq_of_testBit_eq
  intro j
  simp
theorem fewer9 {M M1 : ZMem} {r : ZRow} {a b n : Nat} (h : SI9 M M1 r) (hg : GD r) (ha : a < r 0) (hb : b < r 0) (hab : a ≠ b) (hn : 20 < n) : ∃ M2, zf_X6_isFewerWithout n (nI a) (nI b) (nI (zparts r)) M1 = some (zB (decide ((zdv (ztog r a b) (zin r)).1 < zparts r)), M2) ∧ SI9 M M2 r := by
  have hw := hg.1
  have hbd := hw.b
  have hs := zin_lt hw.1
  obtain ⟨p1, p2, p3, p4⟩ := id h
  have hpl := zparts_le hw.1
  by_cases ga : (zin r).testBit a = true
  · by_cases gb : (zin r).testBit b = true
    · have hone : 1 ≤ zparts r := by have := zpart_lt hw.1 ha ga; omega
      have hg' := ztog_gd hg ha hb hab
      have e0 : ztog r a b 0 = r 0 := ztog_ne (by omega)
      have f1 := p3 a (by omega)
      have f2 := p3 b (by omega)
      have x1 : zwr M1 58 a (nI (r (63 + a) ^^^ 2 ^ b)) 58 b = nI (r (63 + b)) := by rw [wrj (Ne.symm hab)]; exact f2
      obtain ⟨M', e1, e2, e3⟩ := fitsInto6 (q := ztog r a b) (s := zin r) (many := zparts r - 1) (n := n) (M := zwr (zwr M1 58 a (nI (r (63 + a) ^^^ 2 ^ b))) 58 b (nI (r (63 + b) ^^^ 2 ^ a))) (by omega) hs (fun j hj => hg'.1.foe hj) (by omega) hn (by rw [wrn (by omega), wrn (by omega), e0]; exact p1) (by rw [wrn (by omega), wrn (by omega)]; exact p2) (fun j hj => by
        by_cases g2 : j = b
        · subst g2; rw [wre, ztog_2]
        · rw [wrj g2]
          by_cases g1 : j = a
          · subst g1; rw [wre, ztog_1 hab]
          · rw [wrj g1, ztog_3 g1 g2]; exact p3 j hj)
      rw [zdv_lt (by omega) hone] at e1
      have m58 : M' 58 = zwr (zwr M1 58 a (nI (r (63 + a) ^^^ 2 ^ b))) 58 b (nI (r (63 + b) ^^^ 2 ^ a)) 58 := e2.1 58 (by omega) (by omega)
      have y1 : M' 58 a = nI (r (63 + a) ^^^ 2 ^ b) := by rw [m58, wrj hab, wre]
      have y2 : zwr M' 58 a (nI (r (63 + a) ^^^ 2 ^ b ^^^ 2 ^ b)) 58 b = nI (r (63 + b) ^^^ 2 ^ a) := by rw [wrj (Ne.symm hab), m58, wre]
      refine ⟨zwr (zwr M' 58 a (nI (r (63 + a)))) 58 b (nI (r (63 + b))), ?_, ?_, ?_, fun j hj => ?_, ?_⟩
      · rw [zxx] at y2
        simp (disch := (first | assumption | omega)) only [zf_X6_isFewerWithout, zf_X6_isFewerWithout_j22, zlp, p2, ↓ev_ifB, ↓ev_iflt, ↓ev_ifle, ↓ev_ifeq, ↓ifp, ↓ifn, ↓ev_b1, ↓ev_b2, ↓ev_put, ↓ev_z0, ↓ev_z1, ↓ev_zB, ↓ev_has9, ↓ev_has10, ↓ev_shl, ↓ev_bit, ↓ev_in, ↓ev_inG, ↓ev_rd, ↓ev_st, decide_eq_true_eq, nI_add, ev_sub, pk_mul, nI_or, nI_xor, zBt, zBf, if_true, if_false, eq_self, Bool.false_eq_true, f1, x1, e1, y1, zxx, y2]
      · rw [wrn (by omega), wrn (by omega), e2.2 0 (by omega), wrn (by omega), wrn (by omega)]; exact p1
      · rw [wrn (by omega), wrn (by omega), e2.2 1 (by omega), wrn (by omega), wrn (by omega)]; exact p2
      · by_cases g2 : j = b
        · subst g2; rw [wre]
        · rw [wrj g2]
          by_cases g1 : j = a
          · subst g1; rw [wre]
          · rw [wrj g1, m58, wrj g2, wrj g1]; exact p3 j hj
      · refine p4.trans ?_
        have hk : ∀ k, k ≠ 57 → k ≠ 58 → k ≠ 59 → zwr (zwr M' 58 a (nI (r (63 + a)))) 58 b (nI (r (63 + b))) k = M1 k := fun k a b c => by rw [wrn b, wrn b, e2.1 k a c, wrn b, wrn b]
        exact FS.f9 ⟨hk, by rw [wrn (by omega), wrn (by omega), e2.2 7 (by omega), wrn (by omega), wrn (by omega)], by rw [wrn (by omega), wrn (by omega), e2.2 8 (by omega), wrn (by omega), wrn (by omega)]⟩
    · have gb' : (zin r).testBit b = false := by simpa using gb
      rw [ztog_out hab (Or.inr gb')]
      refine ⟨M1, ?_, h⟩
      have : decide ((zdv r (zin r)).1 < zparts r) = false := decide_eq_false (Nat.lt_irrefl _)
      rw [this]
      simp (disch := (first | assumption | omega)) only [zf_X6_isFewerWithout, zf_X6_isFewerWithout_j22, zlp, p2, ↓ev_ifB, ↓ev_iflt, ↓ev_ifle, ↓ev_ifeq, ↓ifp, ↓ifn, ↓ev_b1, ↓ev_b2, ↓ev_put, ↓ev_z0, ↓ev_z1, ↓ev_zB, ↓ev_has9, ↓ev_has10, ↓ev_shl, ↓ev_bit, ↓ev_in, ↓ev_inG, ↓ev_rd, ↓ev_st, decide_eq_true_eq, nI_add, ev_sub, pk_mul, nI_or, nI_xor, zBt, zBf, if_true, if_false, eq_self, Bool.false_eq_true]
  · have ga' : (zin r).testBit a = false := by simpa using ga
    rw [ztog_out hab (Or.inl ga')]
    refine ⟨M1, ?_, h⟩
    have : decide ((zdv r (zin r)).1 < zparts r) = false := decide_eq_false (Nat.lt_irrefl _)
    rw [this]
    simp (disch := (first | assumption | omega)) only [zf_X6_isFewerWithout, zf_X6_isFewerWithout_j22, zlp, p2, ↓ev_ifB, ↓ev_iflt, ↓ev_ifle, ↓ev_ifeq, ↓ifp, ↓ifn, ↓ev_b1, ↓ev_b2, ↓ev_put, ↓ev_z0, ↓ev_z1, ↓ev_zB, ↓ev_has9, ↓ev_has10, ↓ev_shl, ↓ev_bit, ↓ev_in, ↓ev_inG, ↓ev_rd, ↓ev_st, decide_eq_true_eq, nI_add, ev_sub, pk_mul, nI_or, nI_xor, zBt, zBf, if_true, if_false, eq_self, Bool.false_eq_true]
