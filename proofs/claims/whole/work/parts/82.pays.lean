/-! LAYER 2: the reference pays -/
/-- a row as it would be: another fund, rule, others out, filed, lazy -/
def SQ (r q : ZRow) : Prop := ∀ j, j ≠ 2 → j ≠ 9 → j ≠ 12 → j ≠ 13 → j ≠ 14 → q j = r j
theorem sq_claim {r q : ZRow} (h : SQ r q) (i : Nat) : zclaim q i = zclaim r i := by
  unfold zclaim
  rw [h (35 + i) (by omega) (by omega) (by omega) (by omega) (by omega), h (15 + i) (by omega) (by omega) (by omega) (by omega) (by omega), h (25 + i) (by omega) (by omega) (by omega) (by omega) (by omega), h 6 (by omega) (by omega) (by omega) (by omega) (by omega), h 7 (by omega) (by omega) (by omega) (by omega) (by omega)]
theorem sq_0 {r q : ZRow} (h : SQ r q) : q 0 = r 0 := h 0 (by omega) (by omega) (by omega) (by omega) (by omega)
theorem sq_ta {r q : ZRow} (h : SQ r q) : TA r q := fun j hj => by
  unfold zto at hj
  exact h j (by omega) (by omega) (by omega) (by omega) (by omega)
theorem sq_cost {r q : ZRow} (h : SQ r q) (h0 : r 0 ≤ 10) : zcostN q = zcostN r := zcostN_ta (sq_ta h) h0 (h 10 (by omega) (by omega) (by omega) (by omega) (by omega)) (h 11 (by omega) (by omega) (by omega) (by omega) (by omega))
theorem sq_dv {r q : ZRow} (h : SQ r q) (s : Nat) : zdv q s = zdv r s := zdv_row (sq_0 h) (fun i hi hs j hj hs2 => by rw [h (63 + i) (by omega) (by omega) (by omega) (by omega) (by omega)])
def RQ (M : ZMem) (r q : ZRow) : Prop := IR M r ∧ M 77 20 = nI (zparts q) ∧ SPt M (zin q) (zpart q) (q 0) ∧ M 77 22 = nI (zcntS q) ∧ M 77 23 = nI (q 14) ∧ M 77 24 = nI (q 2) ∧ M 77 25 = nI (q 9)
/-- rows that belong together -/
def RG (r q : ZRow) : Prop := GD r ∧ GD q ∧ SQ r q
def FQ (M M' : ZMem) : Prop := (∀ k, k ≠ 77 → k ≠ 86 → k ≠ 87 → k ≠ 88 → k ≠ 89 → M' k = M k) ∧ ∀ j, j ≠ 28 → j ≠ 29 → M' 77 j = M 77 j
theorem fq_refl (M : ZMem) : FQ M M := ⟨fun _ _ _ _ _ _ => rfl, fun _ _ _ => rfl⟩
theorem fq_trans {A B C : ZMem} (h : FQ A B) (g : FQ B C) : FQ A C := ⟨fun k a b c d e => (g.1 k a b c d e).trans (h.1 k a b c d e), fun j a b => (g.2 j a b).trans (h.2 j a b)⟩
theorem rq_fq {M M' : ZMem} {r q : ZRow} (h : RQ M r q) (g : FQ M M') : RQ M' r q := by
  obtain ⟨h1, h2, h3, h4, h5, h6, h7⟩ := h
  exact ⟨h1.congr (g.1 78 (by omega) (by omega) (by omega) (by omega) (by omega)), by rw [g.2 20 (by omega) (by omega)]; exact h2, fun j hj => by rw [g.1 85 (by omega) (by omega) (by omega) (by omega) (by omega)]; exact h3 j hj, by rw [g.2 22 (by omega) (by omega)]; exact h4, by rw [g.2 23 (by omega) (by omega)]; exact h5, by rw [g.2 24 (by omega) (by omega)]; exact h6, by rw [g.2 25 (by omega) (by omega)]; exact h7⟩
theorem zcntS_tb {q : ZRow} {i : Nat} (hi : i < q 0) : (zcntS q).testBit i = zcnt q i := by
  unfold zcntS
  rw [zset_tb]
  simp [hi]
theorem zcntS_lt {q : ZRow} (h : q 0 ≤ 10) : zcntS q < 1024 := Nat.lt_of_lt_of_le (zset_lt _ _) (zpow_le h)
/-- those counted in a part -/
def zcin (q : ZRow) (k : Nat) : Nat := zset (fun i => zcnt q i && (zpart q i == k)) (q 0)
theorem zcin_tb {q : ZRow} {k i : Nat} (hi : i < q 0) : (zcin q k).testBit i = (zcnt q i && (zpart q i == k)) := by
  unfold zcin
  rw [zset_tb]
  simp [hi]
theorem zcin_lt {q : ZRow} {k : Nat} (h : q 0 ≤ 10) : zcin q k < 1024 := Nat.lt_of_lt_of_le (zset_lt _ _) (zpow_le h)
theorem rq_part {M : ZMem} {r q : ZRow} (h : RQ M r q) (h0 : q 0 ≤ 10) {i : Nat} (hi : i < q 0) (hc : zcnt q i = true) : M 85 i = nI (zpart q i) := by
  have := h.2.2.1 i (by omega)
  unfold zpI at this
  rw [if_pos ⟨hi, zcnt_in hi hc⟩] at this
  exact this
theorem countedIn10 {M : ZMem} {r q : ZRow} {k n : Nat} (h : RQ M r q) (hr : RG r q) (hk : k < 2147483648) (hn : 10 < n) : zf_X10_countedIn n (nI k) M = some (nI (zcin q k)) := by
  have hb := hr.2.1.1.b
  have e0 := sq_0 hr.2.2
  have h22 := h.2.2.2.1
  have hlt := zcntS_lt hb.1
  unfold zf_X10_countedIn
  refine zloop (fun m i (x : Nat) => zf_X10_countedIn_L4 M (nI k) (fun v => some v) m (nI x) (nI i)) (fun i => zset (fun i => zcnt q i && (zpart q i == k)) i) _ (q 0) (fun m i hi => ?_) (fun m => ?_) n 0 (Nat.zero_le _) (by omega)
  · show zf_X10_countedIn_L4 M (nI k) _ (m + 1) (nI _) (nI i) = zf_X10_countedIn_L4 M (nI k) _ m (nI _) (nI (i + 1))
    have e : zset (fun i => zcnt q i && (zpart q i == k)) (i + 1) = if (zcnt q i && (zpart q i == k)) = true then zset (fun i => zcnt q i && (zpart q i == k)) i ||| 2 ^ i else zset (fun i => zcnt q i && (zpart q i == k)) i := rfl
    have htb := zcntS_tb hi
    rw [e]
    cases hc : zcnt q i with
    | false =>
      rw [Bool.false_and, if_neg (by decide)]
      simp (disch := (first | assumption | omega)) only [zf_X10_countedIn_L4, zf_X10_countedIn_j42, zf_X10_countedIn_j43, zlp, ↓rd78 h.1, ↓ev_ifle, ↓ifp, ↓ifn, h22, ↓ev_has10, htb, hc, ↓ev_ifB, Bool.false_eq_true, if_false, nI_or, nI_add, Nat.or_zero]
    | true =>
      have hp := rq_part h hb.1 hi hc
      have hpl := zpart10 hb.1 hi hc
      rw [Bool.true_and]
      by_cases g : zpart q i = k
      · rw [if_pos (by simp [g])]
        simp (disch := (first | assumption | omega)) only [zf_X10_countedIn_L4, zf_X10_countedIn_j42, zf_X10_countedIn_j43, zlp, ↓rd78 h.1, ↓ev_ifle, ↓ev_ifeq, ↓ifp, ↓ifn, h22, ↓ev_has10, htb, hc, ↓ev_ifB, eq_self, if_true, ↓ev_rd, hp, ↓ev_shl, nI_or, nI_add]
      · rw [if_neg (by simp [g])]
        simp (disch := (first | assumption | omega)) only [zf_X10_countedIn_L4, zf_X10_countedIn_j42, zf_X10_countedIn_j43, zlp, ↓rd78 h.1, ↓ev_ifle, ↓ev_ifeq, ↓ifp, ↓ifn, h22, ↓ev_has10, htb, hc, ↓ev_ifB, eq_self, if_true, ↓ev_rd, hp, nI_or, nI_add, Nat.or_zero]
  · show zf_X10_countedIn_L4 M (nI k) _ (m + 1) (nI _) (nI (q 0)) = _
    simp (disch := (first | assumption | omega)) only [zf_X10_countedIn_L4, zlp, ↓rd78 h.1, ↓ev_ifB, ↓ev_iflt, ↓ev_ifle, ↓ev_ifeq, ↓ifp, ↓ifn, ↓ev_b1, ↓ev_b2, ↓ev_put, ↓ev_z0, ↓ev_z1, ↓ev_zB, ↓ev_has9, ↓ev_has10, ↓ev_shl, ↓ev_bit, ↓ev_in, ↓ev_inG, ↓ev_rd, ↓ev_st, decide_eq_true_eq, nI_add, ev_sub, pk_mul, nI_or, nI_xor, zBt, zBf, if_true, if_false, eq_self, Bool.false_eq_true]
    rfl
theorem zcin_claims {r q : ZRow} (h : SQ r q) (k : Nat) : zclaims r (zcin q k) = zgc q k := by
  unfold zclaims zgc
  rw [← sq_0 h]
  exact zsum_congr (fun i hi => by rw [zcin_tb hi, sq_claim h])
theorem zcnt_claims {r q : ZRow} (h : SQ r q) : zclaims r (zcntS q) = zca q := by
  unfold zclaims zca
  rw [← sq_0 h]
  exact zsum_congr (fun i hi => by rw [zcntS_tb hi, sq_claim h])
theorem zset_bc {p : Nat → Bool} {m : Nat} (h : m ≤ 10) : zbc (zset p m) = zsum (fun i => if p i then 1 else 0) m := by
  unfold zbc
  rw [zsum_ext (m := m) h (fun j hj => by rw [zset_tb, decide_eq_false (by omega)]; rfl)]
  exact zsum_congr (fun i hi => by rw [zset_tb, decide_eq_true hi, Bool.true_and]; cases p i <;> rfl)
theorem zcin_0 {q : ZRow} (h0 : q 0 ≤ 10) {k : Nat} : (zcin q k = 0) ↔ (zgh q k = 0) := by
  have e : zbc (zcin q k) = zgh q k := zset_bc h0
  constructor
  · intro h
    rw [h] at e
    rw [← e]
    decide
  · intro h
    refine tb_ext (n := 10) (zcin_lt h0) (by omega) (fun j hj => ?_)
    rw [Nat.zero_testBit]
    unfold zcin
    rw [zset_tb]
    by_cases hj2 : j < q 0
    · have h1 := zsum_eq0 h j hj2
      have h2 : (if (zcnt q j && (zpart q j == k)) = true then 1 else 0) = 0 := h1
      by_cases g : (zcnt q j && (zpart q j == k)) = true
      · rw [if_pos g] at h2; omega
      · have g' : (zcnt q j && (zpart q j == k)) = false := by simpa using g
        rw [g', Bool.and_false]
    · rw [decide_eq_false hj2, Bool.false_and]
theorem zgh_parts {q : ZRow} (h0 : q 0 ≤ 10) {k : Nat} (hk : zparts q ≤ k) : zgh q k = 0 := by
  unfold zgh
  rw [zsum_congr (g := fun _ => 0) (fun i hi => ?_), zsum_0]
  by_cases g : zcnt q i = true
  · have := zpart_lt h0 hi (zcnt_in hi g)
    rw [if_neg (by simp; intro _; omega)]
  · rw [if_neg (by simp [g])]
theorem net10 {M : ZMem} {r q : ZRow} {n : Nat} (h : RQ M r q) (hr : RG r q) (hn : 10 < n) : zf_X10_net n M = some (nI (znet q)) := by
  have hb := hr.2.1.1.b
  have hc := zcostN_le hr.2.1
  have hcs := costs10 (n := n) h.1 hr.1 hn
  rw [← sq_cost hr.2.2 hr.1.1.1] at hcs
  have e3 : r 3 = q 3 := (hr.2.2 3 (by omega) (by omega) (by omega) (by omega) (by omega)).symm
  have hm : q 3 * q 2 ≤ 50 * 99999 := Nat.mul_le_mul (by omega) (by omega)
  have hdiv : q 3 * q 2 / 100 ≤ 50000 := by omega
  have h24 := h.2.2.2.2.2.1
  have hz : nI (q 2) - nI (zcostN q) - nI (q 3 * q 2 / 100) = nI (q 2) - nI (zcostN q + q 3 * q 2 / 100) := by rw [Int32.sub_sub, nI_add]
  unfold zf_X10_net zf_X10_net_j34
  rw [zb1_at hcs, show (3 : Int32) = nI 3 from rfl, rd78 h.1 _ (by omega) (by omega), e3, h24, pk_mul, show (100 : Int32) = nI 100 from rfl, pk_div (by omega) (by omega) (by omega), hz]
  unfold znet znetF
  by_cases g : zcostN q + q 3 * q 2 / 100 ≤ q 2
  · rw [pk_sub g, if_pos (nI_pos' (by omega))]
  · rw [if_neg (fun z => Int32.not_lt.mpr z (pk_sneg (by omega) (by omega))), show q 2 - (zcostN q + q 3 * q 2 / 100) = 0 by omega]
    rfl
theorem potOf10 {M : ZMem} {r q : ZRow} {k n : Nat} (h : RQ M r q) (hr : RG r q) (hk : k < 10) (hn : 20 < n) : zf_X10_potOf n (nI k) M = some (nI (zpotF q (znet q) k)) := by
  have hw := hr.2.1.1
  have hb := hw.b
  have h0 := hw.1
  have hci := countedIn10 (k := k) (n := n) h hr (by omega) (by omega)
  have hnet := net10 (n := n) h hr (by omega)
  have hnl := znet_le hw
  have h22 := h.2.2.2.1
  have h25 := h.2.2.2.2.2.2
  have hcl := zcin_lt (k := k) h0
  have hcs := zcntS_lt h0
  have z0 := zcin_0 (k := k) h0
  unfold zpotF
  by_cases g : zgh q k = 0
  · have g' := z0.mpr g
    rw [if_pos g]
    simp (disch := (first | assumption | omega)) only [zf_X10_potOf, zlp, ↓zb1_at hci, g', ↓ev_ifB, ↓ev_iflt, ↓ev_ifle, ↓ev_ifeq, ↓ifp, ↓ifn, ↓ev_b1, ↓ev_b2, ↓ev_put, ↓ev_z0, ↓ev_z1, ↓ev_zB, ↓ev_has9, ↓ev_has10, ↓ev_shl, ↓ev_bit, ↓ev_in, ↓ev_inG, ↓ev_rd, ↓ev_st, decide_eq_true_eq, nI_add, ev_sub, pk_mul, nI_or, nI_xor, zBt, zBf, if_true, if_false, eq_self, Bool.false_eq_true]
  · have g' : ¬ zcin q k = 0 := fun z => g (z0.mp z)
    have hwa := zwa_pos h0 hk g
    have hwal := zwa_le hw
    have hwtl := zwt_le hw hk
    have hmul : znet q * zwt q k ≤ 99999 * 99000 := Nat.mul_le_mul hnl hwtl
    rw [if_neg g]
    by_cases g1 : q 9 = 0
    · have ewt : zwt q k = zgc q k := by unfold zwt; rw [if_pos g1]
      have ewa : zwa q = zca q := by unfold zwa; rw [if_pos g1]
      have c1 := claims10 (n := n) (a := zcin q k) h.1 hr.1.1 hcl (by omega)
      have c2 := claims10 (n := n) (a := zcntS q) h.1 hr.1.1 hcs (by omega)
      rw [zcin_claims hr.2.2, ← ewt] at c1
      rw [zcnt_claims hr.2.2, ← ewa] at c2
      simp (disch := (first | assumption | omega)) only [zf_X10_potOf, zlp, ↓zb1_at hci, ↓zb1_at hnet, h25, h22, ↓ev_ifB, ↓ev_iflt, ↓ev_ifle, ↓ev_ifeq, ↓ifp, ↓ifn, ↓ev_b1, ↓ev_b2, ↓ev_put, ↓ev_z0, ↓ev_z1, ↓ev_zB, ↓ev_has9, ↓ev_has10, ↓ev_shl, ↓ev_bit, ↓ev_in, ↓ev_inG, ↓ev_rd, ↓ev_st, decide_eq_true_eq, nI_add, ev_sub, pk_mul, nI_or, nI_xor, zBt, zBf, if_true, if_false, eq_self, Bool.false_eq_true, ↓zb1_at c1, ↓zb1_at c2, ev_l, lN_mul, ↓ev_ldiv, lN_i]
    · by_cases g2 : q 9 = 1
      · have ewt : zwt q k = zgh q k := by unfold zwt; rw [if_neg g1, if_pos g2]
        have ewa : zwa q = zhd q := by unfold zwa; rw [if_neg g1, if_pos g2]
        have c1 := bits10 (n := n) hcl (by omega)
        have c2 := bits10 (n := n) hcs (by omega)
        have b1 : zbc (zcin q k) = zwt q k := by rw [ewt]; exact zset_bc h0
        have b2 : zbc (zcntS q) = zwa q := by rw [ewa]; exact zset_bc h0
        rw [b1] at c1
        rw [b2] at c2
        simp (disch := (first | assumption | omega)) only [zf_X10_potOf, zlp, ↓zb1_at hci, ↓zb1_at hnet, h25, h22, ↓ev_ifB, ↓ev_iflt, ↓ev_ifle, ↓ev_ifeq, ↓ifp, ↓ifn, ↓ev_b1, ↓ev_b2, ↓ev_put, ↓ev_z0, ↓ev_z1, ↓ev_zB, ↓ev_has9, ↓ev_has10, ↓ev_shl, ↓ev_bit, ↓ev_in, ↓ev_inG, ↓ev_rd, ↓ev_st, decide_eq_true_eq, nI_add, ev_sub, pk_mul, nI_or, nI_xor, zBt, zBf, if_true, if_false, eq_self, Bool.false_eq_true, ↓zb1_at c1, ↓zb1_at c2, ev_l, lN_mul, ↓ev_ldiv, lN_i]
      · have ewt : zwt q k = 1 := by unfold zwt; rw [if_neg g1, if_neg g2]
        have ewa : zwa q = zgp q := by unfold zwa; rw [if_neg g1, if_neg g2]
        have hpl := zparts_le h0
        have h20 := h.2.1
        have cl : ∀ (K : Int32 → Option Int32), zf_X10_potOf_L77 M n K n (nI 0) (nI 0) = K (nI (zwa q)) := by
          intro K
          have egp : zwa q = zsum (fun k => if zgh q k = 0 then 0 else 1) (zparts q) := by
            rw [ewa]
            exact zsum_ext (by omega) (fun j hj => by rw [zgh_parts h0 hj, if_pos rfl])
          rw [egp]
          refine zloop (fun m p (s : Nat) => zf_X10_potOf_L77 M n K m (nI s) (nI p)) (zsum (fun k => if zgh q k = 0 then 0 else 1)) _ (zparts q) (fun m p hp => ?_) (fun m => ?_) n 0 (Nat.zero_le _) (by omega)
          · show zf_X10_potOf_L77 M n K (m + 1) (nI _) (nI p) = zf_X10_potOf_L77 M n K m (nI _) (nI (p + 1))
            have hcp := countedIn10 (k := p) (n := n) h hr (by omega) (by omega)
            have hcpl := zcin_lt (k := p) h0
            have zp := zcin_0 (k := p) h0
            rw [zsum_s]
            by_cases gp : zgh q p = 0
            · have gp' := zp.mpr gp
              rw [if_pos gp, Nat.add_zero]
              simp (disch := (first | assumption | omega)) only [zf_X10_potOf_L77, zf_X10_potOf_j102, zlp, h20, ↓ev_ifB, ↓ev_iflt, ↓ev_ifle, ↓ev_ifeq, ↓ifp, ↓ifn, ↓ev_b1, ↓ev_b2, ↓ev_put, ↓ev_z0, ↓ev_z1, ↓ev_zB, ↓ev_has9, ↓ev_has10, ↓ev_shl, ↓ev_bit, ↓ev_in, ↓ev_inG, ↓ev_rd, ↓ev_st, decide_eq_true_eq, nI_add, ev_sub, pk_mul, nI_or, nI_xor, zBt, zBf, if_true, if_false, eq_self, Bool.false_eq_true, ↓zb1_at hcp, gp', Nat.add_zero]
            · have gp' : ¬ zcin q p = 0 := fun z => gp (zp.mp z)
              rw [if_neg gp]
              simp (disch := (first | assumption | omega)) only [zf_X10_potOf_L77, zf_X10_potOf_j102, zlp, h20, ↓ev_ifB, ↓ev_iflt, ↓ev_ifle, ↓ev_ifeq, ↓ifp, ↓ifn, ↓ev_b1, ↓ev_b2, ↓ev_put, ↓ev_z0, ↓ev_z1, ↓ev_zB, ↓ev_has9, ↓ev_has10, ↓ev_shl, ↓ev_bit, ↓ev_in, ↓ev_inG, ↓ev_rd, ↓ev_st, decide_eq_true_eq, nI_add, ev_sub, pk_mul, nI_or, nI_xor, zBt, zBf, if_true, if_false, eq_self, Bool.false_eq_true, ↓zb1_at hcp]
          · show zf_X10_potOf_L77 M n K (m + 1) (nI _) (nI (zparts q)) = _
            simp (disch := (first | assumption | omega)) only [zf_X10_potOf_L77, zlp, h20, ↓ev_ifB, ↓ev_iflt, ↓ev_ifle, ↓ev_ifeq, ↓ifp, ↓ifn, ↓ev_b1, ↓ev_b2, ↓ev_put, ↓ev_z0, ↓ev_z1, ↓ev_zB, ↓ev_has9, ↓ev_has10, ↓ev_shl, ↓ev_bit, ↓ev_in, ↓ev_inG, ↓ev_rd, ↓ev_st, decide_eq_true_eq, nI_add, ev_sub, pk_mul, nI_or, nI_xor, zBt, zBf, if_true, if_false, eq_self, Bool.false_eq_true]
        rw [ewt, Nat.mul_one]
        simp (disch := (first | assumption | omega)) only [zf_X10_potOf, zlp, ↓zb1_at hci, ↓zb1_at hnet, h25, h22, ↓ev_ifB, ↓ev_iflt, ↓ev_ifle, ↓ev_ifeq, ↓ifp, ↓ifn, ↓ev_b1, ↓ev_b2, ↓ev_put, ↓ev_z0, ↓ev_z1, ↓ev_zB, ↓ev_has9, ↓ev_has10, ↓ev_shl, ↓ev_bit, ↓ev_in, ↓ev_inG, ↓ev_rd, ↓ev_st, decide_eq_true_eq, nI_add, ev_sub, pk_mul, nI_or, nI_xor, zBt, zBf, if_true, if_false, eq_self, Bool.false_eq_true, cl, ev_l, ↓ev_ldiv, lN_i]
theorem sent10 {M : ZMem} {r q : ZRow} {a b c : Nat} (h : RQ M r q) (hr : RG r q) (ha : a ≤ 99999) (hb : b ≤ 99999) (hc0 : 0 < c) (hc : c ≤ 99999) : zf_X10_sent (nI a) (lN b) (nI c) M = some (nI (zleastOf q (min a (b * a / c)))) := by
  have hbd := hr.2.1.1.b
  have e4 : r 4 = q 4 := (hr.2.2 4 (by omega) (by omega) (by omega) (by omega) (by omega)).symm
  have hmul : b * a ≤ 99999 * 99999 := Nat.mul_le_mul hb ha
  have hdl : b * a / c ≤ b * a := Nat.div_le_self _ _
  have tail : ∀ x, x ≤ 99999 → zf_X10_sent_j25 M (lN x) = some (nI (zleastOf q x)) := by
    intro x hx
    unfold zf_X10_sent_j25 zf_X10_sent_j47 zleastOf
    rw [show (4 : Int32) = nI 4 from rfl, rd78 h.1 _ (by omega) (by omega), e4, ev_l (by omega), lN_i]
    by_cases g : x < q 4
    · rw [if_pos g, if_neg (fun z => ?_)]
      · rfl
      · have := (pk_lLE (by omega) (by omega)).mp ((lg_cmp_ge _ _).mp z)
        omega
    · rw [if_neg g, if_pos ((lg_cmp_ge _ _).mpr ((pk_lLE (by omega) (by omega)).mpr (by omega)))]
  unfold zf_X10_sent
  rw [ev_l (by omega), ev_l (by omega), lN_mul, ev_ldiv _ (by omega) hc0 (by omega)]
  by_cases g : b * a / c ≤ a
  · rw [if_pos ((lg_cmp_le _ _).mpr ((pk_lLE (by omega) (by omega)).mpr g)), tail _ (by omega), Nat.min_eq_right g]
  · rw [if_neg (fun z => g ((pk_lLE (by omega) (by omega)).mp ((lg_cmp_le _ _).mp z))), tail _ (by omega), Nat.min_eq_left (by omega)]
/-- behind k rounds of the reference -/
def RME (M : ZMem) (q : ZRow) (v k : Nat) : Prop := (∀ j, j < 10 → M 86 j = nI (zpk q v k j)) ∧ (∀ l, l < 9 → ∀ j, j < 10 → M 87 (10 * l + j) = nI (if l < k then zhadF q v l j else 0)) ∧ M 77 29 = nI (zlk q v k) ∧ M 77 28 = nI (zrk q v k)
/-- what no round changes -/
def PSm (M : ZMem) (r q : ZRow) (v : Nat) : Prop := RQ M r q ∧ ∀ k, k < zparts q → M 88 k = nI (zpotF q v k) ∧ M 89 k = nI (zgc q k)
def FH (M M' : ZMem) : Prop := (∀ k, k ≠ 77 → k ≠ 86 → k ≠ 87 → M' k = M k) ∧ ∀ j, j ≠ 28 → j ≠ 29 → M' 77 j = M 77 j
theorem fh_refl (M : ZMem) : FH M M := ⟨fun _ _ _ _ => rfl, fun _ _ _ => rfl⟩
theorem fh_trans {A B C : ZMem} (h : FH A B) (g : FH B C) : FH A C := ⟨fun k a b c => (g.1 k a b c).trans (h.1 k a b c), fun j a b => (g.2 j a b).trans (h.2 j a b)⟩
theorem fh_fq {A B : ZMem} (h : FH A B) : FQ A B := ⟨fun k a b c _ _ => h.1 k a b c, h.2⟩
theorem psm_fh {M M' : ZMem} {r q : ZRow} {v : Nat} (h : PSm M r q v) (g : FH M M') : PSm M' r q v := ⟨rq_fq h.1 (fh_fq g), fun k hk => by rw [g.1 88 (by omega) (by omega) (by omega), g.1 89 (by omega) (by omega) (by omega)]; exact h.2 k hk⟩
theorem lacked10 {M : ZMem} {r q : ZRow} {v k n : Nat} (h : RQ M r q) (hr : RG r q) (hp : ∀ j, j < 10 → M 86 j = nI (zpk q v k j)) (hn : 20 < n) : zf_X10_lackedByAll n M = some (nI (zlack q (zpk q v k))) := by
  have hw := hr.2.1.1
  have hb := hw.b
  have e0 := sq_0 hr.2.2
  have h22 := h.2.2.2.1
  have h23 := h.2.2.2.2.1
  have hcs := zcntS_lt hb.1
  unfold zf_X10_lackedByAll
  refine zloop (fun m i (s : Nat) => zf_X10_lackedByAll_L4 M (fun v => some v) m (nI s) (nI i)) (zsum (fun i => if zhun q i then zclaim q i - zpk q v k i else 0)) _ (q 0) (fun m i hi => ?_) (fun m => ?_) n 0 (Nat.zero_le _) (by omega)
  · show zf_X10_lackedByAll_L4 M _ (m + 1) (nI _) (nI i) = zf_X10_lackedByAll_L4 M _ m (nI _) (nI (i + 1))
    have htb := zcntS_tb hi
    have hcl := claim10 h.1 hr.1.1 (show i < r 0 by omega)
    rw [← sq_claim hr.2.2] at hcl
    have c86 := hp i (by omega)
    have hpl := zpk_le (q := q) (v := v) k i
    have ehun : zhun q i = (zcnt q i && !(q 14).testBit i) := rfl
    rw [zsum_s, ehun]
    cases hc : zcnt q i with
    | false =>
      rw [Bool.false_and, if_neg (by decide)]
      simp (disch := (first | assumption | omega)) only [zf_X10_lackedByAll_L4, zf_X10_lackedByAll_j52, zf_X10_lackedByAll_j53, zlp, ↓rd78 h.1, ↓ev_ifle, ↓ifp, ↓ifn, h22, ↓ev_has10, htb, hc, ↓ev_ifB, Bool.false_eq_true, if_false, nI_add, Nat.add_zero]
    | true =>
      cases hz : (q 14).testBit i with
      | true =>
        rw [Bool.not_true, Bool.and_false, if_neg (by decide)]
        simp (disch := (first | assumption | omega)) only [zf_X10_lackedByAll_L4, zf_X10_lackedByAll_j52, zf_X10_lackedByAll_j53, zlp, ↓rd78 h.1, ↓ev_ifle, ↓ifp, ↓ifn, h22, h23, ↓ev_has10, htb, hc, hz, ↓ev_ifB, eq_self, if_true, nI_add, Nat.add_zero]
      | false =>
        rw [Bool.not_false, Bool.and_true, if_pos rfl]
        simp (disch := (first | assumption | omega)) only [zf_X10_lackedByAll_L4, zf_X10_lackedByAll_j52, zf_X10_lackedByAll_j53, zlp, ↓rd78 h.1, ↓ev_ifle, ↓ifp, ↓ifn, h22, h23, ↓ev_has10, htb, hc, hz, ↓ev_ifB, eq_self, if_true, Bool.false_eq_true, if_false, ↓zb1_at hcl, ↓ev_rd, c86, ev_sub, nI_add]
  · show zf_X10_lackedByAll_L4 M _ (m + 1) (nI _) (nI (q 0)) = _
    simp (disch := (first | assumption | omega)) only [zf_X10_lackedByAll_L4, zlp, ↓rd78 h.1, ↓ev_ifB, ↓ev_iflt, ↓ev_ifle, ↓ev_ifeq, ↓ifp, ↓ifn, ↓ev_b1, ↓ev_b2, ↓ev_put, ↓ev_z0, ↓ev_z1, ↓ev_zB, ↓ev_has9, ↓ev_has10, ↓ev_shl, ↓ev_bit, ↓ev_in, ↓ev_inG, ↓ev_rd, ↓ev_st, decide_eq_true_eq, nI_add, ev_sub, pk_mul, nI_or, nI_xor, zBt, zBf, if_true, if_false, eq_self, Bool.false_eq_true]
    rfl
