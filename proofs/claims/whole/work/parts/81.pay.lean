/-! LAYER 2: the class pays -/
/-- what stands while it pays: the payer's cells that no round changes -/
def PS (M : ZMem) (q : ZRow) (v : Nat) : Prop := GI M q (q 0) ∧ M 63 11 = nI (zhunS q) ∧ M 63 15 = nI v ∧ ∀ k, k < 10 → M 68 k = nI (zpotF q v k)
theorem weightOf3 {M : ZMem} {q : ZRow} {k : Nat} (h : GI M q (q 0)) (hw : WF q) (hk : k < 10) : zf_X3_weightOf (nI k) M = some (nI (zwt q k)) := by
  have hb := hw.b
  obtain ⟨h1, h2, h3, h4, h5, h6, h7, h8, h9, h10⟩ := h
  obtain ⟨b1, b2⟩ := h10 k hk
  have e1 : zgcp q (q 0) k = zgc q k := rfl
  have e2 : zghp q (q 0) k = zgh q k := rfl
  unfold zwt
  by_cases g1 : q 9 = 0
  · rw [if_pos g1]
    simp (disch := (first | assumption | omega)) only [zf_X3_weightOf, zlp, h3, ↓ev_ifB, ↓ev_iflt, ↓ev_ifle, ↓ev_ifeq, ↓ifp, ↓ifn, ↓ev_b1, ↓ev_b2, ↓ev_put, ↓ev_z0, ↓ev_z1, ↓ev_zB, ↓ev_has9, ↓ev_has10, ↓ev_shl, ↓ev_bit, ↓ev_in, ↓ev_inG, ↓ev_rd, ↓ev_st, decide_eq_true_eq, nI_add, ev_sub, pk_mul, nI_or, nI_xor, zBt, zBf, if_true, if_false, eq_self, Bool.false_eq_true, b1, e1]
  · rw [if_neg g1]
    by_cases g2 : q 9 = 1
    · rw [if_pos g2]
      simp (disch := (first | assumption | omega)) only [zf_X3_weightOf, zlp, h3, ↓ev_ifB, ↓ev_iflt, ↓ev_ifle, ↓ev_ifeq, ↓ifp, ↓ifn, ↓ev_b1, ↓ev_b2, ↓ev_put, ↓ev_z0, ↓ev_z1, ↓ev_zB, ↓ev_has9, ↓ev_has10, ↓ev_shl, ↓ev_bit, ↓ev_in, ↓ev_inG, ↓ev_rd, ↓ev_st, decide_eq_true_eq, nI_add, ev_sub, pk_mul, nI_or, nI_xor, zBt, zBf, if_true, if_false, eq_self, Bool.false_eq_true, b2, e2]
    · rw [if_neg g2]
      simp (disch := (first | assumption | omega)) only [zf_X3_weightOf, zlp, h3, ↓ev_ifB, ↓ev_iflt, ↓ev_ifle, ↓ev_ifeq, ↓ifp, ↓ifn, ↓ev_b1, ↓ev_b2, ↓ev_put, ↓ev_z0, ↓ev_z1, ↓ev_zB, ↓ev_has9, ↓ev_has10, ↓ev_shl, ↓ev_bit, ↓ev_in, ↓ev_inG, ↓ev_rd, ↓ev_st, decide_eq_true_eq, nI_add, ev_sub, pk_mul, nI_or, nI_xor, zBt, zBf, if_true, if_false, eq_self, Bool.false_eq_true]
theorem zca_le {q : ZRow} (hw : WF q) : zca q ≤ 99000 := by
  have hb := hw.b
  have := zsum_le (f := fun i => if zcnt q i then zclaim q i else 0) (c := 9900) (n := q 0) (fun i hi => by
    show (if zcnt q i = true then zclaim q i else 0) ≤ 9900
    have := zclaim_le hw hi
    split <;> omega)
  unfold zca
  omega
theorem zhd_le {q : ZRow} : zhd q ≤ q 0 := by
  have := zsum_le (f := fun i => if zcnt q i then 1 else 0) (c := 1) (n := q 0) (fun i hi => by show (if _ then 1 else 0) ≤ 1; split <;> omega)
  unfold zhd
  omega
theorem zgp_le {q : ZRow} : zgp q ≤ 10 := by
  have := zsum_le (f := fun k => if zgh q k = 0 then 0 else 1) (c := 1) (n := 10) (fun i hi => by show (if _ then 0 else 1) ≤ 1; split <;> omega)
  unfold zgp
  omega
theorem zwa_le {q : ZRow} (hw : WF q) : zwa q ≤ 99000 := by
  have hb := hw.b
  have h1 := zca_le hw
  have h2 := zhd_le (q := q)
  have h3 := zgp_le (q := q)
  unfold zwa
  split
  · omega
  · split <;> omega
theorem zgc_le {q : ZRow} (hw : WF q) {k : Nat} (hk : k < 10) : zgc q k ≤ 99000 := by
  have h1 := zca_le hw
  have h2 := zgc_sum hw.1
  have h3 := zsum_one (f := zgc q) hk
  omega
theorem zwt_le {q : ZRow} (hw : WF q) {k : Nat} (hk : k < 10) : zwt q k ≤ 99000 := by
  have h1 := zgc_le hw hk
  have h2 := zgh_gc (q := q) (k := k)
  unfold zwt
  split
  · omega
  · split <;> omega
theorem weightInAll3 {M : ZMem} {q : ZRow} (h : GI M q (q 0)) (hw : WF q) (hz : 0 < zwa q) : zf_X3_weightInAll M = some (nI (zwa q)) := by
  have hb := hw.b
  obtain ⟨h1, h2, h3, h4, h5, h6, h7, h8, h9, h10⟩ := h
  have e1 : zcap q (q 0) = zca q := rfl
  have e2 : zhdp q (q 0) = zhd q := rfl
  have e3 : zgpp q (q 0) = zgp q := rfl
  have l1 := zca_le hw
  have l2 := zhd_le (q := q)
  have l3 := zgp_le (q := q)
  unfold zwa at hz ⊢
  by_cases g1 : q 9 = 0
  · rw [if_pos g1] at hz ⊢
    simp (disch := (first | assumption | omega)) only [zf_X3_weightInAll, zlp, h3, ↓ev_ifB, ↓ev_iflt, ↓ev_ifle, ↓ev_ifeq, ↓ifp, ↓ifn, ↓ev_b1, ↓ev_b2, ↓ev_put, ↓ev_z0, ↓ev_z1, ↓ev_zB, ↓ev_has9, ↓ev_has10, ↓ev_shl, ↓ev_bit, ↓ev_in, ↓ev_inG, ↓ev_rd, ↓ev_st, decide_eq_true_eq, nI_add, ev_sub, pk_mul, nI_or, nI_xor, zBt, zBf, if_true, if_false, eq_self, Bool.false_eq_true, h5, e1, ev_max, Nat.max_eq_right]
  · rw [if_neg g1] at hz ⊢
    by_cases g2 : q 9 = 1
    · rw [if_pos g2] at hz ⊢
      simp (disch := (first | assumption | omega)) only [zf_X3_weightInAll, zlp, h3, ↓ev_ifB, ↓ev_iflt, ↓ev_ifle, ↓ev_ifeq, ↓ifp, ↓ifn, ↓ev_b1, ↓ev_b2, ↓ev_put, ↓ev_z0, ↓ev_z1, ↓ev_zB, ↓ev_has9, ↓ev_has10, ↓ev_shl, ↓ev_bit, ↓ev_in, ↓ev_inG, ↓ev_rd, ↓ev_st, decide_eq_true_eq, nI_add, ev_sub, pk_mul, nI_or, nI_xor, zBt, zBf, if_true, if_false, eq_self, Bool.false_eq_true, h6, e2, ev_max, Nat.max_eq_right]
    · rw [if_neg g2] at hz ⊢
      simp (disch := (first | assumption | omega)) only [zf_X3_weightInAll, zlp, h3, ↓ev_ifB, ↓ev_iflt, ↓ev_ifle, ↓ev_ifeq, ↓ifp, ↓ifn, ↓ev_b1, ↓ev_b2, ↓ev_put, ↓ev_z0, ↓ev_z1, ↓ev_zB, ↓ev_has9, ↓ev_has10, ↓ev_shl, ↓ev_bit, ↓ev_in, ↓ev_inG, ↓ev_rd, ↓ev_st, decide_eq_true_eq, nI_add, ev_sub, pk_mul, nI_or, nI_xor, zBt, zBf, if_true, if_false, eq_self, Bool.false_eq_true, h7, e3, ev_max, Nat.max_eq_right]
theorem GI.fr68 {M M' : ZMem} {q : ZRow} {i : Nat} (h : GI M q i) (e : ∀ k, 64 ≤ k → k ≤ 67 → M' k = M k) (e2 : ∀ j, 7 ≤ j → j ≤ 14 → M' 63 j = M 63 j) : GI M' q i := by
  obtain ⟨h1, h2, h3, h4, h5, h6, h7, h8, h9, h10⟩ := h
  exact ⟨by rw [e2 7 (by omega) (by omega)]; exact h1, by rw [e2 8 (by omega) (by omega)]; exact h2, by rw [e2 9 (by omega) (by omega)]; exact h3, by rw [e2 10 (by omega) (by omega)]; exact h4, by rw [e2 12 (by omega) (by omega)]; exact h5, by rw [e2 13 (by omega) (by omega)]; exact h6, by rw [e2 14 (by omega) (by omega)]; exact h7, fun j hj => by rw [e 64 (by omega) (by omega)]; exact h8 j hj, fun j hj hc => by rw [e 65 (by omega) (by omega)]; exact h9 j hj hc, fun k hk => by rw [e 66 (by omega) (by omega), e 67 (by omega) (by omega)]; exact h10 k hk⟩
theorem fillPots3 {M : ZMem} {q : ZRow} {v n : Nat} (h : GI M q (q 0)) (hw : WF q) (hv : v ≤ 99999) (hn : 100 < n) : Ok (zf_X3_fillPots n (nI v) M) (fun M' => (∀ k, k < 10 → M' 68 k = nI (zpotF q v k)) ∧ Fr 68 68 M M') := by
  have hb := hw.b
  unfold zf_X3_fillPots
  refine floop (fun m i (S : ZMem) => zf_X3_fillPots_L2 (nI v) (fun M35 => some M35) m (nI i) S) (fun i S => (∀ k, k < i → S 68 k = nI (zpotF q v k)) ∧ Fr 68 68 M S) 10 (fun M' => (∀ k, k < 10 → M' 68 k = nI (zpotF q v k)) ∧ Fr 68 68 M M') (fun i S hi hI => ?_) (fun S hI m => ?_) n 0 M (by omega) ⟨fun k hk => by omega, Fr.refl _ _ _⟩ (by omega)
  · obtain ⟨hP, hF⟩ := hI
    refine Or.inl ⟨zwr S 68 i (nI (zpotF q v i)), ⟨fun k hk => ?_, hF.trans (Fr.wr S i _ (by omega) (by omega))⟩, fun m => ?_⟩
    · by_cases e : k = i
      · subst e; exact wre
      · rw [wrj e]; exact hP k (by omega)
    · show zf_X3_fillPots_L2 (nI v) _ (m + 1) (nI i) S = zf_X3_fillPots_L2 (nI v) _ m (nI (i + 1)) _
      have hG : GI S q (q 0) := h.fr68 (fun k a b => hF k (by omega)) (fun j a b => by rw [hF 63 (by omega)])
      have e67 : S 67 i = nI (zgh q i) := (hG.2.2.2.2.2.2.2.2.2 i hi).2
      have hghl := zghp_le (q := q) (i := q 0) (k := i)
      have hghe : zghp q (q 0) i = zgh q i := rfl
      unfold zpotF
      by_cases g : zgh q i = 0
      · rw [if_pos g]
        simp (disch := (first | assumption | omega)) only [zf_X3_fillPots_L2, zf_X3_fillPots_j42, zlp, ↓ev_ifB, ↓ev_iflt, ↓ev_ifle, ↓ev_ifeq, ↓ifp, ↓ifn, ↓ev_b1, ↓ev_b2, ↓ev_put, ↓ev_z0, ↓ev_z1, ↓ev_zB, ↓ev_has9, ↓ev_has10, ↓ev_shl, ↓ev_bit, ↓ev_in, ↓ev_inG, ↓ev_rd, ↓ev_st, decide_eq_true_eq, nI_add, ev_sub, pk_mul, nI_or, nI_xor, zBt, zBf, if_true, if_false, eq_self, Bool.false_eq_true, e67]
      · rw [if_neg g]
        have hwa := zwa_pos hw.1 hi g
        have hwal := zwa_le hw
        have hwtl := zwt_le hw hi
        have hw1 := weightOf3 (k := i) hG hw hi
        have hw2 := weightInAll3 hG hw hwa
        have hmul : v * zwt q i ≤ 99999 * 99000 := Nat.mul_le_mul hv hwtl
        simp (disch := (first | assumption | omega)) only [zf_X3_fillPots_L2, zf_X3_fillPots_j42, zlp, ↓ev_ifB, ↓ev_iflt, ↓ev_ifle, ↓ev_ifeq, ↓ifp, ↓ifn, ↓ev_b1, ↓ev_b2, ↓ev_put, ↓ev_z0, ↓ev_z1, ↓ev_zB, ↓ev_has9, ↓ev_has10, ↓ev_shl, ↓ev_bit, ↓ev_in, ↓ev_inG, ↓ev_rd, ↓ev_st, decide_eq_true_eq, nI_add, ev_sub, pk_mul, nI_or, nI_xor, zBt, zBf, if_true, if_false, eq_self, Bool.false_eq_true, e67, ↓zb1_at hw1, ↓zb1_at hw2, ev_l, lN_mul, ↓ev_ldiv, lN_i]
  · obtain ⟨hP, hF⟩ := hI
    refine ⟨S, ?_, hP, hF⟩
    show zf_X3_fillPots_L2 (nI v) _ (m + 1) (nI 10) S = _
    simp (disch := (first | assumption | omega)) only [zf_X3_fillPots_L2, zlp, ↓ev_ifB, ↓ev_iflt, ↓ev_ifle, ↓ev_ifeq, ↓ifp, ↓ifn, ↓ev_b1, ↓ev_b2, ↓ev_put, ↓ev_z0, ↓ev_z1, ↓ev_zB, ↓ev_has9, ↓ev_has10, ↓ev_shl, ↓ev_bit, ↓ev_in, ↓ev_inG, ↓ev_rd, ↓ev_st, decide_eq_true_eq, nI_add, ev_sub, pk_mul, nI_or, nI_xor, zBt, zBf, if_true, if_false, eq_self, Bool.false_eq_true]
theorem firstSent3 {M : ZMem} {q : ZRow} {v i : Nat} (h : PS M q v) (hw : WF q) (hv : v ≤ 99999) (hi : i < q 0) (hc : zcnt q i = true) : zf_X3_firstSent (nI i) M = some (nI (zfst q v i)) := by
  have hb := hw.b
  obtain ⟨hG, h11, h15, h68⟩ := h
  obtain ⟨h1, h2, h3, h4, h5, h6, h7, h8, h9, h10⟩ := hG
  have hp := zpart10 hw.1 hi hc
  have c64 := h8 i hi
  have c65 := h9 i hi hc
  have c66 : M 66 (zpart q i) = nI (zgc q (zpart q i)) := (h10 (zpart q i) hp).1
  have c68 := h68 (zpart q i) hp
  have hcle := zclaim_le hw hi
  have hgcl := zgc_le hw hp
  have hpot := zpotF_le hw.1 (v := v) hp
  have hgpos : 0 < zgc q (zpart q i) := by
    have h1 := zsum_one (f := fun j => if zcnt q j && (zpart q j == zpart q i) then zclaim q j else 0) hi
    rw [if_pos (show (zcnt q i && (zpart q i == zpart q i)) = true by simp [hc])] at h1
    have h3 := zcnt_pos hc
    have h4 : zgc q (zpart q i) = zsum (fun j => if zcnt q j && (zpart q j == zpart q i) then zclaim q j else 0) (q 0) := rfl
    omega
  have hmul : zpotF q v (zpart q i) * zclaim q i ≤ 99999 * 9900 := Nat.mul_le_mul (by omega) hcle
  have hdl : zpotF q v (zpart q i) * zclaim q i / zgc q (zpart q i) ≤ zpotF q v (zpart q i) * zclaim q i := Nat.div_le_self _ _
  unfold zfst zleastOf
  by_cases g : min (zclaim q i) (zpotF q v (zpart q i) * zclaim q i / zgc q (zpart q i)) < q 4
  · rw [if_pos g]
    simp (disch := (first | assumption | omega)) only [zf_X3_firstSent, zf_X3_firstSent_j71, zlp, ↓ev_ifB, ↓ev_iflt, ↓ev_ifle, ↓ev_ifeq, ↓ifp, ↓ifn, ↓ev_b1, ↓ev_b2, ↓ev_put, ↓ev_z0, ↓ev_z1, ↓ev_zB, ↓ev_has9, ↓ev_has10, ↓ev_shl, ↓ev_bit, ↓ev_in, ↓ev_inG, ↓ev_rd, ↓ev_st, decide_eq_true_eq, nI_add, ev_sub, pk_mul, nI_or, nI_xor, zBt, zBf, if_true, if_false, eq_self, Bool.false_eq_true, c65, c66, c68, c64, ev_l, lN_mul, ↓ev_ldiv, ev_lmin, lN_i, h2]
  · rw [if_neg g]
    simp (disch := (first | assumption | omega)) only [zf_X3_firstSent, zf_X3_firstSent_j71, zlp, ↓ev_ifB, ↓ev_iflt, ↓ev_ifle, ↓ev_ifeq, ↓ifp, ↓ifn, ↓ev_b1, ↓ev_b2, ↓ev_put, ↓ev_z0, ↓ev_z1, ↓ev_zB, ↓ev_has9, ↓ev_has10, ↓ev_shl, ↓ev_bit, ↓ev_in, ↓ev_inG, ↓ev_rd, ↓ev_st, decide_eq_true_eq, nI_add, ev_sub, pk_mul, nI_or, nI_xor, zBt, zBf, if_true, if_false, eq_self, Bool.false_eq_true, c65, c66, c68, c64, ev_l, lN_mul, ↓ev_ldiv, ev_lmin, lN_i, h2]
/-- in the middle of round k, at member i -/
def RM (M : ZMem) (q : ZRow) (v k i : Nat) : Prop := (∀ j, j < 10 → M 69 j = nI (zpk q v k j + if j < i then zhadF q v k j else 0)) ∧ (∀ l, l < 9 → ∀ j, j < 10 → M 70 (10 * l + j) = nI (if l < k then zhadF q v l j else if l = k ∧ j < i then zhadF q v k j else 0)) ∧ M 63 17 = nI (zlk q v k - zsum (zhadF q v k) i) ∧ M 63 16 = nI (if zsum (zhadF q v k) i = 0 then k else k + 1)
/-- behind k rounds -/
def RE (M : ZMem) (q : ZRow) (v k : Nat) : Prop := (∀ j, j < 10 → M 69 j = nI (zpk q v k j)) ∧ (∀ l, l < 9 → ∀ j, j < 10 → M 70 (10 * l + j) = nI (if l < k then zhadF q v l j else 0)) ∧ M 63 17 = nI (zlk q v k) ∧ M 63 16 = nI (zrk q v k)
theorem RE.mid {M : ZMem} {q : ZRow} {v k : Nat} (h : RE M q v k) (hg : zgk q v k = true) : RM M q v k 0 := by
  obtain ⟨h1, h2, h3, h4⟩ := h
  refine ⟨fun j hj => by rw [if_neg (by omega), Nat.add_zero]; exact h1 j hj, fun l hl j hj => ?_, by rw [show zsum (zhadF q v k) 0 = 0 from rfl, Nat.sub_zero]; exact h3, by rw [if_pos (show zsum (zhadF q v k) 0 = 0 from rfl), h4, zrk_go k hg]⟩
  rw [h2 l hl j hj]
  by_cases e : l < k
  · rw [if_pos e, if_pos e]
  · rw [if_neg e, if_neg e, if_neg (by omega)]
theorem zhun_out {q : ZRow} (hw : WF q) {j : Nat} (h : q 0 ≤ j) : zhun q j = false := by
  unfold zhun zcnt
  rw [tb_lt (n := q 0) hw.2.2.2.2.2.2.2.2.2.2.2.2.2.1 h]
  simp
theorem zhad_out {q : ZRow} (hw : WF q) {v k j : Nat} (h : q 0 ≤ j) : zhadF q v k j = 0 := by
  rw [zhad_eq, zhun_out hw h, Bool.and_false, if_neg (by decide)]
theorem RM.fin9 {M : ZMem} {q : ZRow} {v k : Nat} (h : RM M q v k (q 0)) (hw : WF q) (hg : zgk q v k = true) : RE M q v (k + 1) := by
  obtain ⟨h1, h2, h3, h4⟩ := h
  refine ⟨fun j hj => ?_, fun l hl j hj => ?_, by rw [zlk_s]; exact h3, ?_⟩
  · rw [h1 j hj, zpk_s]
    by_cases e : j < q 0
    · rw [if_pos e]
    · rw [if_neg e, zhad_out hw (by omega)]
  · rw [h2 l hl j hj]
    by_cases e : l < k
    · rw [if_pos e, if_pos (by omega)]
    · rw [if_neg e]
      by_cases e2 : l = k
      · subst e2
        rw [if_pos (show l < l + 1 by omega)]
        by_cases e3 : j < q 0
        · rw [if_pos (show l = l ∧ j < q 0 from ⟨rfl, e3⟩)]
        · rw [if_neg (show ¬ (l = l ∧ j < q 0) from fun z => e3 z.2), zhad_out hw (by omega)]
      · rw [if_neg (show ¬ (l = k ∧ j < q 0) from fun z => e2 z.1), if_neg (show ¬ l < k + 1 by omega)]
  · rw [h4, zrk_s, zrk_go k hg, zgk_s, hg, Bool.true_and]
    by_cases e : zsum (zhadF q v k) (q 0) = 0
    · rw [if_pos e, decide_eq_false (by omega)]; rfl
    · rw [if_neg e, decide_eq_true (by omega)]; rfl
theorem RM.skip {M : ZMem} {q : ZRow} {v k i : Nat} (h : RM M q v k i) (hz : zhadF q v k i = 0) : RM M q v k (i + 1) := by
  obtain ⟨h1, h2, h3, h4⟩ := h
  refine ⟨fun j hj => ?_, fun l hl j hj => ?_, by rw [zsum_s, hz, Nat.add_zero]; exact h3, by rw [zsum_s, hz, Nat.add_zero]; exact h4⟩
  · rw [h1 j hj]
    by_cases e : j < i
    · rw [if_pos e, if_pos (by omega)]
    · rw [if_neg e]
      by_cases e2 : j = i
      · subst e2; rw [hz]; split <;> rfl
      · rw [if_neg (by omega)]
  · rw [h2 l hl j hj]
    by_cases e : l < k
    · rw [if_pos e, if_pos e]
    · rw [if_neg e, if_neg e]
      by_cases e2 : l = k ∧ j < i
      · rw [if_pos e2, if_pos ⟨e2.1, by omega⟩]
      · rw [if_neg e2]
        by_cases e3 : l = k ∧ j < i + 1
        · rw [if_pos e3, show j = i by omega, hz]
        · rw [if_neg e3]
theorem zsum_len {f : Nat → Nat} {m : Nat} : ∀ {n : Nat}, m ≤ n → zsum f m ≤ zsum f n
  | 0, h => by rw [show m = 0 by omega]; exact Nat.le_refl _
  | n + 1, h => by
    by_cases e : m = n + 1
    · rw [e]; exact Nat.le_refl _
    · have := zsum_len (f := f) (m := m) (n := n) (by omega)
      rw [zsum_s]
      omega
/-- a round's writes -/
def FG (M M' : ZMem) : Prop := (∀ b, b ≠ 63 → b ≠ 69 → b ≠ 70 → M' b = M b) ∧ ∀ j, j ≠ 16 → j ≠ 17 → M' 63 j = M 63 j
theorem fg_refl (M : ZMem) : FG M M := ⟨fun _ _ _ _ => rfl, fun _ _ _ => rfl⟩
theorem fg_trans {A B C : ZMem} (h : FG A B) (g : FG B C) : FG A C := ⟨fun b a c d => (g.1 b a c d).trans (h.1 b a c d), fun j a b => (g.2 j a b).trans (h.2 j a b)⟩
theorem fg_fr {M M' : ZMem} (h : FG M M') : Fr 63 70 M M' := fun k hk => h.1 k (by omega) (by omega) (by omega)
theorem ps_fg {M M' : ZMem} {q : ZRow} {v : Nat} (h : PS M q v) (g : FG M M') : PS M' q v := by
  obtain ⟨h1, h2, h3, h4⟩ := h
  exact ⟨h1.fr68 (fun k a b => g.1 k (by omega) (by omega) (by omega)) (fun j a b => g.2 j (by omega) (by omega)), by rw [g.2 11 (by omega) (by omega)]; exact h2, by rw [g.2 15 (by omega) (by omega)]; exact h3, fun k hk => by rw [g.1 68 (by omega) (by omega) (by omega)]; exact h4 k hk⟩
theorem give3 {M : ZMem} {q : ZRow} {v k i : Nat} (h : RM M q v k i) (hw : WF q) (hi : i < q 0) (hk : k < 9) (hv : v ≤ 99999) : ∃ M', zf_X3_give (nI i) (nI (zhadF q v k i)) (nI (k + 1)) M = some M' ∧ RM M' q v k (i + 1) ∧ FG M M' := by
  have h0 := hw.1
  have hs1 := zhad_sum h0 (v := v) (k := k)
  have hs2 := zsum_len (f := zhadF q v k) (show i + 1 ≤ q 0 by omega)
  have hs3 := zlk_le h0 (v := v) (k := k)
  have hs4 : zsum (zhadF q v k) (i + 1) = zsum (zhadF q v k) i + zhadF q v k i := rfl
  have hpl := zpk_le (q := q) (v := v) (k + 1) i
  have hps : zpk q v (k + 1) i = zpk q v k i + zhadF q v k i := rfl
  have hcl := zclaim_le hw hi
  by_cases z : zhadF q v k i = 0
  · refine ⟨M, ?_, h.skip z, fg_refl M⟩
    rw [z]
    simp (disch := (first | assumption | omega)) only [zf_X3_give, zf_X3_give_j43, zlp, ↓ev_ifB, ↓ev_iflt, ↓ev_ifle, ↓ev_ifeq, ↓ifp, ↓ifn, ↓ev_b1, ↓ev_b2, ↓ev_put, ↓ev_z0, ↓ev_z1, ↓ev_zB, ↓ev_has9, ↓ev_has10, ↓ev_shl, ↓ev_bit, ↓ev_in, ↓ev_inG, ↓ev_rd, ↓ev_st, decide_eq_true_eq, nI_add, ev_sub, pk_mul, nI_or, nI_xor, zBt, zBf, if_true, if_false, eq_self, Bool.false_eq_true]
  · obtain ⟨h1, h2, h3, h4⟩ := id h
    have m69 : M 69 i = nI (zpk q v k i) := by rw [h1 i (by omega), if_neg (by omega), Nat.add_zero]
    have eidx : (k + 1 - 1) * 10 + i = 10 * k + i := by omega
    refine ⟨zwr (zwr (zwr (zwr M 69 i (nI (zpk q v k i + zhadF q v k i))) 70 (10 * k + i) (nI (zhadF q v k i))) 63 17 (nI (zlk q v k - zsum (zhadF q v k) i - zhadF q v k i))) 63 16 (nI (k + 1)), ?_, ⟨fun j hj => ?_, fun l hl j hj => ?_, ?_, ?_⟩, fun b a c d => ?_, fun j a b => ?_⟩
    · simp (disch := (first | assumption | omega)) only [zf_X3_give, zf_X3_give_j43, zlp, ↓ev_ifB, ↓ev_iflt, ↓ev_ifle, ↓ev_ifeq, ↓ifp, ↓ifn, ↓ev_b1, ↓ev_b2, ↓ev_put, ↓ev_z0, ↓ev_z1, ↓ev_zB, ↓ev_has9, ↓ev_has10, ↓ev_shl, ↓ev_bit, ↓ev_in, ↓ev_inG, ↓ev_rd, ↓ev_st, decide_eq_true_eq, nI_add, ev_sub, pk_mul, nI_or, nI_xor, zBt, zBf, if_true, if_false, eq_self, Bool.false_eq_true, m69, zwr_get, h3, eidx]
    · rw [wrn (by omega), wrn (by omega), wrn (by omega)]
      by_cases e : j = i
      · subst e; rw [wre, if_pos (by omega)]
      · rw [wrj e, h1 j hj]
        by_cases e2 : j < i
        · rw [if_pos e2, if_pos (by omega)]
        · rw [if_neg e2, if_neg (by omega)]
    · rw [wrn (by omega), wrn (by omega)]
      by_cases e : l = k ∧ j = i
      · obtain ⟨rfl, rfl⟩ := e
        rw [wre, if_neg (by omega), if_pos ⟨rfl, by omega⟩]
      · rw [wrj (by omega), wrn (by omega), h2 l hl j hj]
        by_cases e2 : l < k
        · rw [if_pos e2, if_pos e2]
        · rw [if_neg e2, if_neg e2]
          by_cases e3 : l = k ∧ j < i
          · rw [if_pos e3, if_pos ⟨e3.1, by omega⟩]
          · rw [if_neg e3, if_neg (by omega)]
    · rw [wrj (by omega), wre, zsum_s, Nat.sub_sub]
    · rw [wre, if_neg (by omega)]
    · rw [wrn a, wrn a, wrn d, wrn c]
    · rw [wrj a, wrj b, wrn (by omega), wrn (by omega)]
theorem zhunS_tb {q : ZRow} {i : Nat} (hi : i < q 0) : (zhunS q).testBit i = zhun q i := by
  unfold zhunS
  rw [zset_tb]
  simp [hi]
theorem zhunS_lt {q : ZRow} (h : q 0 ≤ 10) : zhunS q < 1024 := Nat.lt_of_lt_of_le (zset_lt _ _) (zpow_le h)
theorem zhad_1 {q : ZRow} {v i : Nat} (hc : zhun q i = true) : zhadF q v 0 i = zfst q v i := by
  rw [zhad_eq, zgk_0, hc]; rfl
theorem zhad_f {q : ZRow} {v k i : Nat} (hk : k ≠ 0) (hg : zgk q v k = true) (hc : zhun q i = true) : zhadF q v k i = zfur q (zpk q v k) (zlk q v k) i := by
  rw [zhad_eq, hg, hc, Bool.true_and, if_pos rfl, if_neg hk]
theorem zhad_n {q : ZRow} {v k i : Nat} (hc : zhun q i = false) : zhadF q v k i = 0 := by
  rw [zhad_eq, hc, Bool.and_false, if_neg (by decide)]
theorem payFirst3 {M : ZMem} {q : ZRow} {v n : Nat} (h : PS M q v) (hr : RE M q v 0) (hw : WF q) (hv : v ≤ 99999) (hn : 100 < n) : ∃ M', zf_X3_payFirst n M = some (zB (zgk q v 1), M') ∧ RE M' q v 1 ∧ FG M M' := by
  have hb := hw.b
  have key := floop (fun m i (S : ZMem) => zf_X3_payFirst_L2 (fun M31 => (if (M31 63 16) = (1 : Int32) then (zf_X3_payFirst_j51 M31 (1 : Int32)) else (zf_X3_payFirst_j51 M31 (0 : Int32)))) m (nI i) S) (fun i S => RM S q v 0 i ∧ FG M S) (q 0) (fun x => x.1 = zB (zgk q v 1) ∧ RE x.2 q v 1 ∧ FG M x.2) (fun i S hi hI => by
      obtain ⟨hR, hF⟩ := hI
      have hP := ps_fg h hF
      have e7 := hP.1.1
      have e11 := hP.2.1
      have hhl := zhunS_lt hb.1
      have htb := zhunS_tb hi
      refine Or.inl ?_
      cases hc : zhun q i with
      | false =>
        refine ⟨S, ⟨hR.skip (zhad_n hc), hF⟩, fun m => ?_⟩
        show zf_X3_payFirst_L2 _ (m + 1) (nI i) S = zf_X3_payFirst_L2 _ m (nI (i + 1)) S
        simp (disch := (first | assumption | omega)) only [zf_X3_payFirst_L2, zf_X3_payFirst_j32, zlp, e7, e11, ↓ev_ifle, ↓ifp, ↓ifn, ↓ev_has9, htb, hc, ↓ev_ifB, Bool.false_eq_true, if_false, nI_add]
      | true =>
        obtain ⟨S', f1, f2, f3⟩ := give3 hR hw hi (by omega) hv
        have hfs := firstSent3 hP hw hv hi (zhun_cnt hc)
        rw [zhad_1 hc] at f1
        refine ⟨S', ⟨f2, fg_trans hF f3⟩, fun m => ?_⟩
        show zf_X3_payFirst_L2 _ (m + 1) (nI i) S = zf_X3_payFirst_L2 _ m (nI (i + 1)) S'
        simp (disch := (first | assumption | omega)) only [zf_X3_payFirst_L2, zf_X3_payFirst_j32, zlp, e7, e11, ↓ev_ifle, ↓ifp, ↓ifn, ↓ev_has9, htb, hc, ↓ev_ifB, eq_self, if_true, ↓zb1_at hfs, ↓zb1_at f1, nI_add]) (fun S hI m => by
      obtain ⟨hR, hF⟩ := hI
      have e7 := (ps_fg h hF).1.1
      have hE := hR.fin9 hw (zgk_0 q v)
      have e16 := hR.2.2.2
      have eg : zgk q v 1 = decide (0 < zsum (zhadF q v 0) (q 0)) := by rw [zgk_s, zgk_0, Bool.true_and]
      by_cases z : zsum (zhadF q v 0) (q 0) = 0
      · rw [if_pos z] at e16
        rw [decide_eq_false (by omega)] at eg
        refine ⟨(nI 0, S), ?_, by rw [eg]; rfl, hE, hF⟩
        show zf_X3_payFirst_L2 _ (m + 1) (nI (q 0)) S = _
        simp (disch := (first | assumption | omega)) only [zf_X3_payFirst_L2, zf_X3_payFirst_j51, zlp, e7, e16, ↓ev_ifB, ↓ev_iflt, ↓ev_ifle, ↓ev_ifeq, ↓ifp, ↓ifn, ↓ev_b1, ↓ev_b2, ↓ev_put, ↓ev_z0, ↓ev_z1, ↓ev_zB, ↓ev_has9, ↓ev_has10, ↓ev_shl, ↓ev_bit, ↓ev_in, ↓ev_inG, ↓ev_rd, ↓ev_st, decide_eq_true_eq, nI_add, ev_sub, pk_mul, nI_or, nI_xor, zBt, zBf, if_true, if_false, eq_self, Bool.false_eq_true]
      · rw [if_neg z] at e16
        rw [decide_eq_true (by omega)] at eg
        refine ⟨(nI 1, S), ?_, by rw [eg]; rfl, hE, hF⟩
        show zf_X3_payFirst_L2 _ (m + 1) (nI (q 0)) S = _
        simp (disch := (first | assumption | omega)) only [zf_X3_payFirst_L2, zf_X3_payFirst_j51, zlp, e7, e16, ↓ev_ifB, ↓ev_iflt, ↓ev_ifle, ↓ev_ifeq, ↓ifp, ↓ifn, ↓ev_b1, ↓ev_b2, ↓ev_put, ↓ev_z0, ↓ev_z1, ↓ev_zB, ↓ev_has9, ↓ev_has10, ↓ev_shl, ↓ev_bit, ↓ev_in, ↓ev_inG, ↓ev_rd, ↓ev_st, decide_eq_true_eq, nI_add, ev_sub, pk_mul, nI_or, nI_xor, zBt, zBf, if_true, if_false, eq_self, Bool.false_eq_true])
  obtain ⟨⟨w, M'⟩, e1, e2, e3, e4⟩ := key n 0 M (Nat.zero_le _) ⟨hr.mid (zgk_0 q v), fg_refl M⟩ (by omega)
  refine ⟨M', ?_, e3, e4⟩
  have e2' : w = zB (zgk q v 1) := e2
  unfold zf_X3_payFirst
  rw [← e2']
  exact e1
theorem zlack_le {q : ZRow} (hw : WF q) (p : Nat → Nat) : zlack q p ≤ 99000 := by
  have hb := hw.b
  have := zsum_le (f := fun i => if zhun q i then zclaim q i - p i else 0) (c := 9900) (n := q 0) (fun i hi => by
    show (if zhun q i = true then zclaim q i - p i else 0) ≤ 9900
    have := zclaim_le hw hi
    split <;> omega)
  unfold zlack
  omega
theorem re_stay {M : ZMem} {q : ZRow} {v k : Nat} (h : RE M q v k) (hg : zgk q v (k + 1) = false) (hz : ∀ i, zhadF q v k i = 0) : RE M q v (k + 1) := by
  obtain ⟨h1, h2, h3, h4⟩ := h
  refine ⟨fun j hj => by rw [zpk_s, hz, Nat.add_zero]; exact h1 j hj, fun l hl j hj => ?_, ?_, by rw [zrk_s, hg]; exact h4⟩
  · rw [h2 l hl j hj]
    by_cases e : l < k
    · rw [if_pos e, if_pos (by omega)]
    · rw [if_neg e]
      by_cases e2 : l = k
      · subst e2; rw [if_pos (by omega), hz]
      · rw [if_neg (by omega)]
  · rw [zlk_s, zsum_congr (g := fun _ => 0) (fun i _ => hz i), zsum_0]; exact h3
theorem payFurther3 {M : ZMem} {q : ZRow} {v n k : Nat} (h : PS M q v) (hr : RE M q v k) (hw : WF q) (hv : v ≤ 99999) (hk0 : k ≠ 0) (hk : k < 9) (hg : zgk q v k = true) (hn : 100 < n) : ∃ M', zf_X3_payFurther n (nI (k + 1)) M = some (zB (zgk q v (k + 1)), M') ∧ RE M' q v (k + 1) ∧ FG M M' := by
  have hb := hw.b
  have hll := zlack_le hw (zpk q v k)
  have h17 := hr.2.2.1
  have hlk := zlk_le hw.1 (v := v) (k := k)
  have h7 := h.1.1
  have h11 := h.2.1
  have hhl := zhunS_lt hb.1
  have lackL : ∀ (K : Int32 → Option (Int32 × ZMem)), zf_X3_payFurther_L4 M K n (nI 0) (nI 0) = K (nI (zlack q (zpk q v k))) := by
    intro K
    refine zloop (fun m i (s : Nat) => zf_X3_payFurther_L4 M K m (nI s) (nI i)) (zsum (fun i => if zhun q i then zclaim q i - zpk q v k i else 0)) _ (q 0) (fun m i hi => ?_) (fun m => ?_) n 0 (Nat.zero_le _) (by omega)
    · show zf_X3_payFurther_L4 M K (m + 1) (nI _) (nI i) = zf_X3_payFurther_L4 M K m (nI _) (nI (i + 1))
      have htb := zhunS_tb hi
      have c64 := h.1.2.2.2.2.2.2.2.1 i hi
      have c69 := hr.1 i (by omega)
      have hpl := zpk_le (q := q) (v := v) k i
      rw [zsum_s]
      cases hc : zhun q i with
      | false =>
        rw [if_neg (by decide)]
        simp (disch := (first | assumption | omega)) only [zf_X3_payFurther_L4, zf_X3_payFurther_j39, zlp, h7, h11, ↓ev_ifle, ↓ifp, ↓ifn, ↓ev_has9, htb, hc, ↓ev_ifB, Bool.false_eq_true, if_false, nI_add, Nat.add_zero]
      | true =>
        rw [if_pos rfl]
        simp (disch := (first | assumption | omega)) only [zf_X3_payFurther_L4, zf_X3_payFurther_j39, zlp, h7, h11, ↓ev_ifle, ↓ifp, ↓ifn, ↓ev_has9, htb, hc, ↓ev_ifB, eq_self, if_true, ↓ev_rd, c64, c69, ev_sub, nI_add]
    · show zf_X3_payFurther_L4 M K (m + 1) (nI _) (nI (q 0)) = _
      simp (disch := (first | assumption | omega)) only [zf_X3_payFurther_L4, zlp, h7, ↓ev_ifB, ↓ev_iflt, ↓ev_ifle, ↓ev_ifeq, ↓ifp, ↓ifn, ↓ev_b1, ↓ev_b2, ↓ev_put, ↓ev_z0, ↓ev_z1, ↓ev_zB, ↓ev_has9, ↓ev_has10, ↓ev_shl, ↓ev_bit, ↓ev_in, ↓ev_inG, ↓ev_rd, ↓ev_st, decide_eq_true_eq, nI_add, ev_sub, pk_mul, nI_or, nI_xor, zBt, zBf, if_true, if_false, eq_self, Bool.false_eq_true]
      rfl
  by_cases hz : zlack q (zpk q v k) = 0
  · have hall : ∀ i, zhadF q v k i = 0 := fun i => by
      by_cases hi : i < q 0
      · cases hc : zhun q i with
        | false => exact zhad_n hc
        | true =>
          rw [zhad_f hk0 hg hc]
          have h1 := zsum_eq0 hz i hi
          rw [hc, if_pos rfl] at h1
          have := zfur_le (q := q) (p := zpk q v k) (left := zlk q v k) (i := i)
          omega
      · exact zhad_out hw (by omega)
    have hg' : zgk q v (k + 1) = false := by
      rw [zgk_s, zsum_congr (g := fun _ => 0) (fun i _ => hall i), zsum_0, hg]; rfl
    refine ⟨M, ?_, re_stay hr hg' hall, fg_refl M⟩
    rw [hg']
    simp (disch := (first | assumption | omega)) only [zf_X3_payFurther, zlp, lackL, hz, ↓ev_ifB, ↓ev_iflt, ↓ev_ifle, ↓ev_ifeq, ↓ifp, ↓ifn, ↓ev_b1, ↓ev_b2, ↓ev_put, ↓ev_z0, ↓ev_z1, ↓ev_zB, ↓ev_has9, ↓ev_has10, ↓ev_shl, ↓ev_bit, ↓ev_in, ↓ev_inG, ↓ev_rd, ↓ev_st, decide_eq_true_eq, nI_add, ev_sub, pk_mul, nI_or, nI_xor, zBt, zBf, if_true, if_false, eq_self, Bool.false_eq_true]
  · have key := floop (fun m i (S : ZMem) => zf_X3_payFurther_L60 M (nI (zlack q (zpk q v k))) (nI (k + 1)) (fun M47 => (if (M47 63 16) = (nI (k + 1)) then (zf_X3_payFurther_j156 M47 (nI 1)) else (zf_X3_payFurther_j156 M47 (nI 0)))) m (nI i) S) (fun i S => RM S q v k i ∧ FG M S) (q 0) (fun x => x.1 = zB (zgk q v (k + 1)) ∧ RE x.2 q v (k + 1) ∧ FG M x.2) (fun i S hi hI => by
        obtain ⟨hR, hF⟩ := hI
        have hP := ps_fg h hF
        have e7 := hP.1.1
        have e8 := hP.1.2.1
        have e11 := hP.2.1
        have htb := zhunS_tb hi
        have c64 := hP.1.2.2.2.2.2.2.2.1 i hi
        have c69 : S 69 i = nI (zpk q v k i) := by rw [hR.1 i (by omega), if_neg (by omega), Nat.add_zero]
        have hpl := zpk_le (q := q) (v := v) k i
        have hcl := zclaim_le hw hi
        refine Or.inl ?_
        cases hc : zhun q i with
        | false =>
          refine ⟨S, ⟨hR.skip (zhad_n hc), hF⟩, fun m => ?_⟩
          show zf_X3_payFurther_L60 M _ _ _ (m + 1) (nI i) S = zf_X3_payFurther_L60 M _ _ _ m (nI (i + 1)) S
          simp (disch := (first | assumption | omega)) only [zf_X3_payFurther_L60, zf_X3_payFurther_j137, zlp, e7, e11, ↓ev_ifle, ↓ifp, ↓ifn, ↓ev_has9, htb, hc, ↓ev_ifB, Bool.false_eq_true, if_false, nI_add]
        | true =>
          obtain ⟨S', f1, f2, f3⟩ := give3 hR hw hi (by omega) hv
          rw [zhad_f hk0 hg hc] at f1
          have hmul : zlk q v k * (zclaim q i - zpk q v k i) ≤ 99999 * 9900 := Nat.mul_le_mul (by omega) (by omega)
          have hdl : zlk q v k * (zclaim q i - zpk q v k i) / zlack q (zpk q v k) ≤ zlk q v k * (zclaim q i - zpk q v k i) := Nat.div_le_self _ _
          refine ⟨S', ⟨f2, fg_trans hF f3⟩, fun m => ?_⟩
          show zf_X3_payFurther_L60 M _ _ _ (m + 1) (nI i) S = zf_X3_payFurther_L60 M _ _ _ m (nI (i + 1)) S'
          unfold zfur zleastOf at f1
          by_cases g : min (zclaim q i - zpk q v k i) (zlk q v k * (zclaim q i - zpk q v k i) / zlack q (zpk q v k)) < q 4
          · rw [if_pos g] at f1
            simp (disch := (first | assumption | omega)) only [zf_X3_payFurther_L60, zf_X3_payFurther_j137, zf_X3_payFurther_j133, zlp, e7, e8, e11, ↓ev_ifle, ↓ifp, ↓ifn, ↓ev_has9, htb, hc, ↓ev_ifB, eq_self, if_true, ↓ev_rd, c64, c69, ev_sub, h17, ev_l, lN_mul, ↓ev_ldiv, ev_lmin, lN_i, ↓zb1_at f1, nI_add]
          · rw [if_neg g] at f1
            simp (disch := (first | assumption | omega)) only [zf_X3_payFurther_L60, zf_X3_payFurther_j137, zf_X3_payFurther_j133, zlp, e7, e8, e11, ↓ev_ifle, ↓ifp, ↓ifn, ↓ev_has9, htb, hc, ↓ev_ifB, eq_self, if_true, ↓ev_rd, c64, c69, ev_sub, h17, ev_l, lN_mul, ↓ev_ldiv, ev_lmin, lN_i, ↓zb1_at f1, nI_add]) (fun S hI m => by
        obtain ⟨hR, hF⟩ := hI
        have e7 := (ps_fg h hF).1.1
        have hE := hR.fin9 hw hg
        have e16 := hR.2.2.2
        have eg : zgk q v (k + 1) = decide (0 < zsum (zhadF q v k) (q 0)) := by rw [zgk_s, hg, Bool.true_and]
        by_cases z : zsum (zhadF q v k) (q 0) = 0
        · rw [if_pos z] at e16
          rw [decide_eq_false (by omega)] at eg
          refine ⟨(nI 0, S), ?_, by rw [eg]; rfl, hE, hF⟩
          show zf_X3_payFurther_L60 M _ _ _ (m + 1) (nI (q 0)) S = _
          simp (disch := (first | assumption | omega)) only [zf_X3_payFurther_L60, zf_X3_payFurther_j156, zlp, e7, e16, ↓ev_ifB, ↓ev_iflt, ↓ev_ifle, ↓ev_ifeq, ↓ifp, ↓ifn, ↓ev_b1, ↓ev_b2, ↓ev_put, ↓ev_z0, ↓ev_z1, ↓ev_zB, ↓ev_has9, ↓ev_has10, ↓ev_shl, ↓ev_bit, ↓ev_in, ↓ev_inG, ↓ev_rd, ↓ev_st, decide_eq_true_eq, nI_add, ev_sub, pk_mul, nI_or, nI_xor, zBt, zBf, if_true, if_false, eq_self, Bool.false_eq_true]
        · rw [if_neg z] at e16
          rw [decide_eq_true (by omega)] at eg
          refine ⟨(nI 1, S), ?_, by rw [eg]; rfl, hE, hF⟩
          show zf_X3_payFurther_L60 M _ _ _ (m + 1) (nI (q 0)) S = _
          simp (disch := (first | assumption | omega)) only [zf_X3_payFurther_L60, zf_X3_payFurther_j156, zlp, e7, e16, ↓ev_ifB, ↓ev_iflt, ↓ev_ifle, ↓ev_ifeq, ↓ifp, ↓ifn, ↓ev_b1, ↓ev_b2, ↓ev_put, ↓ev_z0, ↓ev_z1, ↓ev_zB, ↓ev_has9, ↓ev_has10, ↓ev_shl, ↓ev_bit, ↓ev_in, ↓ev_inG, ↓ev_rd, ↓ev_st, decide_eq_true_eq, nI_add, ev_sub, pk_mul, nI_or, nI_xor, zBt, zBf, if_true, if_false, eq_self, Bool.false_eq_true])
    obtain ⟨⟨w, M'⟩, e1, e2, e3, e4⟩ := key n 0 M (Nat.zero_le _) ⟨hr.mid hg, fg_refl M⟩ (by omega)
    refine ⟨M', ?_, e3, e4⟩
    have e2' : w = zB (zgk q v (k + 1)) := e2
    have e1' : zf_X3_payFurther_L60 M (nI (zlack q (zpk q v k))) (nI (k + 1)) (fun M47 => (if (M47 63 16) = (nI (k + 1)) then (zf_X3_payFurther_j156 M47 (nI 1)) else (zf_X3_payFurther_j156 M47 (nI 0)))) n (nI 0) M = some (w, M') := e1
    simp (disch := (first | assumption | omega)) only [zf_X3_payFurther, zlp, lackL, ↓ev_ifB, ↓ev_iflt, ↓ev_ifle, ↓ev_ifeq, ↓ifp, ↓ifn, ↓ev_b1, ↓ev_b2, ↓ev_put, ↓ev_z0, ↓ev_z1, ↓ev_zB, ↓ev_has9, ↓ev_has10, ↓ev_shl, ↓ev_bit, ↓ev_in, ↓ev_inG, ↓ev_rd, ↓ev_st, decide_eq_true_eq, nI_add, ev_sub, pk_mul, nI_or, nI_xor, zBt, zBf, if_true, if_false, eq_self, Bool.false_eq_true, e1', e2']
theorem re_stop {M : ZMem} {q : ZRow} {v k : Nat} (h : RE M q v k) (hg : zgk q v k = false) (hk : k ≤ 9) : RE M q v 9 := by
  obtain ⟨h1, h2, h3, h4⟩ := h
  obtain ⟨s1, s2, s3, s4⟩ := zstop hg (9 - k)
  rw [show k + (9 - k) = 9 by omega] at s1 s2 s3 s4
  refine ⟨fun j hj => by rw [s2]; exact h1 j hj, fun l hl j hj => ?_, by rw [s3]; exact h3, by rw [s4]; exact h4⟩
  rw [h2 l hl j hj, if_pos hl]
  by_cases e : l < k
  · rw [if_pos e]
  · rw [if_neg e]
    have s5 := (zstop hg (l - k)).1
    rw [show k + (l - k) = l by omega] at s5
    rw [zhad_stop s5]
theorem rounds3 {q : ZRow} {v n : Nat} (hw : WF q) (hv : v ≤ 99999) (hn : 100 < n) : ∀ (d k m : Nat) (M : ZMem), k + d = 9 → k ≠ 0 → d + 1 < m → PS M q v → RE M q v k → ∃ M', zf_X3_pay_L75 n (fun M51 => some M51) m (zB (zgk q v k)) (nI (k + 1)) M = some M' ∧ RE M' q v 9 ∧ FG M M' := by
  intro d
  induction d with
  | zero =>
    intro k m M hk hk0 hm hP hR
    obtain ⟨m, rfl⟩ : ∃ x, m = x + 1 := ⟨m - 1, by omega⟩
    obtain rfl : k = 9 := by omega
    refine ⟨M, ?_, hR, fg_refl M⟩
    rw [zf_X3_pay_L75, if_pos (by decide)]
  | succ d ih =>
    intro k m M hk hk0 hm hP hR
    obtain ⟨m, rfl⟩ : ∃ x, m = x + 1 := ⟨m - 1, by omega⟩
    cases hg : zgk q v k with
    | false =>
      refine ⟨M, ?_, re_stop hR hg (by omega), fg_refl M⟩
      rw [zf_X3_pay_L75, show (9 : Int32) = nI 9 from rfl, zi_lt (by omega) (by omega), if_neg (by omega), if_pos (show zB false = 0 from rfl)]
    | true =>
      obtain ⟨M1, e1, e2, e3⟩ := payFurther3 (n := n) hP hR hw hv hk0 (by omega) hg hn
      obtain ⟨M2, f1, f2, f3⟩ := ih (k + 1) m M1 (by omega) (by omega) (by omega) (ps_fg hP e3) e2
      refine ⟨M2, ?_, f2, fg_trans e3 f3⟩
      rw [zf_X3_pay_L75, show (9 : Int32) = nI 9 from rfl, zi_lt (by omega) (by omega), if_neg (by omega), if_neg (by decide), zb2_at e1, nI_1]
      exact f1
theorem znet_le {q : ZRow} (hw : WF q) : znet q ≤ 99999 := by
  have hb := hw.b
  unfold znet znetF
  omega
theorem net9 {M : ZMem} {t o : Nat} {q : ZRow} (h : CQ M t o q) : zf_X9_netOf t (nI (zcostN q)) (nI (q 2)) M = some (nI (znet q)) := by
  have hb := h.2.2.1.1.b
  have hc := zcostN_le h.2.2.1
  have t8 := h.1.2.2.1
  have hm : q 2 * q 3 ≤ 99999 * 50 := Nat.mul_le_mul (by omega) (by omega)
  have hdiv : q 2 * q 3 / 100 ≤ 50000 := by omega
  unfold zf_X9_netOf
  rw [t8, pk_mul, show (100 : Int32) = nI 100 from rfl, pk_div (by omega) (by omega) (by omega), show (0 : Int32) = nI 0 from rfl, zz_net (by omega) (by omega)]
  unfold znet znetF
  rw [Nat.mul_comm]
/-- what the class's cells tell once it has paid -/
def PAY (M : ZMem) (q : ZRow) : Prop := PS M q (znet q) ∧ RE M q (znet q) 9 ∧ SPL M q
theorem pay3 {M : ZMem} {t o n : Nat} {q : ZRow} (h : CQ M t o q) (hn : 100 < n) : ∃ M', zf_X3_pay n t o M = some M' ∧ PAY M' q ∧ FPm M M' := by
  have hw := h.2.2.1.1
  have hb := hw.b
  have hnl := znet_le hw
  have ht := h.2.2.2.1
  have ho := h.2.2.2.2
  obtain ⟨M1, a1, a2, a3⟩ := split6 (n := n) hw.1 (fun j hj => hw.foe hj) h.tk (by omega) (by omega) (by omega)
  have h1 := h.fp (FPm.of_fs a3)
  obtain ⟨M2, b1, b2, b3, b4⟩ := gather3 (n := n) h1 a2 (by omega)
  have h2 := h1.fp (FPm.of_fr (b4.mono (by omega) (by omega)))
  have c3 : M2 o 3 = nI (zcostN q) := h2.2.1.2
  have c7 : M2 o 7 = nI (q 2) := h2.2.1.1.2.2.2.2.2.2.1
  have hnet := net9 h2
  have hG3 : GI (zwr M2 63 15 (nI (znet q))) q (q 0) := b2.fr68 (fun k a b => wrn (by omega)) (fun j a b => wrj (by omega))
  obtain ⟨M4, d1, d2, d3⟩ := fillPots3 (n := n) hG3 hw hnl hn
  have e15 : zwr M2 63 15 (nI (znet q)) 63 15 = nI (znet q) := wre
  have m15 : zwr (zfl (zfl M4 69 (nI 0) 10) 70 (nI 0) 90) 63 16 (nI 0) 63 15 = nI (znet q) := by rw [wrj (by omega), zfl_ne (by omega), zfl_ne (by omega), d3 63 (by omega), wre]
  have hP : PS (zwr (zwr (zfl (zfl M4 69 (nI 0) 10) 70 (nI 0) 90) 63 16 (nI 0)) 63 17 (nI (znet q))) q (znet q) := by
    refine ⟨b2.fr68 (fun k a b => ?_) (fun j a b => ?_), ?_, ?_, fun k hk => ?_⟩
    · rw [wrn (by omega), wrn (by omega), zfl_ne (by omega), zfl_ne (by omega), d3 k (by omega), wrn (by omega)]
    · rw [wrj (by omega), wrj (by omega), zfl_ne (by omega), zfl_ne (by omega), d3 63 (by omega), wrj (by omega)]
    · rw [wrj (by omega), wrj (by omega), zfl_ne (by omega), zfl_ne (by omega), d3 63 (by omega), wrj (by omega)]; exact b3
    · rw [wrj (by omega), m15]
    · rw [wrn (by omega), wrn (by omega), zfl_ne (by omega), zfl_ne (by omega)]; exact d2 k hk
  have hR : RE (zwr (zwr (zfl (zfl M4 69 (nI 0) 10) 70 (nI 0) 90) 63 16 (nI 0)) 63 17 (nI (znet q))) q (znet q) 0 := by
    refine ⟨fun j hj => ?_, fun l hl j hj => ?_, wre, ?_⟩
    · rw [wrn (by omega), wrn (by omega), zfl_ne (by omega), zfl_at hj]; rfl
    · rw [wrn (by omega), wrn (by omega), zfl_at (by omega), if_neg (by omega)]
    · rw [wrj (by omega), wre]; rfl
  obtain ⟨M5, f1, f2, f3⟩ := payFirst3 (n := n) hP hR hw hnl hn
  obtain ⟨M6, g1, g2, g3⟩ := rounds3 (n := n) hw hnl hn 8 1 n M5 (by omega) (by omega) (by omega) (ps_fg hP f3) f2
  have ff := fun (A : ZMem) (k l : Nat) (hl : l < 2147483648) (hl2 : l < n) x => fill7 (M := A) (o := k) (l := l) (n := n) (x := x) hl hl2
  have hF6 : Fr 63 70 M1 M6 := by
    intro k hk
    rw [fg_fr g3 k hk, fg_fr f3 k hk, wrn (by omega), wrn (by omega), zfl_ne (by omega), zfl_ne (by omega), d3 k (by omega), wrn (by omega), b4 k (by omega)]
  refine ⟨M6, ?_, ⟨ps_fg (ps_fg hP f3) g3, g2, ?_⟩, (FPm.of_fs a3).trans (FPm.of_fr hF6)⟩
  · have g1' : zf_X3_pay_L75 n (fun M51 => some M51) n (zB (zgk q (znet q) 1)) (nI 2) M5 = some M6 := g1
    simp (disch := (first | assumption | omega)) only [zf_X3_pay, zlp, ↓zb1_at a1, ↓zb1_at b1, c3, c7, ↓zb1_at hnet, ↓ev_put, e15, ↓zb1_at d1, ↓zb1_at (ff _ _ _ (show 10 < 2147483648 by omega) (by omega) _), ↓zb1_at (ff _ _ _ (show 90 < 2147483648 by omega) (by omega) _), m15, f1, ↓ev_b2, g1']
  · obtain ⟨p1, p2, p3, p4, p5⟩ := a2
    exact ⟨by rw [hF6 57 (by omega)]; exact p1, by rw [hF6 57 (by omega)]; exact p2, by rw [hF6 57 (by omega)]; exact p3, fun j hj => by rw [hF6 58 (by omega)]; exact p4 j hj, fun k hk => by rw [hF6 59 (by omega)]; exact p5 k hk⟩
