/-! LAYER 2: the class looks for the least NET and FUND -/
theorem firstSent3' {M : ZMem} {q : ZRow} {v i : Nat} (hG : GI M q (q 0)) (h68 : ∀ k, k < 10 → M 68 k = nI (zpotF q v k)) (hw : WF q) (hv : v ≤ 99999) (hi : i < q 0) (hc : zcnt q i = true) : zf_X3_firstSent (nI i) M = some (nI (zfst q v i)) := by
  have hb := hw.b
  obtain ⟨h1, h2, h3, h4, h5, h6, h7, h8, h9, h10⟩ := hG
  have hp := zpart10 hw.1 hi hc
  have c64 := h8 i hi
  have c65 := h9 i hi hc
  have c66 : M 66 (zpart q i) = nI (zgc q (zpart q i)) := (h10 (zpart q i) hp).1
  have c68 := h68 (zpart q i) hp
  have hcle := zclaim_le hw hi
  have hgcl := zgc_le hw hp
  have hpot := zpotF_le hw.1 (v := v) hp
  have hgpos : 0 < zgc q (zpart q i) := (zgrp_pos hw hi hc).2.1
  have hmul : zpotF q v (zpart q i) * zclaim q i ≤ 99999 * 9900 := Nat.mul_le_mul (by omega) hcle
  have hdl : zpotF q v (zpart q i) * zclaim q i / zgc q (zpart q i) ≤ zpotF q v (zpart q i) * zclaim q i := Nat.div_le_self _ _
  unfold zfst zleastOf
  by_cases g : min (zclaim q i) (zpotF q v (zpart q i) * zclaim q i / zgc q (zpart q i)) < q 4
  · rw [if_pos g]
    simp (disch := (first | assumption | omega)) only [zf_X3_firstSent, zf_X3_firstSent_j71, zlp, ↓ev_ifB, ↓ev_iflt, ↓ev_ifle, ↓ev_ifeq, ↓ifp, ↓ifn, ↓ev_b1, ↓ev_b2, ↓ev_put, ↓ev_z0, ↓ev_z1, ↓ev_zB, ↓ev_has9, ↓ev_has10, ↓ev_shl, ↓ev_bit, ↓ev_in, ↓ev_inG, ↓ev_rd, ↓ev_st, decide_eq_true_eq, nI_add, ev_sub, pk_mul, nI_or, nI_xor, zBt, zBf, if_true, if_false, eq_self, Bool.false_eq_true, c65, c66, c68, c64, ev_l, lN_mul, ↓ev_ldiv, ev_lmin, lN_i, h2]
  · rw [if_neg g]
    simp (disch := (first | assumption | omega)) only [zf_X3_firstSent, zf_X3_firstSent_j71, zlp, ↓ev_ifB, ↓ev_iflt, ↓ev_ifle, ↓ev_ifeq, ↓ifp, ↓ifn, ↓ev_b1, ↓ev_b2, ↓ev_put, ↓ev_z0, ↓ev_z1, ↓ev_zB, ↓ev_has9, ↓ev_has10, ↓ev_shl, ↓ev_bit, ↓ev_in, ↓ev_inG, ↓ev_rd, ↓ev_st, decide_eq_true_eq, nI_add, ev_sub, pk_mul, nI_or, nI_xor, zBt, zBf, if_true, if_false, eq_self, Bool.false_eq_true, c65, c66, c68, c64, ev_l, lN_mul, ↓ev_ldiv, ev_lmin, lN_i, h2]
theorem cut3 {a b : Nat} (ha : a < 2305843009213693952) (hb0 : 0 < b) (hb : b < 2305843009213693952) : zf_X3_cutUp (lN a) (lN b) = some (lN (zcut a b)) := by
  unfold zf_X3_cutUp zf_X3_cutUp_j17
  rw [if_pos ((lg_cmp_gt _ _).mpr (show (0 : Int64) < lN b from (pk_lLT (a := 0) (by omega) (by omega)).mpr hb0)), lN_add, show (1 : Int64) = lN 1 from rfl, lN_sub (by omega), ev_ldiv _ (by omega) hb0 (by omega)]
  rfl
theorem zcut_ub {a b : Nat} (hb : 0 < b) : zcut a b ≤ a := by
  rw [zcut_le hb]
  exact Nat.le_mul_of_pos_right a hb
theorem zcut_ub2 {a b c : Nat} (hb : 0 < b) (h : a ≤ c) : zcut a b ≤ c := Nat.le_trans (zcut_ub hb) h
theorem netForPot3 {M : ZMem} {q : ZRow} {i p : Nat} (h : GI M q (q 0)) (hw : WF q) (hi : i < q 0) (hc : zcnt q i = true) (hp : p ≤ 99999999) : zf_X3_netForPot (nI (zpart q i)) (lN p) M = some (lN (znP q (zpart q i) p)) ∧ znP q (zpart q i) p ≤ 9999999900000 := by
  obtain ⟨a1, a2, a3, a4, a5, a6⟩ := zgrp_pos hw hi hc
  have l1 := zwa_le hw
  have l2 := zwt_le hw a1
  have hm : p * zwa q ≤ 99999999 * 99000 := Nat.mul_le_mul hp l1
  refine ⟨?_, zcut_ub2 a4 (by omega)⟩
  unfold zf_X3_netForPot
  rw [zb1_at (weightInAll3 h hw a5), zb1_at (weightOf3 h hw a1), ev_l (by omega), ev_l (by omega), lN_mul, zb1_at (cut3 (by omega) a4 (by omega))]
  rfl
theorem netForSent3 {M : ZMem} {q : ZRow} {i s : Nat} (h : GI M q (q 0)) (hw : WF q) (hi : i < q 0) (hc : zcnt q i = true) (hs : s ≤ 999) : zf_X3_netForSent (nI i) (lN s) M = some (lN (znS q i s)) ∧ znS q i s ≤ 9999999900000 := by
  have hb := hw.b
  obtain ⟨a1, a2, a3, a4, a5, a6⟩ := zgrp_pos hw hi hc
  have hcp := zcnt_pos hc
  have hcle := zclaim_le hw hi
  have hgcl := zgc_le hw a1
  have hm : s * zgc q (zpart q i) ≤ 999 * 99000 := Nat.mul_le_mul hs hgcl
  obtain ⟨b1, b2⟩ := netForPot3 (p := zcut (s * zgc q (zpart q i)) (zclaim q i)) h hw hi hc (zcut_ub2 hcp (by omega))
  refine ⟨?_, b2⟩
  obtain ⟨h1, h2, h3, h4, h5, h6, h7, h8, h9, h10⟩ := h
  have c64 := h8 i hi
  have c65 := h9 i hi hc
  have c66 : M 66 (zpart q i) = nI (zgc q (zpart q i)) := (h10 (zpart q i) a1).1
  unfold zf_X3_netForSent
  rw [zrd_at i rfl (by omega), c65, zrd_at (zpart q i) rfl (by omega), c66, zrd_at i rfl (by omega), c64, ev_l (by omega), ev_l (by omega), lN_mul, zb1_at (cut3 (by omega) hcp (by omega)), zb1_at b1]
  rfl
theorem zsoo_ub {q : ZRow} : ∀ m, zsoo q m ≤ 1152921504606846976
  | 0 => Nat.le_refl _
  | m + 1 => by
    have := zsoo_ub (q := q) m
    rw [zsoo_s]
    split <;> omega
/-- the loop of nextNet -/
theorem next3_l {M : ZMem} {q : ZRow} {v : Nat} (hG : GI M q (q 0)) (h11 : M 63 11 = nI (zhunS q)) (h68 : ∀ k, k < 10 → M 68 k = nI (zpotF q v k)) (hw : WF q) (hv : v ≤ 99999) (K : Int64 → Option (Int64 × ZMem)) : ∀ d i m, i + d = q 0 → d < m → zf_X3_nextNet_L22 M K m (lN (zsoo q i)) (nI i) = match zfnd (zbad q v) d i with
    | some j => some (lN (znP q (zpart q j) (zgc q (zpart q j))), M)
    | none => K (lN (zsoo q (q 0))) := by
  have hb := hw.b
  have hhl := zhunS_lt (q := q) hw.1
  intro d
  induction d with
  | zero =>
    intro i m hi hm
    obtain ⟨m, rfl⟩ : ∃ y, m = y + 1 := ⟨m - 1, by omega⟩
    rw [zf_X3_nextNet_L22, hG.1, zi_le (by omega) (by omega), if_pos (by omega), show i = q 0 by omega]
    rfl
  | succ d ih =>
    intro i m hi hm
    obtain ⟨m, rfl⟩ : ∃ y, m = y + 1 := ⟨m - 1, by omega⟩
    have e := ih (i + 1) m (by omega) (by omega)
    have hil : i < q 0 := by omega
    rw [zf_X3_nextNet_L22, hG.1, zi_le (by omega) (by omega), if_neg (by omega), h11, zb1_at (has9 hhl (by omega)), zhunS_tb hil, zB0, zfnd_s]
    unfold zf_X3_nextNet_j98 zf_X3_nextNet_j118
    cases hh : zhun q i with
    | false =>
      have e2 : zbad q v i = false := by unfold zbad; rw [hh]; rfl
      have e3 : zsoo q (i + 1) = zsoo q i := by rw [zsoo_s, hh]; rfl
      rw [e2, if_neg (by decide), if_neg (by decide), nI_1]
      rw [e3] at e
      exact e
    | true =>
      have hc := zhun_cnt hh
      have hle := zfst_le (q := q) (v := v) (i := i)
      have hcle := zclaim_le hw hil
      have c64 := hG.2.2.2.2.2.2.2.1 i hil
      have c65 := hG.2.2.2.2.2.2.2.2.1 i hil hc
      have hp := (zgrp_pos hw hil hc).1
      have c66 : M 66 (zpart q i) = nI (zgc q (zpart q i)) := (hG.2.2.2.2.2.2.2.2.2 (zpart q i) hp).1
      have hgcl := zgc_le hw hp
      obtain ⟨n1, n2⟩ := netForSent3 (s := max 1 (q 4)) hG hw hil hc (by omega)
      obtain ⟨p1, -⟩ := netForPot3 (p := zgc q (zpart q i)) hG hw hil hc (by omega)
      have hsu := zsoo_ub (q := q) i
      have e3 : zsoo q (i + 1) = min (zsoo q i) (znS q i (max 1 (q 4))) := by rw [zsoo_s, hh]; rfl
      rw [if_pos rfl, zrd_at i rfl (by omega), c64, zb1_at (firstSent3' hG h68 hw hv hil hc), pk_sub hle, hG.2.1, show (0 : Int32) = nI 0 from rfl, zi_le (by omega) (by omega), zi_le (by omega) (by omega), show (1 : Int32) = nI 1 from rfl, zz_max (by omega) (by omega), ev_l (by omega), zb1_at n1, ev_lmin (by omega) (by omega), nI_add, zrd_at i rfl (by omega), c65, zrd_at i rfl (by omega), c65, zrd_at (zpart q i) rfl (by omega), c66, ev_l (by omega), zb1_at p1]
      rw [e3] at e
      by_cases g1 : zclaim q i - zfst q v i ≤ 0
      · have e2 : zbad q v i = false := by unfold zbad; rw [decide_eq_false (show ¬ 0 < zclaim q i - zfst q v i by omega), Bool.false_and, Bool.and_false]
        rw [if_pos g1, e2, if_neg (by decide)]
        exact e
      · rw [if_neg g1]
        by_cases g2 : q 4 ≤ zclaim q i - zfst q v i
        · have e2 : zbad q v i = false := by unfold zbad; rw [decide_eq_false (show ¬ zclaim q i - zfst q v i < q 4 by omega), Bool.and_false, Bool.and_false]
          rw [if_pos g2, e2, if_neg (by decide)]
          exact e
        · have e2 : zbad q v i = true := zbad_iff.mpr ⟨hh, by omega, by omega⟩
          rw [if_neg g2, e2, if_pos rfl]
theorem next3 {M : ZMem} {q : ZRow} {v n : Nat} (hG : GI M q (q 0)) (h11 : M 63 11 = nI (zhunS q)) (hw : WF q) (hv : v ≤ 99999) (hh : zhunS q ≠ 0) (hn : 100 < n) : ∃ M', zf_X3_nextNet n (nI v) M = some (lN (znext q v), M') ∧ Fr 68 68 M M' := by
  have hhl := zhunS_lt (q := q) hw.1
  have hb := hw.b
  obtain ⟨M1, a1, a2, a3⟩ := fillPots3 (n := n) hG hw hv hn
  have hG1 : GI M1 q (q 0) := hG.fr68 (fun k x y => a3 k (by omega)) (fun j x y => by rw [a3 63 (by omega)])
  have g := next3_l hG1 (by rw [a3 63 (by omega)]; exact h11) a2 hw hv (fun w43 => some ((zlmax ((nI v).toInt64) w43), M1)) (q 0) 0 n (by omega) (by omega)
  refine ⟨M1, ?_, a3⟩
  unfold zf_X3_nextNet
  rw [h11, show (0 : Int32) = nI 0 from rfl, zi_eq (by omega) (by omega), if_neg hh, zb1_at a1]
  refine (show zf_X3_nextNet_L22 M1 _ n (1152921504606846976 : Int64) (nI 0) = _ from g).trans ?_
  unfold znext
  cases zfnd (zbad q v) (q 0) 0 with
  | some j => rfl
  | none =>
    have hsu := zsoo_ub (q := q) (q 0)
    show some (zlmax ((nI v).toInt64) (lN (zsoo q (q 0))), M1) = some (lN (max v (zsoo q (q 0))), M1)
    rw [ev_l (by omega)]
    unfold zlmax
    by_cases c : zsoo q (q 0) < v
    · rw [if_pos ((pk_lLT (by omega) (by omega)).mpr c), Nat.max_eq_left (by omega)]
    · rw [if_neg (fun z => c ((pk_lLT (by omega) (by omega)).mp z)), Nat.max_eq_right (by omega)]
theorem znext_ub {q : ZRow} (hw : WF q) {v : Nat} (hv : v ≤ 99999) : znext q v ≤ 1152921504606846976 := by
  unfold znext
  cases hz : zfnd (zbad q v) (q 0) 0 with
  | some i =>
    obtain ⟨b1, -, b2⟩ := zfnd_some _ _ hz
    have hi : i < q 0 := by omega
    obtain ⟨a1, a2, a3, a4, a5, a6⟩ := zgrp_pos hw hi (zhun_cnt (zbad_iff.mp b1).1)
    have hgcl := zgc_le hw a1
    have hm : zgc q (zpart q i) * zwa q ≤ 99000 * 99000 := Nat.mul_le_mul hgcl (zwa_le hw)
    exact zcut_ub2 a4 (by omega)
  | none =>
    have hsu := zsoo_ub (q := q) (q 0)
    show max v (zsoo q (q 0)) ≤ _
    omega
/-- the loop of leastNet -/
theorem least3_l {q : ZRow} {most n : Nat} (hw : WF q) (hm : most ≤ 99999) (hh : zhunS q ≠ 0) (hn : 100 < n) : ∀ d v m st (M : ZMem), st + d = 100 → d < m → v ≤ 1152921504606846976 → GI M q (q 0) → M 63 11 = nI (zhunS q) → ∃ M', zf_X3_leastNet_L92 (nI most) n (fun M46 => some ((-2 : Int32), M46)) m (lN v) (nI st) M = some (match zlp9 q most d v with
    | some x => nI x
    | none => -2, M') ∧ Fr 68 68 M M' := by
  intro d
  induction d with
  | zero =>
    intro v m st M hst hmm hv hG h11
    obtain ⟨m, rfl⟩ : ∃ y, m = y + 1 := ⟨m - 1, by omega⟩
    refine ⟨M, ?_, Fr.refl _ _ _⟩
    rw [zf_X3_leastNet_L92, show (100 : Int32) = nI 100 from rfl, zi_le (by omega) (by omega), if_pos (by omega)]
    rfl
  | succ d ih =>
    intro v m st M hst hmm hv hG h11
    obtain ⟨m, rfl⟩ : ∃ y, m = y + 1 := ⟨m - 1, by omega⟩
    rw [zf_X3_leastNet_L92, show (100 : Int32) = nI 100 from rfl, zi_le (by omega) (by omega), if_neg (by omega), ev_l (by omega), zlp9_s]
    by_cases c1 : most < v
    · rw [if_pos c1, if_pos ((lg_cmp_gt _ _).mpr ((pk_lLT (by omega) (by omega)).mpr c1))]
      exact ⟨M, rfl, Fr.refl _ _ _⟩
    · obtain ⟨M1, a1, a2⟩ := next3 (n := n) hG h11 hw (show v ≤ 99999 by omega) hh hn
      have hub := znext_ub hw (show v ≤ 99999 by omega)
      rw [if_neg c1, if_neg (fun z => c1 ((pk_lLT (by omega) (by omega)).mp ((lg_cmp_gt _ _).mp z))), lN_i, zb2_at a1]
      by_cases c2 : v < znext q v
      · rw [if_pos c2, if_pos ((lg_cmp_gt _ _).mpr ((pk_lLT (by omega) (by omega)).mpr c2)), nI_1]
        obtain ⟨M2, b1, b2⟩ := ih (znext q v) m (st + 1) M1 (by omega) (by omega) hub (hG.fr68 (fun k x y => a2 k (by omega)) (fun j x y => by rw [a2 63 (by omega)])) (by rw [a2 63 (by omega)]; exact h11)
        exact ⟨M2, b1, a2.trans b2⟩
      · rw [if_neg c2, if_neg (fun z => c2 ((pk_lLT (by omega) (by omega)).mp ((lg_cmp_gt _ _).mp z)))]
        exact ⟨M1, rfl, a2⟩
/-- the claims together, or one below the least -/
theorem least3_c {M : ZMem} {q : ZRow} (hG : GI M q (q 0)) (h11 : M 63 11 = nI (zhunS q)) (hw : WF q) (K : Int64 → Option (Int32 × ZMem)) : ∀ d i m, i + d = q 0 → d < m → (∀ j, j < i → zhun q j = true → q 4 ≤ zclaim q j) → (zfil q ∧ zf_X3_leastNet_L32 M K m (lN (zsum (fun i => if zhun q i = true then zclaim q i else 0) i)) (nI i) = K (lN (zcH q))) ∨ (∃ j, j < q 0 ∧ zhun q j = true ∧ zclaim q j < q 4 ∧ zf_X3_leastNet_L32 M K m (lN (zsum (fun i => if zhun q i = true then zclaim q i else 0) i)) (nI i) = some (-2, M)) := by
  have hb := hw.b
  have hhl := zhunS_lt (q := q) hw.1
  intro d
  induction d with
  | zero =>
    intro i m hi hm hf
    obtain ⟨m, rfl⟩ : ∃ y, m = y + 1 := ⟨m - 1, by omega⟩
    refine Or.inl ⟨fun j hj hh => hf j (by omega) hh, ?_⟩
    rw [zf_X3_leastNet_L32, hG.1, zi_le (by omega) (by omega), if_pos (by omega), show i = q 0 by omega]
    rfl
  | succ d ih =>
    intro i m hi hm hf
    obtain ⟨m, rfl⟩ : ∃ y, m = y + 1 := ⟨m - 1, by omega⟩
    have hil : i < q 0 := by omega
    have hcle := zclaim_le hw hil
    have c64 := hG.2.2.2.2.2.2.2.1 i hil
    have es : zsum (fun i => if zhun q i = true then zclaim q i else 0) (i + 1) = zsum (fun i => if zhun q i = true then zclaim q i else 0) i + (if zhun q i = true then zclaim q i else 0) := rfl
    rw [zf_X3_leastNet_L32, hG.1, zi_le (by omega) (by omega), if_neg (by omega), h11, zb1_at (has9 hhl (by omega)), zhunS_tb hil, zB0]
    unfold zf_X3_leastNet_j83
    rw [zrd_at i rfl (by omega), zrd_at i rfl (by omega), c64, hG.2.1, zi_le (by omega) (by omega), ev_l (by omega), lN_add, nI_1]
    cases hh : zhun q i with
    | false =>
      rw [if_neg (by decide)]
      rw [hh] at es
      have e := ih (i + 1) m (by omega) (by omega) (fun j hj hz => by
        by_cases g : j = i
        · rw [g, hh] at hz; cases hz
        · exact hf j (by omega) hz)
      have es' : zsum (fun i => if zhun q i = true then zclaim q i else 0) (i + 1) = zsum (fun i => if zhun q i = true then zclaim q i else 0) i := es
      rw [es'] at e
      exact e
    | true =>
      rw [if_pos rfl]
      rw [hh] at es
      by_cases g : q 4 ≤ zclaim q i
      · rw [if_pos g]
        have e := ih (i + 1) m (by omega) (by omega) (fun j hj hz => by
          by_cases g' : j = i
          · rw [g']; exact g
          · exact hf j (by omega) hz)
        have es' : zsum (fun i => if zhun q i = true then zclaim q i else 0) (i + 1) = zsum (fun i => if zhun q i = true then zclaim q i else 0) i + zclaim q i := es
        rw [es'] at e
        exact e
      · rw [if_neg g]
        exact Or.inr ⟨i, hil, hh, by omega, rfl⟩
theorem netF9 {M : ZMem} {t o f : Nat} {q : ZRow} (h : CQ M t o q) (hf : f ≤ 99999) : zf_X9_netOf t (nI (zcostN q)) (nI f) M = some (nI (znetF q f)) := by
  have hb := h.2.2.1.1.b
  have hc := zcostN_le h.2.2.1
  have t8 := h.1.2.2.1
  have hm : f * q 3 ≤ 99999 * 50 := Nat.mul_le_mul (by omega) (by omega)
  have hdiv : f * q 3 / 100 ≤ 50000 := by omega
  unfold zf_X9_netOf
  rw [t8, pk_mul, show (100 : Int32) = nI 100 from rfl, pk_div (by omega) (by omega) (by omega), show (0 : Int32) = nI 0 from rfl, zz_net (by omega) (by omega)]
  unfold znetF
  rw [Nat.mul_comm]
/-- the least FUND, by halves -/
theorem fundFor9 {M : ZMem} {t nx u n x f : Nat} {r : ZRow} {U : Nat → ZRow} {T : ZT} {L : ZL} (hC : IC M t nx r u U T L) (hg : GD r) (hf : f ≤ 99999) (hx : x ≤ 99999) (hn : 100 < n) (h1 : znetF r f = x) (h2 : ∀ y, y < f → znetF r y < x) : zf_X9_fundFor n (nI x) M = some (nI f) := by
  have hq := hC.cq hg
  have hw := hg.1
  have hc12 : M 12 3 = nI (zcostN r) := hq.2.1.2
  have hnl : ∀ y, y ≤ 99999 → znetF r y ≤ 99999 := fun y hy => by unfold znetF; omega
  have key : ∀ k st m lo hi, st + k = 20 → k < m → lo ≤ f → f ≤ hi → hi ≤ 99999 → hi - lo < 2 ^ k → zf_X9_fundFor_L9 M (nI x) (fun v31 => some v31) m (nI lo) (nI hi) (nI st) = some (nI f) := by
    intro k
    induction k with
    | zero =>
      intro st m lo hi hst hm h3 h4 h5 h6
      obtain ⟨m, rfl⟩ : ∃ y, m = y + 1 := ⟨m - 1, by omega⟩
      have : hi - lo < 1 := h6
      rw [zf_X9_fundFor_L9, show (20 : Int32) = nI 20 from rfl, zi_le (by omega) (by omega), if_pos (by omega), show lo = f by omega]
    | succ k ih =>
      intro st m lo hi hst hm h3 h4 h5 h6
      obtain ⟨m, rfl⟩ : ∃ y, m = y + 1 := ⟨m - 1, by omega⟩
      have hp : 2 ^ (k + 1) = 2 ^ k * 2 := Nat.pow_succ 2 k
      rw [zf_X9_fundFor_L9, show (20 : Int32) = nI 20 from rfl, zi_le (by omega) (by omega), if_neg (by omega), zi_le (by omega) (by omega)]
      by_cases c : hi ≤ lo
      · rw [if_pos c, show lo = f by omega]
      · have hnm := hnl ((lo + hi) / 2) (by omega)
        rw [if_neg c, hC.1.dy, hc12, nI_add, show (2 : Int32) = nI 2 from rfl, pk_div (by omega) (by omega) (by omega), zb1_at (netF9 hq (show (lo + hi) / 2 ≤ 99999 by omega)), zi_lt (by omega) (by omega)]
        unfold zf_X9_fundFor_j59
        by_cases c2 : znetF r ((lo + hi) / 2) < x
        · have hmf : (lo + hi) / 2 < f := by
            by_cases g : (lo + hi) / 2 < f
            · exact g
            · have := znetF_mono hw f ((lo + hi) / 2 - f)
              rw [show f + ((lo + hi) / 2 - f) = (lo + hi) / 2 by omega] at this
              omega
          rw [if_pos c2, nI_1, nI_1]
          exact ih (st + 1) m ((lo + hi) / 2 + 1) hi (by omega) (by omega) (by omega) h4 h5 (by omega)
        · have hmf : f ≤ (lo + hi) / 2 := by
            by_cases g : f ≤ (lo + hi) / 2
            · exact g
            · have := h2 ((lo + hi) / 2) (by omega)
              omega
          rw [if_neg c2, nI_1]
          exact ih (st + 1) m lo ((lo + hi) / 2) (by omega) (by omega) h3 hmf (by omega) (by omega)
  unfold zf_X9_fundFor
  exact key 20 0 n 0 99999 (by omega) (by omega) (by omega) hf (by omega) (by decide)
theorem ne_m2 {x : Nat} (h : x ≤ 99999) : ¬ nI x = -2 := fun z => nI_pos (show x < 2 ^ 31 by omega) (by rw [z]; decide)
def zans (o : Option Nat) : Int32 := match o with
  | some f => nI f
  | none => -2
theorem zcH_le {q : ZRow} (hw : WF q) : zcH q ≤ 99000 := by
  have h1 : zcH q ≤ q 0 * 9900 := zsum_le (fun i hi => by
    split
    · exact zclaim_le hw hi
    · omega)
  have h2 : q 0 * 9900 ≤ 10 * 9900 := Nat.mul_le_mul_right _ hw.1
  exact Nat.le_trans h1 h2
theorem needs9 {M : ZMem} {t nx u n : Nat} {r : ZRow} {U : Nat → ZRow} {T : ZT} {L : ZL} (hC : IC M t nx r u U T L) (hg : GD r) (hn : 1000 < n) : ∃ M1, zf_X9_needs n M = some (zans (zfnd (zokF r) 100000 0), M1) ∧ F9 M M1 := by
  have hw := hg.1
  have hb := hw.b
  have ht := hC.t
  have h := hC.cq hg
  have hhl := zhunS_lt (q := r) hw.1
  obtain ⟨M1, a1, a2, a3⟩ := split6 (n := n) hw.1 (fun j hj => hw.foe hj) h.tk (by omega) (by omega) (by omega)
  have h1 := h.fp (FPm.of_fs a3)
  obtain ⟨M2, b1, b2, b3, b4⟩ := gather3 (n := n) h1 a2 (by omega)
  have h2 := h1.fp (FPm.of_fr (b4.mono (by omega) (by omega)))
  have hF2 : F9 M M2 := ((FPm.of_fs a3).trans (FPm.of_fr (b4.mono (by omega) (by omega)))).f9
  have c3 : M2 12 3 = nI (zcostN r) := h2.2.1.2
  have hnet := netF9 h2 (show 99999 ≤ 99999 by omega)
  have hnl : znetF r 99999 ≤ 99999 := by unfold znetF; omega
  have hF3 : ∀ A, Fr 68 68 M2 A → F9 M A := fun A hA => hF2.trans (FPm.of_fr (hA.mono (by omega) (by omega))).f9
  have hL : zf_X3_leastNet n t 12 M = zf_X3_leastNet_L32 M2 (fun w39 => (zf_X3_leastNet_L92 (nI (znetF r 99999)) n (fun M46 => some ((-2 : Int32), M46)) n w39 (0 : Int32) M2)) n (0 : Int64) (0 : Int32) := by
    unfold zf_X3_leastNet
    rw [zb1_at a1, zb1_at b1, c3, zb1_at (show zf_X9_netOf t (nI (zcostN r)) (99999 : Int32) M2 = _ from hnet)]
  have hcl := least3_c b2 b3 hw (fun w39 => (zf_X3_leastNet_L92 (nI (znetF r 99999)) n (fun M46 => some ((-2 : Int32), M46)) n w39 (0 : Int32) M2)) (r 0) 0 n (by omega) (by omega) (fun j hj => by omega)
  unfold zf_X9_needs zf_X9_needs_j42
  rw [hC.1.dy, hL]
  rcases hcl with ⟨hfil, e1⟩ | ⟨j, j1, j2, j3, e1⟩
  · rw [show zf_X3_leastNet_L32 M2 (fun w39 => (zf_X3_leastNet_L92 (nI (znetF r 99999)) n (fun M46 => some ((-2 : Int32), M46)) n w39 (0 : Int32) M2)) n (0 : Int64) (0 : Int32) = _ from e1]
    by_cases hh : zhunS r = 0
    · have hno : ∀ i, i < r 0 → zhun r i = false := fun i hi => by rw [← zhunS_tb hi, hh, Nat.zero_testBit]
      obtain ⟨d1, d2⟩ := needs_0 hno
      obtain ⟨m, rfl⟩ : ∃ y, n = y + 1 := ⟨n - 1, by omega⟩
      have e2 : zf_X3_leastNet_L92 (nI (znetF r 99999)) (m + 1) (fun M46 => some ((-2 : Int32), M46)) (m + 1) (lN (zcH r)) (0 : Int32) M2 = some (nI 0, M2) := by
        rw [d2, zf_X3_leastNet_L92, if_neg (by decide), ev_l (by omega), if_neg (fun z => by
          have := (pk_lLT (by omega) (by omega)).mp ((lg_cmp_gt _ _).mp z)
          omega), lN_i]
        unfold zf_X3_nextNet
        rw [b3, hh, if_pos (show nI 0 = 0 from rfl), ev_l (by omega)]
        rw [zb2_at rfl, if_neg (show ¬ (0 : Int32) < lg_cmp (lN 0) (lN 0) by decide)]
      refine ⟨M2, ?_, hF2⟩
      rw [d1]
      show zb2 (zf_X3_leastNet_L92 (nI (znetF r 99999)) (m + 1) (fun M46 => some ((-2 : Int32), M46)) (m + 1) (lN (zcH r)) (0 : Int32) M2) _ = some (nI 0, M2)
      rw [zb2_at e2, if_neg (ne_m2 (by omega)), if_pos (show nI 0 = 0 from rfl)]
      rfl
    · obtain ⟨A, g1, g2⟩ := least3_l (n := n) (most := znetF r 99999) hw hnl hh (by omega) 100 (zcH r) n 0 M2 (by omega) (by omega) (by
        have := zcH_le hw
        omega) b2 b3
      obtain ⟨i0, hi0, hh0⟩ : ∃ i, i < r 0 ∧ zhun r i = true := by
        by_cases g : ∃ i, i < r 0 ∧ zhun r i = true
        · exact g
        · exfalso
          apply hh
          refine tb_ext (n := 10) hhl (by decide) (fun i hi => ?_)
          rw [Nat.zero_testBit]
          unfold zhunS
          rw [zset_tb]
          by_cases gi : i < r 0
          · cases hz : zhun r i with
            | false => rw [Bool.and_false]
            | true => exact absurd ⟨i, gi, hz⟩ g
          · rw [decide_eq_false gi]; rfl
      have hmu := zmu_le r (zcH r)
      obtain ⟨o1, o2⟩ := zlp9_ok hw hfil (most := znetF r 99999) (c := zcH r) hnl 100 (zcH r) (Nat.le_refl _) (fun v' a b => by omega) (fun _ => by omega) (by omega)
      refine ⟨A, ?_, hF3 A g2⟩
      have g1' : zf_X3_leastNet_L92 (nI (znetF r 99999)) n (fun M46 => some ((-2 : Int32), M46)) n (lN (zcH r)) (0 : Int32) M2 = _ := g1
      show zb2 (zf_X3_leastNet_L92 (nI (znetF r 99999)) n (fun M46 => some ((-2 : Int32), M46)) n (lN (zcH r)) (0 : Int32) M2) _ = _
      rw [zb2_at g1']
      cases hz : zlp9 r (znetF r 99999) 100 (zcH r) with
      | none =>
        rw [needs_none hw hi0 hh0 (o2 hz)]
        rfl
      | some x =>
        obtain ⟨x1, x2, x3, x4⟩ := o1 x hz
        have hcp : 0 < zcH r := by
          have := zcH_in hi0 hh0
          have := zcnt_pos (zhun_cnt hh0)
          omega
        obtain ⟨f, f1, f2, f3⟩ := zfund hw (show 0 < x by omega) x2
        rw [needs_some hw hi0 hh0 x1 x3 x4 f1 f2 f3]
        have hCA : IC A t nx r u U T L := hC.f9 (hF3 A g2)
        show (if nI x = (-2 : Int32) then some ((-2 : Int32), A) else (if nI x = 0 then some ((0 : Int32), A) else zb1 (zf_X9_fundFor n (nI x) A) (fun v29 => some (v29, A)))) = some (nI f, A)
        rw [if_neg (ne_m2 (by omega)), if_neg (fun z => by
          have := (nI_eq (by omega) (by omega)).mp (show nI x = nI 0 from z)
          omega), zb1_at (fundFor9 hCA hg f1 (by omega) (by omega) f2 f3)]
  · refine ⟨M2, ?_, hF2⟩
    rw [needs_fil j1 j2 j3, show zf_X3_leastNet_L32 M2 (fun w39 => (zf_X3_leastNet_L92 (nI (znetF r 99999)) n (fun M46 => some ((-2 : Int32), M46)) n w39 (0 : Int32) M2)) n (0 : Int64) (0 : Int32) = _ from e1]
    rfl
