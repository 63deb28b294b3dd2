/-! LAYER 2: undo, back -/
theorem zund9_16_1 {M : ZMem} {nx u : Nat} : zund9 M nx u 16 1 = nI ((nx + 11) % 12) := by
  unfold zund9
  rw [wrn (by omega), zcpS_ne (by omega) (by omega), wrj (by omega), wre]
theorem zund9_16_2 {M : ZMem} {nx u : Nat} : zund9 M nx u 16 2 = nI (u - 1) := by
  unfold zund9
  rw [wrn (by omega), zcpS_ne (by omega) (by omega), wre]
theorem zund9_ne {M : ZMem} {nx u k : Nat} (h : k ≠ 12) (h1 : k ≠ 13) (h2 : k ≠ 16) (h3 : k ≠ 71) : zund9 M nx u k = M k := by
  unfold zund9
  rw [wrn h3, zcpS_ne h h1, wrn h2, wrn h2]
theorem zund9_71 {M : ZMem} {nx u : Nat} : zund9 M nx u 71 0 = nI 0 := by
  unfold zund9
  rw [wre]; rfl
theorem zund9_sd {M : ZMem} {nx u : Nat} {r : ZRow} (h : SDc M (18 + 2 * ((nx + 11) % 12)) r) : SDc (zund9 M nx u) 12 r := by
  have hm : (nx + 11) % 12 < 12 := Nat.mod_lt _ (by decide)
  have e0 : ∀ j, j ≤ 10 → zund9 M nx u 12 j = M (18 + 2 * ((nx + 11) % 12)) j := fun j hj => by
    unfold zund9
    rw [wrn (by omega)]
    unfold zcpS
    rw [if_pos ⟨rfl, hj⟩, wrn (by omega), wrn (by omega)]
  have e1 : ∀ j, j < 10 → zund9 M nx u (12 + 1) j = M (18 + 2 * ((nx + 11) % 12) + 1) j := fun j hj => by
    unfold zund9
    rw [wrn (by omega)]
    unfold zcpS
    rw [if_neg (by omega), if_pos ⟨rfl, hj⟩, wrn (by omega), wrn (by omega)]
  obtain ⟨⟨a1, a2, a3, a4, a5, a6, a7, a8, a9, a10, a11⟩, a12⟩ := h
  refine ⟨⟨?_, ?_, ?_, ?_, ?_, ?_, ?_, ?_, ?_, ?_, ?_⟩, ?_⟩
  · rw [e0 _ (by omega)]; exact a1
  · rw [e0 _ (by omega)]; exact a2
  · rw [e0 _ (by omega)]; exact a3
  · rw [e0 _ (by omega)]; exact a4
  · rw [e0 _ (by omega)]; exact a5
  · rw [e0 _ (by omega)]; exact a6
  · rw [e0 _ (by omega)]; exact a7
  · rw [e0 _ (by omega)]; exact a8
  · rw [e0 _ (by omega)]; exact a9
  · rw [e0 _ (by omega)]; exact a10
  · intro i hi; rw [e1 i hi]; exact a11 i hi
  · rw [e0 _ (by omega)]; exact a12
theorem op_undo {n : Nat} (hn : 803 < n) {M : ZMem} (hI : INV M) : OPW zf_X9_undo (zf_X10_undo n) M := by
  obtain ⟨t, nx, r, u, U, T, L, hS, hC, hM⟩ := id hI
  obtain ⟨c1, c2, c3, c4, c5⟩ := hC.2.2.2.2.1
  have ht := hC.t
  have h9 := undo9 c1 c2 c3 c4
  by_cases g : u = 0
  · refine OPW.same (-1) ?_ ?_ hI
    · rw [h9, if_pos g]
    · rw [undo10 hM.2.1.1 c4 (by omega), if_pos g]
  · rw [if_neg g] at h9
    obtain ⟨q1, q2⟩ := hS.2.1 (u - 1) (by omega)
    have hm : (nx + 11) % 12 < 12 := Nat.mod_lt _ (by decide)
    refine OPW.of (t := t) (nx := nx) (r' := U (u - 1)) (u' := u - 1) (U' := U) (T' := T) (L' := L) (t' := t) (nx' := (nx + 11) % 12) (v := nI (u - 1)) hM ⟨q1, fun k hk => ?_, hS.2.2⟩ ⟨zund9 M nx u, h9, ?_, fun k hk => zund9_ne (by omega) (by omega) (by omega) (by omega)⟩ (fun M1 hM1 => ⟨zub (zwr M1 77 4 (nI (u - 1))) (u - 1) 73, ?_, ?_, fun k hk => ?_⟩)
    · obtain ⟨p1, p2⟩ := hS.2.1 k (by omega)
      exact ⟨p1, q2.symm.trans p2⟩
    · have hsd := c5 (u - 1) (by omega)
      rw [show (nx + 12 - u + (u - 1)) % 12 = (nx + 11) % 12 by congr 1; omega] at hsd
      have e' : ∀ k, k ≠ 12 → k ≠ 13 → k ≠ 16 → k ≠ 71 → zund9 M nx u k = M k := fun k a b c d => zund9_ne a b c d
      obtain ⟨h1, h2, h3, h4, h5, h6, h7, h8, h9⟩ := hC
      refine ⟨h1.congr (e' 0 (by omega) (by omega) (by omega) (by omega)), by rw [e' 42 (by omega) (by omega) (by omega) (by omega)]; exact h2, (h3.congr (fun k a b => e' k (by omega) (by omega) (by omega) (by omega))).ta hS.1.1 q2, zund9_sd hsd, ⟨zund9_16_1, hm, zund9_16_2, by omega, fun k hk => ?_⟩, h6.congr (by rw [e' 42 (by omega) (by omega) (by omega) (by omega)]) (e' 43 (by omega) (by omega) (by omega) (by omega)), h7.congr (fun k a b => e' k (by omega) (by omega) (by omega) (by omega)), h8.congr (by rw [e' 57 (by omega) (by omega) (by omega) (by omega)]) (by rw [e' 57 (by omega) (by omega) (by omega) (by omega)]), Or.inl zund9_71⟩
      have hk2 := c5 k (by omega)
      rw [show ((nx + 11) % 12 + 12 - (u - 1) + k) % 12 = (nx + 12 - u + k) % 12 by omega]
      exact hk2.congr (e' _ (by omega) (by omega) (by omega) (by omega)) (e' _ (by omega) (by omega) (by omega) (by omega))
    · rw [undo10 hM1.2.1.1 c4 (by omega), if_neg g]
    · obtain ⟨i1, i2, i3, i4⟩ := hM1
      have e77 : ∀ j, j ≠ 4 → zub (zwr M1 77 4 (nI (u - 1))) (u - 1) 73 77 j = M1 77 j := fun j hj => by rw [zub_ne (by omega), wrj hj]
      have en : ∀ k, k ≠ 77 → k ≠ 78 → zub (zwr M1 77 4 (nI (u - 1))) (u - 1) 73 k = M1 k := fun k h1 h2 => by rw [zub_ne h2, wrn h1]
      refine ⟨fun j hj => ?_, ⟨?_, by omega, fun k hk j hj => ?_⟩, i3.congr (e77 6 (by omega)) (en 81 (by omega) (by omega)), i4.congr (e77 16 (by omega)) (en 82 (by omega) (by omega)) (en 83 (by omega) (by omega)) (en 84 (by omega) (by omega))⟩
      · unfold zub
        rw [if_pos ⟨rfl, hj⟩, wrn (by omega)]
        exact i2.2.2 (u - 1) (by omega) j hj
      · rw [zub_ne (by omega), wre]
      · rw [en 80 (by omega) (by omega)]
        exact i2.2.2 k (by omega) j hj
    · rw [zub_ne (by omega), wrn (by omega)]
theorem op_back {M : ZMem} (hI : INV M) (a : Int32) : OPW (zf_X9_back a) (zf_X10_back a) M := by
  obtain ⟨t, nx, r, u, U, T, L, hS, hC, hM⟩ := id hI
  have h42 : M 42 1 = nI T.1 := hC.2.2.2.2.2.1.1
  have h77 : M 77 6 = nI T.1 := hM.2.2.1.1
  have hT := hS.2.2.1.1
  have ht := hC.t
  rcases zint a with ha | ⟨k, hk, rfl⟩
  · refine OPW.same (-nI 1) ?_ ?_ hI
    · simp (disch := (first | assumption | omega)) only [zf_X9_back, zf_X9_back_j15, zlp, ↓in1]
    · simp (disch := (first | assumption | omega)) only [zf_X10_back, zlp, ↓ev_ifB, ↓ev_iflt, ↓ev_ifle, ↓ev_ifeq, ↓ifp, ↓ifn, ↓ev_b1, ↓ev_b2, ↓ev_put, ↓ev_z0, ↓ev_z1, ↓ev_zB, ↓ev_has9, ↓ev_has10, ↓ev_shl, ↓ev_bit, ↓ev_in, ↓ev_inG, ↓ev_rd, ↓ev_st, decide_eq_true_eq, nI_add, ev_sub, pk_mul, nI_or, nI_xor, zBt, zBf, if_true, if_false, eq_self, Bool.false_eq_true]
  · by_cases g : k ≤ T.1
    · refine OPW.of (t := t) (nx := nx) (r' := r) (u' := u) (U' := U) (T' := (T.1 - k, T.2)) (L' := L) (t' := t) (nx' := nx) (v := nI (T.1 - k)) hM ⟨hS.1, hS.2.1, ⟨by show T.1 - k ≤ 400; omega, fun j hj => hS.2.2.1.2 j (by have : j < T.1 - k := hj; omega)⟩, hS.2.2.2⟩ ⟨zwr M 42 1 (nI (T.1 - k)), ?_, ?_, fun k hk => wrn (by omega)⟩ (fun M1 hM1 => ⟨zwr M1 77 6 (nI (T.1 - k)), ?_, ?_, fun k hk => wrn (by omega)⟩)
      · simp (disch := (first | assumption | omega)) only [zf_X9_back, zf_X9_back_j15, zlp, ↓ev_ifB, ↓ev_iflt, ↓ev_ifle, ↓ev_ifeq, ↓ifp, ↓ifn, ↓ev_b1, ↓ev_b2, ↓ev_put, ↓ev_z0, ↓ev_z1, ↓ev_zB, ↓ev_has9, ↓ev_has10, ↓ev_shl, ↓ev_bit, ↓ev_in, ↓ev_inG, ↓ev_rd, ↓ev_st, decide_eq_true_eq, nI_add, ev_sub, pk_mul, nI_or, nI_xor, zBt, zBf, if_true, if_false, eq_self, Bool.false_eq_true, h42, wre]
      · obtain ⟨h1, h2, h3, h4, h5, h6, h7, h8, h9⟩ := hC
        refine ⟨h1.congr (wrn (by omega)), by rw [wrj (by omega)]; exact h2, h3.congr (fun k a b => wrn (by omega)), h4.congr (wrn (by omega)) (wrn (by omega)), h5.congr (fun k a b => wrn (by omega)), ⟨wre, fun j hj => ?_⟩, h7.congr (fun k a b => wrn (by omega)), h8.congr (by rw [wrn (by omega)]) (by rw [wrn (by omega)]), h9.congr (wrn (by omega)) (wrn (by omega))⟩
        rw [wrn (by omega)]
        exact h6.2 j (by have : j < T.1 - k := hj; omega)
      · have h77' : M1 77 6 = nI T.1 := hM1.2.2.1.1
        simp (disch := (first | assumption | omega)) only [zf_X10_back, zlp, h77', ↓ev_ifB, ↓ev_iflt, ↓ev_ifle, ↓ev_ifeq, ↓ifp, ↓ifn, ↓ev_b1, ↓ev_b2, ↓ev_put, ↓ev_z0, ↓ev_z1, ↓ev_zB, ↓ev_has9, ↓ev_has10, ↓ev_shl, ↓ev_bit, ↓ev_in, ↓ev_inG, ↓ev_rd, ↓ev_st, decide_eq_true_eq, nI_add, ev_sub, pk_mul, nI_or, nI_xor, zBt, zBf, if_true, if_false, eq_self, Bool.false_eq_true, wre]
      · obtain ⟨i1, i2, i3, i4⟩ := hM1
        refine ⟨i1.congr (wrn (by omega)), i2.congr (wrj (by omega)) (wrn (by omega)), ⟨wre, fun j hj => ?_⟩, i4.congr (wrj (by omega)) (wrn (by omega)) (wrn (by omega)) (wrn (by omega))⟩
        rw [wrn (by omega)]
        exact i3.2 j (by have : j < T.1 - k := hj; omega)
    · refine OPW.same (-nI 1) ?_ ?_ hI
      · simp (disch := (first | assumption | omega)) only [zf_X9_back, zf_X9_back_j15, zlp, ↓ev_ifB, ↓ev_iflt, ↓ev_ifle, ↓ev_ifeq, ↓ifp, ↓ifn, ↓ev_b1, ↓ev_b2, ↓ev_put, ↓ev_z0, ↓ev_z1, ↓ev_zB, ↓ev_has9, ↓ev_has10, ↓ev_shl, ↓ev_bit, ↓ev_in, ↓ev_inG, ↓ev_rd, ↓ev_st, decide_eq_true_eq, nI_add, ev_sub, pk_mul, nI_or, nI_xor, zBt, zBf, if_true, if_false, eq_self, Bool.false_eq_true, h42]
      · simp (disch := (first | assumption | omega)) only [zf_X10_back, zlp, h77, ↓ev_ifB, ↓ev_iflt, ↓ev_ifle, ↓ev_ifeq, ↓ifp, ↓ifn, ↓ev_b1, ↓ev_b2, ↓ev_put, ↓ev_z0, ↓ev_z1, ↓ev_zB, ↓ev_has9, ↓ev_has10, ↓ev_shl, ↓ev_bit, ↓ev_in, ↓ev_inG, ↓ev_rd, ↓ev_st, decide_eq_true_eq, nI_add, ev_sub, pk_mul, nI_or, nI_xor, zBt, zBf, if_true, if_false, eq_self, Bool.false_eq_true]
