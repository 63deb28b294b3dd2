/-! LAYER 2: settles -/
theorem zsB_s (r : ZRow) (a d b : Nat) : zsB r a (d + 1) b = if zset2 r a b then some (10 * a + b) else zsB r a d (b + 1) := rfl
theorem zsA_s (r : ZRow) (d a : Nat) : zsA r (d + 1) a = match zsB r a d (a + 1) with | some v => some v | none => zsA r d (a + 1) := rfl
theorem setB9 {M M28 : ZMem} {t nx u n a : Nat} {r : ZRow} {U : Nat → ZRow} {T : ZT} {L : ZL} (hC : IC M t nx r u U T L) (hg : GD r) (h28 : M28 57 5 = nI (zparts r)) (hn : 20 < n) (K : ZMem → Option (Int32 × ZMem)) (ha : a < r 0) : ∀ d b m M1, b + d = r 0 → d < m → a < b → SI9 M M1 r → (∀ v, zsB r a d b = some v → ∃ M2, zf_X9_settles_L29 (nI a) n M28 K m (nI b) M1 = some (nI v, M2) ∧ SI9 M M2 r) ∧ (zsB r a d b = none → ∃ M2, zf_X9_settles_L29 (nI a) n M28 K m (nI b) M1 = K M2 ∧ SI9 M M2 r) := by
  have hw := hg.1
  have hbd := hw.b
  intro d
  induction d with
  | zero =>
    intro b m M1 hb hm hab hSI
    obtain ⟨m, rfl⟩ : ∃ x, m = x + 1 := ⟨m - 1, by omega⟩
    have hC1 := hC.f9 hSI.2.2.2
    obtain ⟨a0, -⟩ := hC1.rd
    have hdy := fun (K : Nat → Option (Int32 × ZMem)) => hC1.1.dy (K := K)
    refine ⟨fun v h => (by cases h), fun _ => ⟨M1, ?_, hSI⟩⟩
    simp (disch := (first | assumption | omega)) only [zf_X9_settles_L29, zlp, ↓hdy, a0, ↓ev_ifB, ↓ev_iflt, ↓ev_ifle, ↓ev_ifeq, ↓ifp, ↓ifn, ↓ev_b1, ↓ev_b2, ↓ev_put, ↓ev_z0, ↓ev_z1, ↓ev_zB, ↓ev_has9, ↓ev_has10, ↓ev_shl, ↓ev_bit, ↓ev_in, ↓ev_inG, ↓ev_rd, ↓ev_st, decide_eq_true_eq, nI_add, ev_sub, pk_mul, nI_or, nI_xor, zBt, zBf, if_true, if_false, eq_self, Bool.false_eq_true]
  | succ d ih =>
    intro b m M1 hb hm hab hSI
    obtain ⟨m, rfl⟩ : ∃ x, m = x + 1 := ⟨m - 1, by omega⟩
    have hC1 := hC.f9 hSI.2.2.2
    obtain ⟨a0, -⟩ := hC1.rd
    have hdy := fun (K : Nat → Option (Int32 × ZMem)) => hC1.1.dy (K := K)
    have hfa := hC1.foe (show a < 10 by omega)
    have hfl := hw.foe (show a < 10 by omega)
    rw [zsB_s]
    by_cases g1 : (r (63 + a)).testBit b = true
    · obtain ⟨M2, e1, e2⟩ := fewer9 (n := n) hSI hg ha (show b < r 0 by omega) (by omega) hn
      by_cases g2 : (zdv (ztog r a b) (zin r)).1 < zparts r
      · rw [if_pos (by simp [zset2, g1, g2])]
        rw [decide_eq_true g2] at e1
        refine ⟨fun v h => ⟨M2, ?_, e2⟩, fun h => by cases h⟩
        cases h
        simp (disch := (first | assumption | omega)) only [zf_X9_settles_L29, zf_X9_settles_j76, zlp, ↓hdy, a0, ↓ev_ifB, ↓ev_iflt, ↓ev_ifle, ↓ev_ifeq, ↓ifp, ↓ifn, ↓ev_b1, ↓ev_b2, ↓ev_put, ↓ev_z0, ↓ev_z1, ↓ev_zB, ↓ev_has9, ↓ev_has10, ↓ev_shl, ↓ev_bit, ↓ev_in, ↓ev_inG, ↓ev_rd, ↓ev_st, decide_eq_true_eq, nI_add, ev_sub, pk_mul, nI_or, nI_xor, zBt, zBf, if_true, if_false, eq_self, Bool.false_eq_true, hfa, h28, e1]
      · rw [if_neg (by simp [zset2, g2])]
        rw [decide_eq_false g2] at e1
        obtain ⟨i1, i2⟩ := ih (b + 1) m M2 (by omega) (by omega) (by omega) e2
        have e3 : zf_X9_settles_L29 (nI a) n M28 K (m + 1) (nI b) M1 = zf_X9_settles_L29 (nI a) n M28 K m (nI (b + 1)) M2 := by
          simp (disch := (first | assumption | omega)) only [zf_X9_settles_L29, zf_X9_settles_j76, zlp, ↓hdy, a0, ↓ev_ifB, ↓ev_iflt, ↓ev_ifle, ↓ev_ifeq, ↓ifp, ↓ifn, ↓ev_b1, ↓ev_b2, ↓ev_put, ↓ev_z0, ↓ev_z1, ↓ev_zB, ↓ev_has9, ↓ev_has10, ↓ev_shl, ↓ev_bit, ↓ev_in, ↓ev_inG, ↓ev_rd, ↓ev_st, decide_eq_true_eq, nI_add, ev_sub, pk_mul, nI_or, nI_xor, zBt, zBf, if_true, if_false, eq_self, Bool.false_eq_true, hfa, h28, e1]
        rw [e3]
        exact ⟨i1, i2⟩
    · rw [if_neg (by simp [zset2, g1])]
      obtain ⟨i1, i2⟩ := ih (b + 1) m M1 (by omega) (by omega) (by omega) hSI
      have e3 : zf_X9_settles_L29 (nI a) n M28 K (m + 1) (nI b) M1 = zf_X9_settles_L29 (nI a) n M28 K m (nI (b + 1)) M1 := by
        simp (disch := (first | assumption | omega)) only [zf_X9_settles_L29, zf_X9_settles_j76, zlp, ↓hdy, a0, ↓ev_ifB, ↓ev_iflt, ↓ev_ifle, ↓ev_ifeq, ↓ifp, ↓ifn, ↓ev_b1, ↓ev_b2, ↓ev_put, ↓ev_z0, ↓ev_z1, ↓ev_zB, ↓ev_has9, ↓ev_has10, ↓ev_shl, ↓ev_bit, ↓ev_in, ↓ev_inG, ↓ev_rd, ↓ev_st, decide_eq_true_eq, nI_add, ev_sub, pk_mul, nI_or, nI_xor, zBt, zBf, if_true, if_false, eq_self, Bool.false_eq_true, hfa]
      rw [e3]
      exact ⟨i1, i2⟩
theorem settles9 {M M28 : ZMem} {t nx u n : Nat} {r : ZRow} {U : Nat → ZRow} {T : ZT} {L : ZL} (hC : IC M t nx r u U T L) (hg : GD r) (h28 : M28 57 5 = nI (zparts r)) (hn : 20 < n) : ∀ d a m M1, a + d = r 0 → d < m → SI9 M M1 r → ∃ M2, zf_X9_settles_L14 n M28 (fun M43 => some ((-2), M43)) m (nI a) M1 = some (zoI (zsA r d a), M2) ∧ F9 M M2 := by
  have hw := hg.1
  have hbd := hw.b
  intro d
  induction d with
  | zero =>
    intro a m M1 ha hm hSI
    obtain ⟨m, rfl⟩ : ∃ x, m = x + 1 := ⟨m - 1, by omega⟩
    have hC1 := hC.f9 hSI.2.2.2
    obtain ⟨a0, -⟩ := hC1.rd
    refine ⟨M1, ?_, hSI.2.2.2⟩
    rw [zf_X9_settles_L14, hC1.1.dy, a0, zi_le (by omega) (by omega), if_pos (by omega)]
    rfl
  | succ d ih =>
    intro a m M1 ha hm hSI
    obtain ⟨m, rfl⟩ : ∃ x, m = x + 1 := ⟨m - 1, by omega⟩
    have hC1 := hC.f9 hSI.2.2.2
    obtain ⟨a0, -⟩ := hC1.rd
    obtain ⟨i1, i2⟩ := setB9 hC hg h28 hn (fun M42 => (zf_X9_settles_L14 n M28 (fun M43 => some ((-2), M43)) m (nI a + 1) M42)) (show a < r 0 by omega) d (a + 1) n M1 (by omega) (by omega) (by omega) hSI
    rw [zf_X9_settles_L14, hC1.1.dy, a0, zi_le (by omega) (by omega), if_neg (by omega), nI_1, zsA_s]
    rw [nI_1] at i1 i2
    cases hz : zsB r a d (a + 1) with
    | some v =>
      obtain ⟨M2, e1, e2⟩ := i1 v hz
      exact ⟨M2, e1, e2.2.2.2⟩
    | none =>
      obtain ⟨M2, e1, e2⟩ := i2 hz
      obtain ⟨M3, e3, e4⟩ := ih (a + 1) m M2 (by omega) (by omega) e2
      exact ⟨M3, e1.trans e3, e4⟩
theorem quarrels10 {M : ZMem} {r : ZRow} {i j : Nat} (h : IR M r) (hi : i < 10) (hj : j < 10) (hij : i ≠ j) : zf_X10_quarrels (nI i) (nI j) M = some (zwr (zwr M 78 (63 + i) (nI (r (63 + i) ^^^ 2 ^ j))) 78 (63 + j) (nI (r (63 + j) ^^^ 2 ^ i))) := by
  have f1 : M 78 (63 + i) = nI (r (63 + i)) := by rw [h _ (by omega), rI_ne (by omega)]
  have x1 : zwr M 78 (63 + i) (nI (r (63 + i) ^^^ 2 ^ j)) 78 (63 + j) = nI (r (63 + j)) := by rw [wrj (by omega), h _ (by omega), rI_ne (by omega)]
  simp (disch := (first | assumption | omega)) only [zf_X10_quarrels, zlp, ↓ev_ifB, ↓ev_iflt, ↓ev_ifle, ↓ev_ifeq, ↓ifp, ↓ifn, ↓ev_b1, ↓ev_b2, ↓ev_put, ↓ev_z0, ↓ev_z1, ↓ev_zB, ↓ev_has9, ↓ev_has10, ↓ev_shl, ↓ev_bit, ↓ev_in, ↓ev_inG, ↓ev_rd, ↓ev_st, decide_eq_true_eq, nI_add, ev_sub, pk_mul, nI_or, nI_xor, zBt, zBf, if_true, if_false, eq_self, Bool.false_eq_true, f1, x1]
theorem zin_tog {r : ZRow} {a b : Nat} : zin (ztog r a b) = zin r := by
  unfold zin
  rw [ztog_ne (by omega), ztog_ne (by omega)]
theorem try10 {M1 : ZMem} {r : ZRow} {a b n : Nat} (hR : IR M1 r) (hg : GD r) (ha : a < r 0) (hb : b < r 0) (hab : a ≠ b) (hn : 400000000001 < n) (K : ZMem → Option (Int32 × ZMem)) : ∃ M47, zb1 (zf_X10_quarrels (nI a) (nI b) M1) (fun M44 => zb1 (zf_X10_inNow M44) (fun v45 => zb1 (zf_X10_divides n v45 M44) (fun M46 => zb1 (zf_X10_quarrels (nI a) (nI b) M46) K))) = K M47 ∧ F10 M1 M47 ∧ M47 77 20 = nI (zdv (ztog r a b) (zin r)).1 := by
  have hw := hg.1
  have hbd := hw.b
  have hg' := ztog_gd hg ha hb hab
  have hR2 : IR (zwr (zwr M1 78 (63 + a) (nI (r (63 + a) ^^^ 2 ^ b))) 78 (63 + b) (nI (r (63 + b) ^^^ 2 ^ a))) (ztog r a b) := (hR.at (by omega)).at (by omega)
  obtain ⟨M46, e1, e2, e3⟩ := hR2.div hg'.1 (s := zin r) (zin_lt hw.1) hn
  have hin := inNow10 hR2 hg'.1
  rw [zin_tog] at hin
  have hR3 : IR M46 (ztog r a b) := hR2.congr (e3.1 78 (by omega) (by omega))
  have hq := quarrels10 hR3 (show a < 10 by omega) (show b < 10 by omega) hab
  rw [ztog_1 hab, ztog_2, zxx, zxx] at hq
  refine ⟨zwr (zwr M46 78 (63 + a) (nI (r (63 + a)))) 78 (63 + b) (nI (r (63 + b))), ?_, ?_, ?_⟩
  · rw [zb1_at (quarrels10 hR (by omega) (by omega) hab), zb1_at hin, zb1_at e1, zb1_at hq]
  · have h78 : zwr (zwr M46 78 (63 + a) (nI (r (63 + a)))) 78 (63 + b) (nI (r (63 + b))) 78 = M1 78 := by
      funext p
      by_cases g2 : p = 63 + b
      · subst g2; rw [wre, hR _ (by omega), rI_ne (by omega)]
      · rw [wrj g2]
        by_cases g1 : p = 63 + a
        · subst g1; rw [wre, hR _ (by omega), rI_ne (by omega)]
        · rw [wrj g1, e3.1 78 (by omega) (by omega), wrj g2, wrj g1]
    have hk : ∀ k, k ≠ 77 → k ≠ 78 → k ≠ 85 → zwr (zwr M46 78 (63 + a) (nI (r (63 + a)))) 78 (63 + b) (nI (r (63 + b))) k = M1 k := fun k a b c => by rw [wrn b, wrn b, e3.1 k a c, wrn b, wrn b]
    have h77 : ∀ j, j ≠ 20 → zwr (zwr M46 78 (63 + a) (nI (r (63 + a)))) 78 (63 + b) (nI (r (63 + b))) 77 j = M1 77 j := fun j hj => by rw [wrn (by omega), wrn (by omega), e3.2 j hj, wrn (by omega), wrn (by omega)]
    exact ⟨fun k hk2 => hk k (by omega) (by omega) (by omega), h78, hk 80 (by omega) (by omega) (by omega), hk 81 (by omega) (by omega) (by omega), hk 82 (by omega) (by omega) (by omega), hk 83 (by omega) (by omega) (by omega), hk 84 (by omega) (by omega) (by omega), h77 4 (by omega), h77 6 (by omega), h77 16 (by omega)⟩
  · rw [wrn (by omega), wrn (by omega), e2.1]
theorem setB10 {M M32 : ZMem} {n a : Nat} {r : ZRow} (hR : IR M r) (hg : GD r) (h32 : M32 77 20 = nI (zparts r)) (hn : 400000000001 < n) (K : ZMem → Option (Int32 × ZMem)) (ha : a < r 0) : ∀ d b m M1, b + d = r 0 → d < m → a < b → F10 M M1 → (∀ v, zsB r a d b = some v → ∃ M2, zf_X10_settles_L29 (nI a) n M32 K m (nI b) M1 = some (nI v, M2) ∧ F10 M M2) ∧ (zsB r a d b = none → ∃ M2, zf_X10_settles_L29 (nI a) n M32 K m (nI b) M1 = K M2 ∧ F10 M M2) := by
  have hw := hg.1
  have hbd := hw.b
  have hpl := zparts_le hw.1
  intro d
  induction d with
  | zero =>
    intro b m M1 hb hm hab hF
    obtain ⟨m, rfl⟩ : ∃ x, m = x + 1 := ⟨m - 1, by omega⟩
    have hR1 : IR M1 r := hR.congr hF.2.1
    refine ⟨fun v h => (by cases h), fun _ => ⟨M1, ?_, hF⟩⟩
    rw [zf_X10_settles_L29, hR1.z0, zi_le (by omega) (by omega), if_pos (by omega)]
  | succ d ih =>
    intro b m M1 hb hm hab hF
    obtain ⟨m, rfl⟩ : ∃ x, m = x + 1 := ⟨m - 1, by omega⟩
    have hR1 : IR M1 r := hR.congr hF.2.1
    have hfl := hw.foe (show a < 10 by omega)
    rw [zf_X10_settles_L29, hR1.z0, zi_le (by omega) (by omega), if_neg (by omega), show (63 : Int32) + nI a = nI (63 + a) from nI_add 63 a, rd78 hR1 _ (by omega) (by omega), zb1_at (has10 hfl (by omega))]
    by_cases g1 : (r (63 + a)).testBit b = true
    · rw [g1, if_neg (show ¬ zB true = 0 by decide)]
      obtain ⟨M2, e1, e2, e3⟩ := try10 hR1 hg ha (show b < r 0 by omega) (by omega) hn (fun M47 => (if (M32 77 20) ≤ (M47 77 20) then (zf_X10_settles_j93 (fun x0 x1 => zf_X10_settles_L29 (nI a) n M32 K m x0 x1) (nI b) M47) else some ((((10) * (nI a)) + (nI b)), M47)))
      have hdl := (zdv_spec (q := ztog r a b) (s := zin r) (by rw [ztog_ne (by omega)]; exact hw.1)).1
      rw [ztog_ne (by omega)] at hdl
      rw [e1, h32, e3, zi_le (by omega) (by omega)]
      by_cases g2 : (zdv (ztog r a b) (zin r)).1 < zparts r
      · rw [if_neg (show ¬ zparts r ≤ (zdv (ztog r a b) (zin r)).1 by omega), zsB_s, if_pos (show zset2 r a b = true by simp [zset2, g1, g2])]
        refine ⟨fun v h => ⟨M2, ?_, hF.trans e2⟩, fun h => by cases h⟩
        cases h
        rw [show (10 : Int32) = nI 10 from rfl, pk_mul, nI_add]
      · rw [if_pos (show zparts r ≤ (zdv (ztog r a b) (zin r)).1 by omega), zsB_s, if_neg (show ¬ zset2 r a b = true by simp [zset2]; intro _; omega)]
        unfold zf_X10_settles_j93
        rw [nI_1]
        exact ih (b + 1) m M2 (by omega) (by omega) (by omega) (hF.trans e2)
    · have g1' : (r (63 + a)).testBit b = false := by simpa using g1
      rw [g1', if_pos (show zB false = 0 from rfl), zsB_s, if_neg (show ¬ zset2 r a b = true by simp [zset2, g1'])]
      unfold zf_X10_settles_j93
      rw [nI_1]
      exact ih (b + 1) m M1 (by omega) (by omega) (by omega) hF
theorem settles10 {M M32 : ZMem} {n : Nat} {r : ZRow} (hR : IR M r) (hg : GD r) (h32 : M32 77 20 = nI (zparts r)) (hn : 400000000001 < n) : ∀ d a m M1, a + d = r 0 → d < m → F10 M M1 → ∃ M2, zf_X10_settles_L15 n M32 (fun M43 => some ((-2), M43)) m (nI a) M1 = some (zoI (zsA r d a), M2) ∧ F10 M M2 := by
  have hw := hg.1
  have hbd := hw.b
  intro d
  induction d with
  | zero =>
    intro a m M1 ha hm hF
    obtain ⟨m, rfl⟩ : ∃ x, m = x + 1 := ⟨m - 1, by omega⟩
    have hR1 : IR M1 r := hR.congr hF.2.1
    refine ⟨M1, ?_, hF⟩
    rw [zf_X10_settles_L15, hR1.z0, zi_le (by omega) (by omega), if_pos (by omega)]
    rfl
  | succ d ih =>
    intro a m M1 ha hm hF
    obtain ⟨m, rfl⟩ : ∃ x, m = x + 1 := ⟨m - 1, by omega⟩
    have hR1 : IR M1 r := hR.congr hF.2.1
    obtain ⟨i1, i2⟩ := setB10 hR hg h32 hn (fun M42 => (zf_X10_settles_L15 n M32 (fun M43 => some ((-2), M43)) m (nI a + 1) M42)) (show a < r 0 by omega) d (a + 1) n M1 (by omega) (by omega) (by omega) hF
    rw [zf_X10_settles_L15, hR1.z0, zi_le (by omega) (by omega), if_neg (by omega), nI_1, zsA_s]
    rw [nI_1] at i1 i2
    cases hz : zsB r a d (a + 1) with
    | some v =>
      obtain ⟨M2, e1, e2⟩ := i1 v hz
      exact ⟨M2, e1, e2⟩
    | none =>
      obtain ⟨M2, e1, e2⟩ := i2 hz
      obtain ⟨M3, e3, e4⟩ := ih (a + 1) m M2 (by omega) (by omega) e2
      exact ⟨M3, e1.trans e3, e4⟩
theorem op_settles {n : Nat} (hn : 400000000001 < n) {M : ZMem} (hI : INV M) : OPW (zf_X9_settles n) (zf_X10_settles n) M := by
  obtain ⟨t, nx, r, u, U, T, L, hS, hC, hM⟩ := id hI
  have hw := hS.1.1
  have hb := hw.b
  refine OPW.scr hS hC hM (zoI (zsA r (r 0) 0)) ?_ (fun M1 hM1 => ?_)
  · obtain ⟨M1, e1, e2, e3⟩ := splitNow9 (n := n) hC hw (by omega)
    obtain ⟨M2, f1, f2⟩ := settles9 (n := n) (M28 := M1) hC hS.1 e2.2.2.1 (by omega) (r 0) 0 n M1 (by omega) (by omega) ⟨e2.1, e2.2.1, e2.2.2.2.1, e3.f9⟩
    refine ⟨M2, ?_, f2⟩
    unfold zf_X9_settles
    rw [zb1_at e1]
    exact f1
  · obtain ⟨M2, e1, e2, e3⟩ := hM1.1.div hw (zin_lt hw.1) hn
    obtain ⟨M3, f1, f2⟩ := settles10 (n := n) (M32 := M2) (M := M1) hM1.1 hS.1 e2.1 hn (r 0) 0 n M2 (by omega) (by omega) e3.f10
    refine ⟨M3, ?_, f2⟩
    unfold zf_X10_settles
    rw [zb1_at (inNow10 hM1.1 hw), zb1_at e1]
    exact f1
