/-! LAYER 2: feud -/
/-- one of a set is in conflict with all others of it -/
def zfc (r : ZRow) (s i : Nat) : Bool := !s.testBit i || decide (s &&& (r (63 + i) ^^^ 1023) = 2 ^ i)
def zfeud (r : ZRow) (s : Nat) : Bool := zallF (zfc r s) (r 0) 0
def zsub (r : ZRow) (s : Nat) : Bool := decide (s &&& (zin r ^^^ 1023) = 0)
/-- the best of the first s sets -/
def zfd (r : ZRow) : Nat → Nat
  | 0 => 0
  | s + 1 => if zbc (zfd r s) < zbc s ∧ zsub r s = true ∧ zfeud r s = true then s else zfd r s
theorem zfd_s (r : ZRow) (s : Nat) : zfd r (s + 1) = if zbc (zfd r s) < zbc s ∧ zsub r s = true ∧ zfeud r s = true then s else zfd r s := rfl
theorem zfd_lt {r : ZRow} : ∀ s, zfd r s ≤ s
  | 0 => Nat.le_refl _
  | s + 1 => by
    have := zfd_lt (r := r) s
    rw [zfd_s]
    split <;> omega
theorem isFeud6 {M : ZMem} {r : ZRow} {s n : Nat} (hw : WF r) (p1 : M 57 0 = nI (r 0)) (p4 : ∀ j, j < 10 → M 58 j = nI (r (63 + j))) (hs : s < 1024) (hn : 20 < n) : zf_X6_isFeud n (nI s) M = some (zB (zfeud r s)) := by
  have hb := hw.b
  have key : ∀ d i m, i + d = r 0 → d < m → zf_X6_isFeud_L2 M (nI s) (some (nI 1)) m (nI i) = some (zB (zallF (zfc r s) d i)) := by
    intro d
    induction d with
    | zero =>
      intro i m hi hm
      obtain ⟨m, rfl⟩ : ∃ y, m = y + 1 := ⟨m - 1, by omega⟩
      rw [zf_X6_isFeud_L2, p1, zi_le (by omega) (by omega), if_pos (by omega)]
      rfl
    | succ d ih =>
      intro i m hi hm
      obtain ⟨m, rfl⟩ : ∃ y, m = y + 1 := ⟨m - 1, by omega⟩
      have e := ih (i + 1) m (by omega) (by omega)
      have c58 := p4 i (by omega)
      have hfl := hw.foe (show i < 10 by omega)
      have hand : nI s &&& (nI (r (63 + i)) ^^^ -nI 1) = nI (s &&& (r (63 + i) ^^^ 1023)) := nI_andn hs hfl
      have hlt : s &&& (r (63 + i) ^^^ 1023) < 1024 := Nat.lt_of_le_of_lt Nat.and_le_left hs
      have hpl : 2 ^ i < 1024 := zpow_lt (m := 10) (by omega)
      rw [zallF_s]
      by_cases g1 : s.testBit i = true
      · by_cases g2 : s &&& (r (63 + i) ^^^ 1023) = 2 ^ i
        · have e2 : zfc r s i = true := by unfold zfc; rw [decide_eq_true g2, Bool.or_true]
          rw [e2, Bool.true_and, ← e]
          simp (disch := (first | assumption | omega)) only [zf_X6_isFeud_L2, zf_X6_isFeud_j36, zlp, p1, ↓ev_ifB, ↓ev_iflt, ↓ev_ifle, ↓ev_ifeq, ↓ifp, ↓ifn, ↓ev_b1, ↓ev_b2, ↓ev_put, ↓ev_z0, ↓ev_z1, ↓ev_zB, ↓ev_has9, ↓ev_has10, ↓ev_shl, ↓ev_bit, ↓ev_in, ↓ev_inG, ↓ev_rd, ↓ev_st, decide_eq_true_eq, nI_add, ev_sub, pk_mul, nI_or, nI_xor, zBt, zBf, if_true, if_false, eq_self, Bool.false_eq_true, c58, hand]
        · have e2 : zfc r s i = false := by unfold zfc; rw [decide_eq_false g2, g1]; rfl
          rw [e2, Bool.false_and]
          simp (disch := (first | assumption | omega)) only [zf_X6_isFeud_L2, zf_X6_isFeud_j36, zlp, p1, ↓ev_ifB, ↓ev_iflt, ↓ev_ifle, ↓ev_ifeq, ↓ifp, ↓ifn, ↓ev_b1, ↓ev_b2, ↓ev_put, ↓ev_z0, ↓ev_z1, ↓ev_zB, ↓ev_has9, ↓ev_has10, ↓ev_shl, ↓ev_bit, ↓ev_in, ↓ev_inG, ↓ev_rd, ↓ev_st, decide_eq_true_eq, nI_add, ev_sub, pk_mul, nI_or, nI_xor, zBt, zBf, if_true, if_false, eq_self, Bool.false_eq_true, c58, hand]
      · have e2 : zfc r s i = true := by unfold zfc; simp [g1]
        rw [e2, Bool.true_and, ← e]
        simp (disch := (first | assumption | omega)) only [zf_X6_isFeud_L2, zf_X6_isFeud_j36, zlp, p1, ↓ev_ifB, ↓ev_iflt, ↓ev_ifle, ↓ev_ifeq, ↓ifp, ↓ifn, ↓ev_b1, ↓ev_b2, ↓ev_put, ↓ev_z0, ↓ev_z1, ↓ev_zB, ↓ev_has9, ↓ev_has10, ↓ev_shl, ↓ev_bit, ↓ev_in, ↓ev_inG, ↓ev_rd, ↓ev_st, decide_eq_true_eq, nI_add, ev_sub, pk_mul, nI_or, nI_xor, zBt, zBf, if_true, if_false, eq_self, Bool.false_eq_true]
  exact key (r 0) 0 n (by omega) (by omega)
theorem isFeud10 {M : ZMem} {r : ZRow} {s n : Nat} (hI : IR M r) (hw : WF r) (hs : s < 1024) (hn : 20 < n) (K : Int32 → Option Int32) : zf_X10_feud_L42 M (nI s) K n (nI 1) (nI 0) = K (zB (zfeud r s)) := by
  have hb := hw.b
  have key : ∀ d i m b, i + d = r 0 → d < m → zf_X10_feud_L42 M (nI s) K m (zB b) (nI i) = K (zB (b && zallF (zfc r s) d i)) := by
    intro d
    induction d with
    | zero =>
      intro i m b hi hm
      obtain ⟨m, rfl⟩ : ∃ y, m = y + 1 := ⟨m - 1, by omega⟩
      rw [zf_X10_feud_L42, hI.z0, zi_le (by omega) (by omega), if_pos (by omega)]
      unfold zallF
      rw [Bool.and_true]
    | succ d ih =>
      intro i m b hi hm
      obtain ⟨m, rfl⟩ : ∃ y, m = y + 1 := ⟨m - 1, by omega⟩
      have hfl := hw.foe (show i < 10 by omega)
      have hand : nI s &&& (nI (r (63 + i)) ^^^ -nI 1) = nI (s &&& (r (63 + i) ^^^ 1023)) := nI_andn hs hfl
      have hlt : s &&& (r (63 + i) ^^^ 1023) < 1024 := Nat.lt_of_le_of_lt Nat.and_le_left hs
      have hpl : 2 ^ i < 1024 := zpow_lt (m := 10) (by omega)
      rw [zallF_s, ← Bool.and_assoc, ← ih (i + 1) m _ (by omega) (by omega)]
      cases b with
      | false =>
        rw [Bool.false_and]
        simp (disch := (first | assumption | omega)) only [zf_X10_feud_L42, zf_X10_feud_j88, zf_X10_feud_j92, zf_X10_feud_j93, zlp, ↓rd78 hI, ↓ev_ifB, ↓ev_iflt, ↓ev_ifle, ↓ev_ifeq, ↓ifp, ↓ifn, ↓ev_b1, ↓ev_b2, ↓ev_put, ↓ev_z0, ↓ev_z1, ↓ev_zB, ↓ev_has9, ↓ev_has10, ↓ev_shl, ↓ev_bit, ↓ev_in, ↓ev_inG, ↓ev_rd, ↓ev_st, decide_eq_true_eq, nI_add, ev_sub, pk_mul, nI_or, nI_xor, zBt, zBf, if_true, if_false, eq_self, Bool.false_eq_true]
      | true =>
        rw [Bool.true_and]
        by_cases g1 : s.testBit i = true
        · by_cases g2 : s &&& (r (63 + i) ^^^ 1023) = 2 ^ i
          · have e2 : zfc r s i = true := by unfold zfc; rw [decide_eq_true g2, Bool.or_true]
            rw [e2]
            simp (disch := (first | assumption | omega)) only [zf_X10_feud_L42, zf_X10_feud_j88, zf_X10_feud_j92, zf_X10_feud_j93, zlp, ↓rd78 hI, ↓ev_ifB, ↓ev_iflt, ↓ev_ifle, ↓ev_ifeq, ↓ifp, ↓ifn, ↓ev_b1, ↓ev_b2, ↓ev_put, ↓ev_z0, ↓ev_z1, ↓ev_zB, ↓ev_has9, ↓ev_has10, ↓ev_shl, ↓ev_bit, ↓ev_in, ↓ev_inG, ↓ev_rd, ↓ev_st, decide_eq_true_eq, nI_add, ev_sub, pk_mul, nI_or, nI_xor, zBt, zBf, if_true, if_false, eq_self, Bool.false_eq_true, hand]
          · have e2 : zfc r s i = false := by unfold zfc; rw [decide_eq_false g2, g1]; rfl
            rw [e2]
            simp (disch := (first | assumption | omega)) only [zf_X10_feud_L42, zf_X10_feud_j88, zf_X10_feud_j92, zf_X10_feud_j93, zlp, ↓rd78 hI, ↓ev_ifB, ↓ev_iflt, ↓ev_ifle, ↓ev_ifeq, ↓ifp, ↓ifn, ↓ev_b1, ↓ev_b2, ↓ev_put, ↓ev_z0, ↓ev_z1, ↓ev_zB, ↓ev_has9, ↓ev_has10, ↓ev_shl, ↓ev_bit, ↓ev_in, ↓ev_inG, ↓ev_rd, ↓ev_st, decide_eq_true_eq, nI_add, ev_sub, pk_mul, nI_or, nI_xor, zBt, zBf, if_true, if_false, eq_self, Bool.false_eq_true, hand]
        · have e2 : zfc r s i = true := by unfold zfc; simp [g1]
          rw [e2]
          simp (disch := (first | assumption | omega)) only [zf_X10_feud_L42, zf_X10_feud_j88, zf_X10_feud_j92, zf_X10_feud_j93, zlp, ↓rd78 hI, ↓ev_ifB, ↓ev_iflt, ↓ev_ifle, ↓ev_ifeq, ↓ifp, ↓ifn, ↓ev_b1, ↓ev_b2, ↓ev_put, ↓ev_z0, ↓ev_z1, ↓ev_zB, ↓ev_has9, ↓ev_has10, ↓ev_shl, ↓ev_bit, ↓ev_in, ↓ev_inG, ↓ev_rd, ↓ev_st, decide_eq_true_eq, nI_add, ev_sub, pk_mul, nI_or, nI_xor, zBt, zBf, if_true, if_false, eq_self, Bool.false_eq_true]
  have := key (r 0) 0 n true (by omega) (by omega)
  rw [Bool.true_and] at this
  exact this
theorem zsub_le {r : ZRow} (h0 : r 0 ≤ 10) {s : Nat} (hs : s < 1024) (h : zsub r s = true) : s ≤ zin r := by
  have h1 := of_decide_eq_true h
  have h2 : s = s &&& zin r := by
    refine tb_ext (n := 10) hs (Nat.lt_of_le_of_lt Nat.and_le_left hs) (fun j hj => ?_)
    have h3 : (s &&& (zin r ^^^ 1023)).testBit j = false := by rw [h1]; exact Nat.zero_testBit j
    rw [andn_tb hj] at h3
    rw [Nat.testBit_and]
    cases h4 : s.testBit j with
    | false => rfl
    | true =>
      rw [h4] at h3
      simp at h3
      rw [h3]; rfl
  have h3 : s &&& zin r ≤ zin r := Nat.and_le_right
  omega
theorem zfd_end {r : ZRow} (h0 : r 0 ≤ 10) : ∀ d, zin r + 1 + d ≤ 1024 → zfd r (zin r + 1 + d) = zfd r (zin r + 1)
  | 0, _ => rfl
  | d + 1, h => by
    have ih := zfd_end h0 d (by omega)
    show zfd r (zin r + 1 + d + 1) = _
    rw [zfd_s, if_neg (fun z => ?_), ih]
    have := zsub_le h0 (by omega) z.2.1
    omega
theorem op_feud {n : Nat} (hn : 400000000001 < n) {M : ZMem} (hI : INV M) : ∃ v M1, zf_X9_feud n M = some (v, M1) ∧ zf_X10_feud n M1 = some v ∧ INV M1 := by
  obtain ⟨t, nx, r, u, U, T, L, hS, hC, hM⟩ := id hI
  have hw := hS.1.1
  have hb := hw.b
  have ht := hC.t
  have hinl := zin_lt hw.1
  have htk := take6 hw.1 hC.tk (by omega) (by omega)
  obtain ⟨k0, k1, k5, kn⟩ := ztk_57 (M := M) (o := 12) (q := r)
  have k58 := ztk_58 (M := M) (o := 12) (q := r) hC.tk.2.2 (by omega)
  have hF : F9 M (ztk M 12 r) := FS.f9 ⟨fun k a b c => ztk_ne a b, kn 7 (by omega) (by omega) (by omega), kn 8 (by omega) (by omega) (by omega)⟩
  have hM1 : IM (ztk M 12 r) r u U T L := hM.congr hF.2.2.2.2.2
  refine ⟨nI (zfd r (2 ^ r 0)), ztk M 12 r, ?_, ?_, t, nx, r, u, U, T, L, hS, hC.f9 hF, hM1⟩
  · have hl : zf_X6_greatestFeud n (ztk M 12 r) = some (nI (zfd r (2 ^ r 0))) := by
      unfold zf_X6_greatestFeud
      have key : ∀ d s m, s + d = 2 ^ r 0 → d < m → zf_X6_greatestFeud_L6 (ztk M 12 r) n (fun v31 => some v31) m (nI (zbc (zfd r s))) (nI (zfd r s)) (nI s) = some (nI (zfd r (2 ^ r 0))) := by
        intro d
        induction d with
        | zero =>
          intro s m hs hm
          obtain ⟨m, rfl⟩ : ∃ y, m = y + 1 := ⟨m - 1, by omega⟩
          obtain rfl : s = 2 ^ r 0 := by omega
          rw [zf_X6_greatestFeud_L6, k0, zpow (r 0) (by omega), zi_le (by omega) (by omega), if_pos (Nat.le_refl _)]
        | succ d ih =>
          intro s m hs hm
          obtain ⟨m, rfl⟩ : ∃ y, m = y + 1 := ⟨m - 1, by omega⟩
          have e := ih (s + 1) m (by omega) (by omega)
          have hbc := bitCount9 s (by omega)
          have hand : nI s &&& (nI (zin r) ^^^ -nI 1) = nI (s &&& (zin r ^^^ 1023)) := nI_andn (by omega) hinl
          have hlt : s &&& (zin r ^^^ 1023) < 1024 := Nat.lt_of_le_of_lt Nat.and_le_left (by omega)
          have hfe := isFeud6 (n := n) (M := ztk M 12 r) (s := s) hw k0 k58 (by omega) (by omega)
          have b1 := zbc_le (zfd r s)
          have b2 := zbc_le s
          rw [← e, zfd_s]
          by_cases g1 : zbc (zfd r s) < zbc s
          · by_cases g2 : s &&& (zin r ^^^ 1023) = 0
            · cases g3 : zfeud r s with
              | true =>
                rw [if_pos ⟨g1, decide_eq_true g2, rfl⟩]
                simp (disch := (first | assumption | omega)) only [zf_X6_greatestFeud_L6, zf_X6_greatestFeud_j52, zlp, k0, k1, ↓ev_ifB, ↓ev_iflt, ↓ev_ifle, ↓ev_ifeq, ↓ifp, ↓ifn, ↓ev_b1, ↓ev_b2, ↓ev_put, ↓ev_z0, ↓ev_z1, ↓ev_zB, ↓ev_has9, ↓ev_has10, ↓ev_shl, ↓ev_bit, ↓ev_in, ↓ev_inG, ↓ev_rd, ↓ev_st, decide_eq_true_eq, nI_add, ev_sub, pk_mul, nI_or, nI_xor, zBt, zBf, if_true, if_false, eq_self, Bool.false_eq_true, ↓zb1_at hbc, hand, ↓zb1_at hfe, g3]
              | false =>
                rw [if_neg (fun z => by cases z.2.2)]
                simp (disch := (first | assumption | omega)) only [zf_X6_greatestFeud_L6, zf_X6_greatestFeud_j52, zlp, k0, k1, ↓ev_ifB, ↓ev_iflt, ↓ev_ifle, ↓ev_ifeq, ↓ifp, ↓ifn, ↓ev_b1, ↓ev_b2, ↓ev_put, ↓ev_z0, ↓ev_z1, ↓ev_zB, ↓ev_has9, ↓ev_has10, ↓ev_shl, ↓ev_bit, ↓ev_in, ↓ev_inG, ↓ev_rd, ↓ev_st, decide_eq_true_eq, nI_add, ev_sub, pk_mul, nI_or, nI_xor, zBt, zBf, if_true, if_false, eq_self, Bool.false_eq_true, ↓zb1_at hbc, hand, ↓zb1_at hfe, g3]
            · rw [if_neg (fun z => g2 (of_decide_eq_true z.2.1))]
              simp (disch := (first | assumption | omega)) only [zf_X6_greatestFeud_L6, zf_X6_greatestFeud_j52, zlp, k0, k1, ↓ev_ifB, ↓ev_iflt, ↓ev_ifle, ↓ev_ifeq, ↓ifp, ↓ifn, ↓ev_b1, ↓ev_b2, ↓ev_put, ↓ev_z0, ↓ev_z1, ↓ev_zB, ↓ev_has9, ↓ev_has10, ↓ev_shl, ↓ev_bit, ↓ev_in, ↓ev_inG, ↓ev_rd, ↓ev_st, decide_eq_true_eq, nI_add, ev_sub, pk_mul, nI_or, nI_xor, zBt, zBf, if_true, if_false, eq_self, Bool.false_eq_true, ↓zb1_at hbc, hand]
          · rw [if_neg (fun z => g1 z.1)]
            simp (disch := (first | assumption | omega)) only [zf_X6_greatestFeud_L6, zf_X6_greatestFeud_j52, zlp, k0, ↓ev_ifB, ↓ev_iflt, ↓ev_ifle, ↓ev_ifeq, ↓ifp, ↓ifn, ↓ev_b1, ↓ev_b2, ↓ev_put, ↓ev_z0, ↓ev_z1, ↓ev_zB, ↓ev_has9, ↓ev_has10, ↓ev_shl, ↓ev_bit, ↓ev_in, ↓ev_inG, ↓ev_rd, ↓ev_st, decide_eq_true_eq, nI_add, ev_sub, pk_mul, nI_or, nI_xor, zBt, zBf, if_true, if_false, eq_self, Bool.false_eq_true, ↓zb1_at hbc]
      have e1 : zfd r 1 = 0 := by
        have := zfd_lt (r := r) 0
        rw [zfd_s, if_neg (fun z => Nat.lt_irrefl _ z.1)]; rfl
      have e2 := key (2 ^ r 0 - 1) 1 n (by omega) (by omega)
      rw [e1] at e2
      exact e2
    unfold zf_X9_feud
    rw [hC.1.dy, zb1_at htk, zb1_at hl]
  · have hI1 := hM1.1
    have key : ∀ d s m, s + d = zin r + 1 → d < m → zf_X10_feud_L9 (nI (zin r)) n (ztk M 12 r) (fun v43 => some v43) m (nI (zfd r s)) (nI s) = some (nI (zfd r (zin r + 1))) := by
      intro d
      induction d with
      | zero =>
        intro s m hs hm
        obtain ⟨m, rfl⟩ : ∃ y, m = y + 1 := ⟨m - 1, by omega⟩
        obtain rfl : s = zin r + 1 := by omega
        rw [zf_X10_feud_L9, zi_lt (by omega) (by omega), if_pos (by omega)]
      | succ d ih =>
        intro s m hs hm
        obtain ⟨m, rfl⟩ : ∃ y, m = y + 1 := ⟨m - 1, by omega⟩
        have e := ih (s + 1) m (by omega) (by omega)
        have hfl := zfd_lt (r := r) s
        have hb1 := bits10 (n := n) (a := s) (by omega) (by omega)
        have hb2 := bits10 (n := n) (a := zfd r s) (by omega) (by omega)
        have hand : nI s &&& (nI (zin r) ^^^ -nI 1) = nI (s &&& (zin r ^^^ 1023)) := nI_andn (by omega) hinl
        have hlt : s &&& (zin r ^^^ 1023) < 1024 := Nat.lt_of_le_of_lt Nat.and_le_left (by omega)
        have hfe := fun K => isFeud10 (n := n) (M := ztk M 12 r) (s := s) hI1 hw (by omega) (by omega) K
        have b1 := zbc_le (zfd r s)
        have b2 := zbc_le s
        rw [← e, zfd_s]
        by_cases g2 : s &&& (zin r ^^^ 1023) = 0
        · by_cases g1 : zbc (zfd r s) < zbc s
          · cases g3 : zfeud r s with
            | true =>
              rw [if_pos ⟨g1, decide_eq_true g2, rfl⟩]
              simp (disch := (first | assumption | omega)) only [zf_X10_feud_L9, zf_X10_feud_j111, zf_X10_feud_j112, zlp, ↓ev_ifB, ↓ev_iflt, ↓ev_ifle, ↓ev_ifeq, ↓ifp, ↓ifn, ↓ev_b1, ↓ev_b2, ↓ev_put, ↓ev_z0, ↓ev_z1, ↓ev_zB, ↓ev_has9, ↓ev_has10, ↓ev_shl, ↓ev_bit, ↓ev_in, ↓ev_inG, ↓ev_rd, ↓ev_st, decide_eq_true_eq, nI_add, ev_sub, pk_mul, nI_or, nI_xor, zBt, zBf, if_true, if_false, eq_self, Bool.false_eq_true, hand, ↓zb1_at hb1, ↓zb1_at hb2, ↓hfe, g3]
            | false =>
              rw [if_neg (fun z => by cases z.2.2)]
              simp (disch := (first | assumption | omega)) only [zf_X10_feud_L9, zf_X10_feud_j111, zf_X10_feud_j112, zlp, ↓ev_ifB, ↓ev_iflt, ↓ev_ifle, ↓ev_ifeq, ↓ifp, ↓ifn, ↓ev_b1, ↓ev_b2, ↓ev_put, ↓ev_z0, ↓ev_z1, ↓ev_zB, ↓ev_has9, ↓ev_has10, ↓ev_shl, ↓ev_bit, ↓ev_in, ↓ev_inG, ↓ev_rd, ↓ev_st, decide_eq_true_eq, nI_add, ev_sub, pk_mul, nI_or, nI_xor, zBt, zBf, if_true, if_false, eq_self, Bool.false_eq_true, hand, ↓zb1_at hb1, ↓zb1_at hb2, ↓hfe, g3]
          · rw [if_neg (fun z => g1 z.1)]
            simp (disch := (first | assumption | omega)) only [zf_X10_feud_L9, zf_X10_feud_j111, zf_X10_feud_j112, zlp, ↓ev_ifB, ↓ev_iflt, ↓ev_ifle, ↓ev_ifeq, ↓ifp, ↓ifn, ↓ev_b1, ↓ev_b2, ↓ev_put, ↓ev_z0, ↓ev_z1, ↓ev_zB, ↓ev_has9, ↓ev_has10, ↓ev_shl, ↓ev_bit, ↓ev_in, ↓ev_inG, ↓ev_rd, ↓ev_st, decide_eq_true_eq, nI_add, ev_sub, pk_mul, nI_or, nI_xor, zBt, zBf, if_true, if_false, eq_self, Bool.false_eq_true, hand, ↓zb1_at hb1, ↓zb1_at hb2]
        · rw [if_neg (fun z => g2 (of_decide_eq_true z.2.1))]
          simp (disch := (first | assumption | omega)) only [zf_X10_feud_L9, zf_X10_feud_j111, zf_X10_feud_j112, zlp, ↓ev_ifB, ↓ev_iflt, ↓ev_ifle, ↓ev_ifeq, ↓ifp, ↓ifn, ↓ev_b1, ↓ev_b2, ↓ev_put, ↓ev_z0, ↓ev_z1, ↓ev_zB, ↓ev_has9, ↓ev_has10, ↓ev_shl, ↓ev_bit, ↓ev_in, ↓ev_inG, ↓ev_rd, ↓ev_st, decide_eq_true_eq, nI_add, ev_sub, pk_mul, nI_or, nI_xor, zBt, zBf, if_true, if_false, eq_self, Bool.false_eq_true, hand]
    have hle : zin r + 1 ≤ 2 ^ r 0 := zset_lt _ _
    have e3 := zfd_end hw.1 (2 ^ r 0 - (zin r + 1)) (by omega)
    rw [show zin r + 1 + (2 ^ r 0 - (zin r + 1)) = 2 ^ r 0 by omega] at e3
    rw [e3]
    unfold zf_X10_feud
    rw [zb1_at (inNow10 hI1 hw)]
    exact key (zin r + 1) 0 n (by omega) (by omega)
