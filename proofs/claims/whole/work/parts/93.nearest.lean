/-! LAYER 2: estimate, nearest, within -/
theorem zbc_pos : ∀ s, s < 1024 → s ≠ 0 → 0 < zbc s := by decide +kernel
def zest (r : ZRow) (s : Nat) : Nat := r 0 * zclaims r s / zbc s
def zcall (r : ZRow) : Nat := zclaims r (2 ^ r 0 - 1)
def zoff (r : ZRow) (s : Nat) : Nat := (zest r s - zcall r) + (zcall r - zest r s)
theorem zclaims_le {r : ZRow} (hw : WF r) (s : Nat) : zclaims r s ≤ 99000 := by
  have hb := hw.b
  have := zsum_le (f := fun i => if s.testBit i then zclaim r i else 0) (c := 9900) (n := r 0) (fun i hi => by
    show (if s.testBit i = true then zclaim r i else 0) ≤ 9900
    have := zclaim_le hw hi
    split <;> omega)
  unfold zclaims
  omega
theorem zest_le {r : ZRow} (hw : WF r) (s : Nat) : zest r s ≤ 990000 := by
  have hb := hw.b
  have h1 := zclaims_le hw s
  have h2 : r 0 * zclaims r s ≤ 10 * 99000 := Nat.mul_le_mul hb.1 h1
  have h3 : zest r s ≤ r 0 * zclaims r s := Nat.div_le_self _ _
  omega
theorem zoff_le {r : ZRow} (hw : WF r) (s : Nat) : zoff r s ≤ 1100000 := by
  have h1 := zest_le hw s
  have h2 : zcall r ≤ 99000 := zclaims_le hw _
  unfold zoff
  omega
theorem ev_div2 {β : Type} {a b : Nat} (K : Int32 → Option β) (ha : a < 2147483648) (h0 : 0 < b) (hb : b < 2147483648) : zdiv (nI a) (nI b) K = K (nI (a / b)) := by
  rw [zdiv_at (nI_ne0 h0 hb), pk_div ha h0 hb]
theorem estBy9 {M : ZMem} {t nx u n : Nat} {r : ZRow} {U : Nat → ZRow} {T : ZT} {L : ZL} (h : IC M t nx r u U T L) (hw : WF r) {s : Nat} (hs : s < 1024) (h0 : s ≠ 0) (hn : 20 < n) : zf_X9_estimateBy n (nI s) M = some (nI (zest r s)) := by
  have hb := hw.b
  obtain ⟨a0, -⟩ := h.rd
  have hdy := fun (K : Nat → Option Int32) => h.1.dy (K := K)
  have hbc := bitCount9 s hs
  have hp := zbc_pos s hs h0
  have hbl := zbc_le s
  have hcl := claims9 (n := n) h.1 h.2.2.1 h.2.2.2.1.1 hw (a := s) hs (by omega)
  have h1 := zclaims_le hw s
  have h2 : r 0 * zclaims r s ≤ 10 * 99000 := Nat.mul_le_mul hb.1 h1
  simp (disch := (first | assumption | omega)) only [zf_X9_estimateBy, zf_X9_estimateBy_j28, zlp, ↓zb1_at hbc, ↓ev_ifB, ↓ev_iflt, ↓ev_ifle, ↓ev_ifeq, ↓ifp, ↓ifn, ↓ev_b1, ↓ev_b2, ↓ev_put, ↓ev_z0, ↓ev_z1, ↓ev_zB, ↓ev_has9, ↓ev_has10, ↓ev_shl, ↓ev_bit, ↓ev_in, ↓ev_inG, ↓ev_rd, ↓ev_st, decide_eq_true_eq, nI_add, ev_sub, pk_mul, nI_or, nI_xor, zBt, zBf, if_true, if_false, eq_self, Bool.false_eq_true, ↓hdy, a0, ↓zb1_at hcl, ↓ev_div2, zest]
theorem est10 {M : ZMem} {r : ZRow} {n : Nat} (hI : IR M r) (hw : WF r) {s : Nat} (hs : s < 1024) (h0 : s ≠ 0) (hn : 20 < n) : zf_X10_estimated n (nI s) M = some (nI (zest r s)) := by
  have hb := hw.b
  have hbc := bits10 (n := n) hs (by omega)
  have hp := zbc_pos s hs h0
  have hbl := zbc_le s
  have hcl := claims10 (n := n) hI hw (a := s) hs (by omega)
  have h1 := zclaims_le hw s
  have h2 : r 0 * zclaims r s ≤ 10 * 99000 := Nat.mul_le_mul hb.1 h1
  simp (disch := (first | assumption | omega)) only [zf_X10_estimated, zlp, ↓rd78 hI, ↓zb1_at hbc, ↓zb1_at hcl, pk_mul, ↓ev_div2, zest]
theorem zabs_off {a b : Nat} (ha : a < 1073741824) (hb : b < 1073741824) : zabs (nI a - nI b) = nI ((a - b) + (b - a)) := by
  unfold zabs
  by_cases h : b ≤ a
  · rw [pk_sub h, if_pos (nI_pos' (by omega)), show a - b + (b - a) = a - b by omega]
  · rw [if_neg (fun z => Int32.not_lt.mpr z (pk_sneg hb (by omega))), Int32.zero_sub, Int32.neg_sub, pk_sub (by omega), show a - b + (b - a) = b - a by omega]
theorem offBy10 {M : ZMem} {r : ZRow} {n : Nat} (hI : IR M r) (hw : WF r) {s : Nat} (hs : s < 1024) (h0 : s ≠ 0) (hn : 20 < n) : zf_X10_offBy n (nI s) M = some (nI (zoff r s)) := by
  have hb := hw.b
  have he := est10 (n := n) hI hw hs h0 hn
  have hal := all10 (hI 0 (by omega)) hw.1
  have hcl := claims10 (n := n) hI hw (a := 2 ^ r 0 - 1) (by omega) (by omega)
  have h1 := zest_le hw s
  have h2 : zclaims r (2 ^ r 0 - 1) ≤ 99000 := zclaims_le hw _
  unfold zf_X10_offBy zf_X10_offBy_j25 zoff zcall
  rw [zb1_at he, zb1_at hal, zb1_at hcl]
  by_cases h : zclaims r (2 ^ r 0 - 1) ≤ zest r s
  · rw [pk_sub h, if_pos (nI_pos' (by omega)), show zest r s - zclaims r (2 ^ r 0 - 1) + (zclaims r (2 ^ r 0 - 1) - zest r s) = zest r s - zclaims r (2 ^ r 0 - 1) by omega]
  · rw [if_neg (fun z => Int32.not_lt.mpr z (pk_sneg (by omega) (by omega))), Int32.neg_sub, pk_sub (by omega), show zest r s - zclaims r (2 ^ r 0 - 1) + (zclaims r (2 ^ r 0 - 1) - zest r s) = zclaims r (2 ^ r 0 - 1) - zest r s by omega]
theorem op_estimate {n : Nat} (hn : 803 < n) {M : ZMem} (hI : INV M) (a : Int32) : OPQ (zf_X9_estimate n a) (zf_X10_estimate n a) M := by
  obtain ⟨t, nx, r, u, U, T, L, hS, hC, hM⟩ := id hI
  have hw := hS.1.1
  have hb := hw.b
  cases hz : zmem (2 ^ r 0) a with
  | false =>
    refine ⟨-nI 1, ?_, ?_⟩
    · simp (disch := (first | assumption | omega)) only [zf_X9_estimate, zf_X9_estimate_j12, zlp, ↓zb1_at (isSet9 hC hw a), hz, ↓ev_ifB, ↓ev_ifeq, ↓ifp, ↓ifn, zBt, zBf, if_true, if_false, eq_self, Bool.false_eq_true]
    · simp (disch := (first | assumption | omega)) only [zf_X10_estimate, zf_X10_estimate_j20, zf_X10_estimate_j21, zlp, ↓zb1_at (isSet10 hM.1 hw a), hz, ↓ev_ifB, ↓ev_ifeq, ↓ifp, ↓ifn, zBt, zBf, if_true, if_false, eq_self, Bool.false_eq_true]
  | true =>
    obtain ⟨s, hs, rfl⟩ := zmem_of hz
    by_cases g : s = 0
    · refine ⟨-nI 1, ?_, ?_⟩
      · simp (disch := (first | assumption | omega)) only [zf_X9_estimate, zf_X9_estimate_j12, zlp, ↓zb1_at (isSet9 hC hw _), hz, ↓ev_ifB, ↓ev_iflt, ↓ev_ifle, ↓ev_ifeq, ↓ifp, ↓ifn, ↓ev_b1, ↓ev_b2, ↓ev_put, ↓ev_z0, ↓ev_z1, ↓ev_zB, ↓ev_has9, ↓ev_has10, ↓ev_shl, ↓ev_bit, ↓ev_in, ↓ev_inG, ↓ev_rd, ↓ev_st, decide_eq_true_eq, nI_add, ev_sub, pk_mul, nI_or, nI_xor, zBt, zBf, if_true, if_false, eq_self, Bool.false_eq_true]
      · simp (disch := (first | assumption | omega)) only [zf_X10_estimate, zf_X10_estimate_j20, zf_X10_estimate_j21, zlp, ↓zb1_at (isSet10 hM.1 hw _), hz, ↓ev_ifB, ↓ev_iflt, ↓ev_ifle, ↓ev_ifeq, ↓ifp, ↓ifn, ↓ev_b1, ↓ev_b2, ↓ev_put, ↓ev_z0, ↓ev_z1, ↓ev_zB, ↓ev_has9, ↓ev_has10, ↓ev_shl, ↓ev_bit, ↓ev_in, ↓ev_inG, ↓ev_rd, ↓ev_st, decide_eq_true_eq, nI_add, ev_sub, pk_mul, nI_or, nI_xor, zBt, zBf, if_true, if_false, eq_self, Bool.false_eq_true]
    · have h9 := estBy9 (n := n) hC hw (s := s) (by omega) g (by omega)
      have h10 := est10 (n := n) hM.1 hw (s := s) (by omega) g (by omega)
      refine ⟨nI (zest r s), ?_, ?_⟩
      · simp (disch := (first | assumption | omega)) only [zf_X9_estimate, zf_X9_estimate_j12, zlp, ↓zb1_at (isSet9 hC hw _), hz, ↓ev_ifB, ↓ev_iflt, ↓ev_ifle, ↓ev_ifeq, ↓ifp, ↓ifn, ↓ev_b1, ↓ev_b2, ↓ev_put, ↓ev_z0, ↓ev_z1, ↓ev_zB, ↓ev_has9, ↓ev_has10, ↓ev_shl, ↓ev_bit, ↓ev_in, ↓ev_inG, ↓ev_rd, ↓ev_st, decide_eq_true_eq, nI_add, ev_sub, pk_mul, nI_or, nI_xor, zBt, zBf, if_true, if_false, eq_self, Bool.false_eq_true, ↓zb1_at h9]
      · simp (disch := (first | assumption | omega)) only [zf_X10_estimate, zf_X10_estimate_j20, zf_X10_estimate_j21, zlp, ↓zb1_at (isSet10 hM.1 hw _), hz, ↓ev_ifB, ↓ev_iflt, ↓ev_ifle, ↓ev_ifeq, ↓ifp, ↓ifn, ↓ev_b1, ↓ev_b2, ↓ev_put, ↓ev_z0, ↓ev_z1, ↓ev_zB, ↓ev_has9, ↓ev_has10, ↓ev_shl, ↓ev_bit, ↓ev_in, ↓ev_inG, ↓ev_rd, ↓ev_st, decide_eq_true_eq, nI_add, ev_sub, pk_mul, nI_or, nI_xor, zBt, zBf, if_true, if_false, eq_self, Bool.false_eq_true, ↓zb1_at h10]
/-- the nearest of the first s sets of w -/
def znr (r : ZRow) (w : Nat) : Nat → Option Nat
  | 0 => none
  | s + 1 => if s ≠ 0 ∧ zbc s = w then (match znr r w s with
    | none => some s
    | some b => if zoff r b ≤ zoff r s then some b else some s) else znr r w s
theorem znr_s (r : ZRow) (w s : Nat) : znr r w (s + 1) = if s ≠ 0 ∧ zbc s = w then (match znr r w s with | none => some s | some b => if zoff r b ≤ zoff r s then some b else some s) else znr r w s := rfl
theorem znr_ok {r : ZRow} {w b : Nat} : ∀ {s : Nat}, znr r w s = some b → b < s ∧ b ≠ 0
  | 0, e => by cases e
  | s + 1, e => by
    rw [znr_s] at e
    split at e
    · next h =>
      cases e2 : znr r w s with
      | none => rw [e2] at e; cases e; exact ⟨by omega, h.1⟩
      | some b2 =>
        rw [e2] at e
        have := znr_ok e2
        simp only at e
        split at e
        · cases e; exact ⟨by omega, this.2⟩
        · cases e; exact ⟨by omega, h.1⟩
    · have := znr_ok e
      exact ⟨by omega, this.2⟩
theorem zbc_low : ∀ m, m ≤ 10 → zbc (2 ^ m - 1) = m := by decide +kernel
theorem znr_some {r : ZRow} {w : Nat} : ∀ {s}, (∃ x, x < s ∧ x ≠ 0 ∧ zbc x = w) → znr r w s ≠ none
  | 0, ⟨x, h, _⟩ => by omega
  | s + 1, ⟨x, h1, h2, h3⟩ => by
    rw [znr_s]
    by_cases g : s ≠ 0 ∧ zbc s = w
    · rw [if_pos g]
      cases znr r w s with
      | none => simp
      | some b => simp only; split <;> simp
    · rw [if_neg g]
      refine znr_some ⟨x, ?_, h2, h3⟩
      by_cases e : x = s
      · rw [e] at h2 h3; exact absurd ⟨h2, h3⟩ g
      · omega
theorem op_nearest {n : Nat} (hn : 2000 < n) {M : ZMem} (hI : INV M) (a b : Int32) : OPQ (zf_X9_nearest n a b) (zf_X10_nearest n a b) M := by
  obtain ⟨t, nx, r, u, U, T, L, hS, hC, hM⟩ := id hI
  have hw := hS.1.1
  have hb := hw.b
  obtain ⟨a0, -⟩ := hC.rd
  have hdy := fun (K : Nat → Option Int32) => hC.1.dy (K := K)
  have hev := everyone9 hC.1 hC.2.2.1.1 hw.1
  have hal := all10 (hM.1 0 (by omega)) hw.1
  have hcl9 := claims9 (n := n) hC.1 hC.2.2.1 hC.2.2.2.1.1 hw (a := 2 ^ r 0 - 1) (by omega) (by omega)
  have hcle : zcall r ≤ 99000 := zclaims_le hw _
  rcases zint a with ha | ⟨w, hw', rfl⟩
  · refine ⟨-nI 1, ?_, ?_⟩
    · simp (disch := (first | assumption | omega)) only [zf_X9_nearest, zf_X9_nearest_j25, zlp, ↓in1]
    · simp (disch := (first | assumption | omega)) only [zf_X10_nearest, zf_X10_nearest_j23, zlp, ↓rd78 hM.1, ↓ev_ifB, ↓ev_iflt, ↓ev_ifle, ↓ev_ifeq, ↓ifp, ↓ifn, ↓ev_b1, ↓ev_b2, ↓ev_put, ↓ev_z0, ↓ev_z1, ↓ev_zB, ↓ev_has9, ↓ev_has10, ↓ev_shl, ↓ev_bit, ↓ev_in, ↓ev_inG, ↓ev_rd, ↓ev_st, decide_eq_true_eq, nI_add, ev_sub, pk_mul, nI_or, nI_xor, zBt, zBf, if_true, if_false, eq_self, Bool.false_eq_true]
  · by_cases g : 1 ≤ w ∧ w ≤ r 0
    · obtain ⟨g1, g2⟩ := g
      have h9 : ∀ (K : Int32 → Int32 → Option Int32), zf_X9_nearest_L47 M (nI w) n (nI (zcall r)) K n (-nI 2) (-nI 2) (nI 1) = K (zoI ((znr r w (2 ^ r 0)).map (zoff r))) (zoI (znr r w (2 ^ r 0))) := by
        intro K
        have key : ∀ d s m, s + d = 2 ^ r 0 → d < m → 1 ≤ s → zf_X9_nearest_L47 M (nI w) n (nI (zcall r)) K m (zoI ((znr r w s).map (zoff r))) (zoI (znr r w s)) (nI s) = K (zoI ((znr r w (2 ^ r 0)).map (zoff r))) (zoI (znr r w (2 ^ r 0))) := by
          intro d
          induction d with
          | zero =>
            intro s m hs hm h1
            obtain ⟨m, rfl⟩ : ∃ y, m = y + 1 := ⟨m - 1, by omega⟩
            obtain rfl : s = 2 ^ r 0 := by omega
            rw [zf_X9_nearest_L47, zb1_at hev, zi_lt (by omega) (by omega), if_pos (by omega)]
          | succ d ih =>
            intro s m hs hm h1
            obtain ⟨m, rfl⟩ : ∃ y, m = y + 1 := ⟨m - 1, by omega⟩
            have e := ih (s + 1) m (by omega) (by omega) (by omega)
            have hbc := bitCount9 s (by omega)
            have hbl := zbc_le s
            have hes := estBy9 (n := n) hC hw (s := s) (by omega) (by omega) (by omega)
            have hel := zest_le hw s
            have hofs := zoff_le hw s
            have hab : zabs (nI (zest r s) - nI (zcall r)) = nI (zoff r s) := zabs_off (by omega) (by omega)
            rw [← e, znr_s]
            by_cases gw : zbc s = w
            · rw [if_pos ⟨by omega, gw⟩]
              cases e2 : znr r w s with
              | none =>
                show zf_X9_nearest_L47 M (nI w) n (nI (zcall r)) K (m + 1) (-nI 2) (-nI 2) (nI s) = zf_X9_nearest_L47 M (nI w) n (nI (zcall r)) K m (nI (zoff r s)) (nI s) (nI (s + 1))
                simp (disch := (first | assumption | omega)) only [zf_X9_nearest_L47, zf_X9_nearest_j92, zf_X9_nearest_j100, zlp, ↓zb1_at hev, ↓ev_ifB, ↓ev_iflt, ↓ev_ifle, ↓ev_ifeq, ↓ifp, ↓ifn, ↓ev_b1, ↓ev_b2, ↓ev_put, ↓ev_z0, ↓ev_z1, ↓ev_zB, ↓ev_has9, ↓ev_has10, ↓ev_shl, ↓ev_bit, ↓ev_in, ↓ev_inG, ↓ev_rd, ↓ev_st, decide_eq_true_eq, nI_add, ev_sub, pk_mul, nI_or, nI_xor, zBt, zBf, if_true, if_false, eq_self, Bool.false_eq_true, ↓zb1_at hbc, ↓zb1_at hes, ↓m2_rf, hab]
              | some c =>
                obtain ⟨p1, p2⟩ := znr_ok e2
                have hofc := zoff_le hw c
                by_cases g3 : zoff r c ≤ zoff r s
                · show zf_X9_nearest_L47 M (nI w) n (nI (zcall r)) K (m + 1) (nI (zoff r c)) (nI c) (nI s) = zf_X9_nearest_L47 M (nI w) n (nI (zcall r)) K m (zoI ((if zoff r c ≤ zoff r s then some c else some s).map (zoff r))) (zoI (if zoff r c ≤ zoff r s then some c else some s)) (nI (s + 1))
                  rw [if_pos g3]
                  show _ = zf_X9_nearest_L47 M (nI w) n (nI (zcall r)) K m (nI (zoff r c)) (nI c) (nI (s + 1))
                  simp (disch := (first | assumption | omega)) only [zf_X9_nearest_L47, zf_X9_nearest_j92, zf_X9_nearest_j100, zlp, ↓zb1_at hev, ↓ev_ifB, ↓ev_iflt, ↓ev_ifle, ↓ev_ifeq, ↓ifp, ↓ifn, ↓ev_b1, ↓ev_b2, ↓ev_put, ↓ev_z0, ↓ev_z1, ↓ev_zB, ↓ev_has9, ↓ev_has10, ↓ev_shl, ↓ev_bit, ↓ev_in, ↓ev_inG, ↓ev_rd, ↓ev_st, decide_eq_true_eq, nI_add, ev_sub, pk_mul, nI_or, nI_xor, zBt, zBf, if_true, if_false, eq_self, Bool.false_eq_true, ↓zb1_at hbc, ↓zb1_at hes, ↓m2_eq, hab]
                · show zf_X9_nearest_L47 M (nI w) n (nI (zcall r)) K (m + 1) (nI (zoff r c)) (nI c) (nI s) = zf_X9_nearest_L47 M (nI w) n (nI (zcall r)) K m (zoI ((if zoff r c ≤ zoff r s then some c else some s).map (zoff r))) (zoI (if zoff r c ≤ zoff r s then some c else some s)) (nI (s + 1))
                  rw [if_neg g3]
                  show _ = zf_X9_nearest_L47 M (nI w) n (nI (zcall r)) K m (nI (zoff r s)) (nI s) (nI (s + 1))
                  simp (disch := (first | assumption | omega)) only [zf_X9_nearest_L47, zf_X9_nearest_j92, zf_X9_nearest_j100, zlp, ↓zb1_at hev, ↓ev_ifB, ↓ev_iflt, ↓ev_ifle, ↓ev_ifeq, ↓ifp, ↓ifn, ↓ev_b1, ↓ev_b2, ↓ev_put, ↓ev_z0, ↓ev_z1, ↓ev_zB, ↓ev_has9, ↓ev_has10, ↓ev_shl, ↓ev_bit, ↓ev_in, ↓ev_inG, ↓ev_rd, ↓ev_st, decide_eq_true_eq, nI_add, ev_sub, pk_mul, nI_or, nI_xor, zBt, zBf, if_true, if_false, eq_self, Bool.false_eq_true, ↓zb1_at hbc, ↓zb1_at hes, ↓m2_eq, hab]
            · rw [if_neg (fun z => gw z.2)]
              simp (disch := (first | assumption | omega)) only [zf_X9_nearest_L47, zf_X9_nearest_j100, zlp, ↓zb1_at hev, ↓ev_ifB, ↓ev_iflt, ↓ev_ifle, ↓ev_ifeq, ↓ifp, ↓ifn, ↓ev_b1, ↓ev_b2, ↓ev_put, ↓ev_z0, ↓ev_z1, ↓ev_zB, ↓ev_has9, ↓ev_has10, ↓ev_shl, ↓ev_bit, ↓ev_in, ↓ev_inG, ↓ev_rd, ↓ev_st, decide_eq_true_eq, nI_add, ev_sub, pk_mul, nI_or, nI_xor, zBt, zBf, if_true, if_false, eq_self, Bool.false_eq_true, ↓zb1_at hbc]
        have e1 : znr r w 1 = none := by rw [znr_s, if_neg (fun z => z.1 rfl)]; rfl
        have := key (2 ^ r 0 - 1) 1 n (by omega) (by omega) (by omega)
        rw [e1] at this
        exact this
      have h10 : ∀ (K : Int32 → Option Int32), zf_X10_nearest_L30 M n (nI w) K n (-nI 1) (nI 1) = K (zoI1 (znr r w (2 ^ r 0))) := by
        intro K
        have key : ∀ d s m, s + d = 2 ^ r 0 → d < m → 1 ≤ s → zf_X10_nearest_L30 M n (nI w) K m (zoI1 (znr r w s)) (nI s) = K (zoI1 (znr r w (2 ^ r 0))) := by
          intro d
          induction d with
          | zero =>
            intro s m hs hm h1
            obtain ⟨m, rfl⟩ : ∃ y, m = y + 1 := ⟨m - 1, by omega⟩
            obtain rfl : s = 2 ^ r 0 := by omega
            rw [zf_X10_nearest_L30, zb1_at hal, zi_lt (by omega) (by omega), if_pos (by omega)]
          | succ d ih =>
            intro s m hs hm h1
            obtain ⟨m, rfl⟩ : ∃ y, m = y + 1 := ⟨m - 1, by omega⟩
            have e := ih (s + 1) m (by omega) (by omega) (by omega)
            have hbc := bits10 (n := n) (a := s) (by omega) (by omega)
            have hbl := zbc_le s
            have hof := offBy10 (n := n) hM.1 hw (s := s) (by omega) (by omega) (by omega)
            have hofs := zoff_le hw s
            rw [← e, znr_s]
            by_cases gw : zbc s = w
            · rw [if_pos ⟨by omega, gw⟩]
              cases e2 : znr r w s with
              | none =>
                show zf_X10_nearest_L30 M n (nI w) K (m + 1) (-nI 1) (nI s) = zf_X10_nearest_L30 M n (nI w) K m (nI s) (nI (s + 1))
                simp (disch := (first | assumption | omega)) only [zf_X10_nearest_L30, zf_X10_nearest_j67, zf_X10_nearest_j72, zf_X10_nearest_j73, zlp, ↓zb1_at hal, ↓ev_ifB, ↓ev_iflt, ↓ev_ifle, ↓ev_ifeq, ↓ifp, ↓ifn, ↓ev_b1, ↓ev_b2, ↓ev_put, ↓ev_z0, ↓ev_z1, ↓ev_zB, ↓ev_has9, ↓ev_has10, ↓ev_shl, ↓ev_bit, ↓ev_in, ↓ev_inG, ↓ev_rd, ↓ev_st, decide_eq_true_eq, nI_add, ev_sub, pk_mul, nI_or, nI_xor, zBt, zBf, if_true, if_false, eq_self, Bool.false_eq_true, ↓zb1_at hbc, ↓m1_rf]
              | some c =>
                obtain ⟨p1, p2⟩ := znr_ok e2
                have hofc := zoff_le hw c
                have hof2 := offBy10 (n := n) hM.1 hw (s := c) (by omega) p2 (by omega)
                by_cases g3 : zoff r c ≤ zoff r s
                · show zf_X10_nearest_L30 M n (nI w) K (m + 1) (nI c) (nI s) = zf_X10_nearest_L30 M n (nI w) K m (zoI1 (if zoff r c ≤ zoff r s then some c else some s)) (nI (s + 1))
                  rw [if_pos g3]
                  show _ = zf_X10_nearest_L30 M n (nI w) K m (nI c) (nI (s + 1))
                  simp (disch := (first | assumption | omega)) only [zf_X10_nearest_L30, zf_X10_nearest_j67, zf_X10_nearest_j72, zf_X10_nearest_j73, zlp, ↓zb1_at hal, ↓ev_ifB, ↓ev_iflt, ↓ev_ifle, ↓ev_ifeq, ↓ifp, ↓ifn, ↓ev_b1, ↓ev_b2, ↓ev_put, ↓ev_z0, ↓ev_z1, ↓ev_zB, ↓ev_has9, ↓ev_has10, ↓ev_shl, ↓ev_bit, ↓ev_in, ↓ev_inG, ↓ev_rd, ↓ev_st, decide_eq_true_eq, nI_add, ev_sub, pk_mul, nI_or, nI_xor, zBt, zBf, if_true, if_false, eq_self, Bool.false_eq_true, ↓zb1_at hbc, ↓m1_eq, ↓zb1_at hof, ↓zb1_at hof2]
                · show zf_X10_nearest_L30 M n (nI w) K (m + 1) (nI c) (nI s) = zf_X10_nearest_L30 M n (nI w) K m (zoI1 (if zoff r c ≤ zoff r s then some c else some s)) (nI (s + 1))
                  rw [if_neg g3]
                  show _ = zf_X10_nearest_L30 M n (nI w) K m (nI s) (nI (s + 1))
                  simp (disch := (first | assumption | omega)) only [zf_X10_nearest_L30, zf_X10_nearest_j67, zf_X10_nearest_j72, zf_X10_nearest_j73, zlp, ↓zb1_at hal, ↓ev_ifB, ↓ev_iflt, ↓ev_ifle, ↓ev_ifeq, ↓ifp, ↓ifn, ↓ev_b1, ↓ev_b2, ↓ev_put, ↓ev_z0, ↓ev_z1, ↓ev_zB, ↓ev_has9, ↓ev_has10, ↓ev_shl, ↓ev_bit, ↓ev_in, ↓ev_inG, ↓ev_rd, ↓ev_st, decide_eq_true_eq, nI_add, ev_sub, pk_mul, nI_or, nI_xor, zBt, zBf, if_true, if_false, eq_self, Bool.false_eq_true, ↓zb1_at hbc, ↓m1_eq, ↓zb1_at hof, ↓zb1_at hof2]
            · rw [if_neg (fun z => gw z.2)]
              simp (disch := (first | assumption | omega)) only [zf_X10_nearest_L30, zf_X10_nearest_j67, zf_X10_nearest_j72, zf_X10_nearest_j73, zlp, ↓zb1_at hal, ↓ev_ifB, ↓ev_iflt, ↓ev_ifle, ↓ev_ifeq, ↓ifp, ↓ifn, ↓ev_b1, ↓ev_b2, ↓ev_put, ↓ev_z0, ↓ev_z1, ↓ev_zB, ↓ev_has9, ↓ev_has10, ↓ev_shl, ↓ev_bit, ↓ev_in, ↓ev_inG, ↓ev_rd, ↓ev_st, decide_eq_true_eq, nI_add, ev_sub, pk_mul, nI_or, nI_xor, zBt, zBf, if_true, if_false, eq_self, Bool.false_eq_true, ↓zb1_at hbc]
        have e1 : znr r w 1 = none := by rw [znr_s, if_neg (fun z => z.1 rfl)]; rfl
        have := key (2 ^ r 0 - 1) 1 n (by omega) (by omega) (by omega)
        rw [e1] at this
        exact this
      have hne : znr r w (2 ^ r 0) ≠ none := by
        have hpw : 2 ^ w ≤ 2 ^ r 0 := Nat.pow_le_pow_right (by decide) g2
        have hp1 : 2 ≤ 2 ^ w := by
          have : 2 ^ 1 ≤ 2 ^ w := Nat.pow_le_pow_right (by decide) g1
          omega
        exact znr_some ⟨2 ^ w - 1, by omega, by omega, zbc_low w (by omega)⟩
      cases e3 : znr r w (2 ^ r 0) with
      | none => exact absurd e3 hne
      | some c =>
        obtain ⟨p1, p2⟩ := znr_ok e3
        have hof2 := offBy10 (n := n) hM.1 hw (s := c) (by omega) p2 (by omega)
        have h9' : ∀ (K : Int32 → Int32 → Option Int32), zf_X9_nearest_L47 M (nI w) n (nI (zclaims r (2 ^ r 0 - 1))) K n (-nI 2) (-nI 2) (nI 1) = K (nI (zoff r c)) (nI c) := fun K => by
          have := h9 K
          rw [e3] at this
          exact this
        have h10' : ∀ (K : Int32 → Option Int32), zf_X10_nearest_L30 M n (nI w) K n (-nI 1) (nI 1) = K (nI c) := fun K => by
          have := h10 K
          rw [e3] at this
          exact this
        rcases zint b with hb' | ⟨v, hv, rfl⟩
        · refine ⟨-nI 1, ?_, ?_⟩
          · simp (disch := (first | assumption | omega)) only [zf_X9_nearest, zf_X9_nearest_j25, zlp, ↓ev_ifB, ↓ev_iflt, ↓ev_ifle, ↓ev_ifeq, ↓ifp, ↓ifn, ↓ev_b1, ↓ev_b2, ↓ev_put, ↓ev_z0, ↓ev_z1, ↓ev_zB, ↓ev_has9, ↓ev_has10, ↓ev_shl, ↓ev_bit, ↓ev_in, ↓ev_inG, ↓ev_rd, ↓ev_st, decide_eq_true_eq, nI_add, ev_sub, pk_mul, nI_or, nI_xor, zBt, zBf, if_true, if_false, eq_self, Bool.false_eq_true, ↓hdy, a0, ↓in2]
          · simp (disch := (first | assumption | omega)) only [zf_X10_nearest, zf_X10_nearest_j23, zlp, ↓rd78 hM.1, ↓ev_ifB, ↓ev_iflt, ↓ev_ifle, ↓ev_ifeq, ↓ifp, ↓ifn, ↓ev_b1, ↓ev_b2, ↓ev_put, ↓ev_z0, ↓ev_z1, ↓ev_zB, ↓ev_has9, ↓ev_has10, ↓ev_shl, ↓ev_bit, ↓ev_in, ↓ev_inG, ↓ev_rd, ↓ev_st, decide_eq_true_eq, nI_add, ev_sub, pk_mul, nI_or, nI_xor, zBt, zBf, if_true, if_false, eq_self, Bool.false_eq_true]
        · rcases (by omega : v = 0 ∨ v = 1 ∨ 2 ≤ v) with rfl | rfl | gv
          · refine ⟨nI (zoff r c), ?_, ?_⟩
            · simp (disch := (first | assumption | omega)) only [zf_X9_nearest, zf_X9_nearest_j25, zf_X9_nearest_j27, zf_X9_nearest_j117, zlp, ↓ev_ifB, ↓ev_iflt, ↓ev_ifle, ↓ev_ifeq, ↓ifp, ↓ifn, ↓ev_b1, ↓ev_b2, ↓ev_put, ↓ev_z0, ↓ev_z1, ↓ev_zB, ↓ev_has9, ↓ev_has10, ↓ev_shl, ↓ev_bit, ↓ev_in, ↓ev_inG, ↓ev_rd, ↓ev_st, decide_eq_true_eq, nI_add, ev_sub, pk_mul, nI_or, nI_xor, zBt, zBf, if_true, if_false, eq_self, Bool.false_eq_true, ↓hdy, a0, ↓zb1_at hev, ↓zb1_at hcl9, ↓h9']
            · simp (disch := (first | assumption | omega)) only [zf_X10_nearest, zf_X10_nearest_j23, zf_X10_nearest_j93, zlp, ↓rd78 hM.1, ↓ev_ifB, ↓ev_iflt, ↓ev_ifle, ↓ev_ifeq, ↓ifp, ↓ifn, ↓ev_b1, ↓ev_b2, ↓ev_put, ↓ev_z0, ↓ev_z1, ↓ev_zB, ↓ev_has9, ↓ev_has10, ↓ev_shl, ↓ev_bit, ↓ev_in, ↓ev_inG, ↓ev_rd, ↓ev_st, decide_eq_true_eq, nI_add, ev_sub, pk_mul, nI_or, nI_xor, zBt, zBf, if_true, if_false, eq_self, Bool.false_eq_true, ↓h10', ↓zb1_at hof2]
          · refine ⟨nI c, ?_, ?_⟩
            · simp (disch := (first | assumption | omega)) only [zf_X9_nearest, zf_X9_nearest_j25, zf_X9_nearest_j27, zf_X9_nearest_j117, zlp, ↓ev_ifB, ↓ev_iflt, ↓ev_ifle, ↓ev_ifeq, ↓ifp, ↓ifn, ↓ev_b1, ↓ev_b2, ↓ev_put, ↓ev_z0, ↓ev_z1, ↓ev_zB, ↓ev_has9, ↓ev_has10, ↓ev_shl, ↓ev_bit, ↓ev_in, ↓ev_inG, ↓ev_rd, ↓ev_st, decide_eq_true_eq, nI_add, ev_sub, pk_mul, nI_or, nI_xor, zBt, zBf, if_true, if_false, eq_self, Bool.false_eq_true, ↓hdy, a0, ↓zb1_at hev, ↓zb1_at hcl9, ↓h9']
            · simp (disch := (first | assumption | omega)) only [zf_X10_nearest, zf_X10_nearest_j23, zf_X10_nearest_j93, zlp, ↓rd78 hM.1, ↓ev_ifB, ↓ev_iflt, ↓ev_ifle, ↓ev_ifeq, ↓ifp, ↓ifn, ↓ev_b1, ↓ev_b2, ↓ev_put, ↓ev_z0, ↓ev_z1, ↓ev_zB, ↓ev_has9, ↓ev_has10, ↓ev_shl, ↓ev_bit, ↓ev_in, ↓ev_inG, ↓ev_rd, ↓ev_st, decide_eq_true_eq, nI_add, ev_sub, pk_mul, nI_or, nI_xor, zBt, zBf, if_true, if_false, eq_self, Bool.false_eq_true, ↓h10']
          · refine ⟨-nI 1, ?_, ?_⟩
            · simp (disch := (first | assumption | omega)) only [zf_X9_nearest, zf_X9_nearest_j25, zlp, ↓ev_ifB, ↓ev_iflt, ↓ev_ifle, ↓ev_ifeq, ↓ifp, ↓ifn, ↓ev_b1, ↓ev_b2, ↓ev_put, ↓ev_z0, ↓ev_z1, ↓ev_zB, ↓ev_has9, ↓ev_has10, ↓ev_shl, ↓ev_bit, ↓ev_in, ↓ev_inG, ↓ev_rd, ↓ev_st, decide_eq_true_eq, nI_add, ev_sub, pk_mul, nI_or, nI_xor, zBt, zBf, if_true, if_false, eq_self, Bool.false_eq_true, ↓hdy, a0]
            · simp (disch := (first | assumption | omega)) only [zf_X10_nearest, zf_X10_nearest_j23, zlp, ↓rd78 hM.1, ↓ev_ifB, ↓ev_iflt, ↓ev_ifle, ↓ev_ifeq, ↓ifp, ↓ifn, ↓ev_b1, ↓ev_b2, ↓ev_put, ↓ev_z0, ↓ev_z1, ↓ev_zB, ↓ev_has9, ↓ev_has10, ↓ev_shl, ↓ev_bit, ↓ev_in, ↓ev_inG, ↓ev_rd, ↓ev_st, decide_eq_true_eq, nI_add, ev_sub, pk_mul, nI_or, nI_xor, zBt, zBf, if_true, if_false, eq_self, Bool.false_eq_true]
    · refine ⟨-nI 1, ?_, ?_⟩
      · by_cases g1 : w < 1
        · simp (disch := (first | assumption | omega)) only [zf_X9_nearest, zf_X9_nearest_j25, zlp, ↓ev_ifB, ↓ev_iflt, ↓ev_ifle, ↓ev_ifeq, ↓ifp, ↓ifn, ↓ev_b1, ↓ev_b2, ↓ev_put, ↓ev_z0, ↓ev_z1, ↓ev_zB, ↓ev_has9, ↓ev_has10, ↓ev_shl, ↓ev_bit, ↓ev_in, ↓ev_inG, ↓ev_rd, ↓ev_st, decide_eq_true_eq, nI_add, ev_sub, pk_mul, nI_or, nI_xor, zBt, zBf, if_true, if_false, eq_self, Bool.false_eq_true]
        · simp (disch := (first | assumption | omega)) only [zf_X9_nearest, zf_X9_nearest_j25, zlp, ↓ev_ifB, ↓ev_iflt, ↓ev_ifle, ↓ev_ifeq, ↓ifp, ↓ifn, ↓ev_b1, ↓ev_b2, ↓ev_put, ↓ev_z0, ↓ev_z1, ↓ev_zB, ↓ev_has9, ↓ev_has10, ↓ev_shl, ↓ev_bit, ↓ev_in, ↓ev_inG, ↓ev_rd, ↓ev_st, decide_eq_true_eq, nI_add, ev_sub, pk_mul, nI_or, nI_xor, zBt, zBf, if_true, if_false, eq_self, Bool.false_eq_true, ↓hdy, a0]
      · simp (disch := (first | assumption | omega)) only [zf_X10_nearest, zf_X10_nearest_j23, zlp, ↓rd78 hM.1, ↓ev_ifB, ↓ev_iflt, ↓ev_ifle, ↓ev_ifeq, ↓ifp, ↓ifn, ↓ev_b1, ↓ev_b2, ↓ev_put, ↓ev_z0, ↓ev_z1, ↓ev_zB, ↓ev_has9, ↓ev_has10, ↓ev_shl, ↓ev_bit, ↓ev_in, ↓ev_inG, ↓ev_rd, ↓ev_st, decide_eq_true_eq, nI_add, ev_sub, pk_mul, nI_or, nI_xor, zBt, zBf, if_true, if_false, eq_self, Bool.false_eq_true]
/-- how many of the first s sets are near -/
def zwi (r : ZRow) (w h : Nat) : Nat → Nat := zsum (fun s => (decide (s ≠ 0 ∧ zbc s = w ∧ 100 * zoff r s ≤ h * zcall r)).toNat)
theorem zwi_s (r : ZRow) (w h s : Nat) : zwi r w h (s + 1) = zwi r w h s + (decide (s ≠ 0 ∧ zbc s = w ∧ 100 * zoff r s ≤ h * zcall r)).toNat := rfl
theorem op_within {n : Nat} (hn : 2000 < n) {M : ZMem} (hI : INV M) (a b : Int32) : OPQ (zf_X9_within n a b) (zf_X10_within n a b) M := by
  obtain ⟨t, nx, r, u, U, T, L, hS, hC, hM⟩ := id hI
  have hw := hS.1.1
  have hb := hw.b
  obtain ⟨a0, -⟩ := hC.rd
  have hdy := fun (K : Nat → Option Int32) => hC.1.dy (K := K)
  have hev := everyone9 hC.1 hC.2.2.1.1 hw.1
  have hal := all10 (hM.1 0 (by omega)) hw.1
  have hcl9 := claims9 (n := n) hC.1 hC.2.2.1 hC.2.2.2.1.1 hw (a := 2 ^ r 0 - 1) (by omega) (by omega)
  have hcl10 := claims10 (n := n) hM.1 hw (a := 2 ^ r 0 - 1) (by omega) (by omega)
  have hcle : zcall r ≤ 99000 := zclaims_le hw _
  have ecall : zclaims r (2 ^ r 0 - 1) = zcall r := rfl
  rw [ecall] at hcl9 hcl10
  rcases zint a with ha | ⟨w, hw', rfl⟩
  · refine ⟨-nI 1, ?_, ?_⟩
    · simp (disch := (first | assumption | omega)) only [zf_X9_within, zf_X9_within_j23, zlp, ↓in1]
    · simp (disch := (first | assumption | omega)) only [zf_X10_within, zf_X10_within_j24, zlp, ↓rd78 hM.1, ↓ev_ifB, ↓ev_iflt, ↓ev_ifle, ↓ev_ifeq, ↓ifp, ↓ifn, ↓ev_b1, ↓ev_b2, ↓ev_put, ↓ev_z0, ↓ev_z1, ↓ev_zB, ↓ev_has9, ↓ev_has10, ↓ev_shl, ↓ev_bit, ↓ev_in, ↓ev_inG, ↓ev_rd, ↓ev_st, decide_eq_true_eq, nI_add, ev_sub, pk_mul, nI_or, nI_xor, zBt, zBf, if_true, if_false, eq_self, Bool.false_eq_true]
  · by_cases g : 1 ≤ w ∧ w ≤ r 0
    · obtain ⟨g1, g2⟩ := g
      cases hz : zmem 101 b with
      | false =>
        refine ⟨-nI 1, ?_, ?_⟩
        · simp (disch := (first | assumption | omega)) only [zf_X9_within, zf_X9_within_j23, zlp, ↓ev_ifB, ↓ev_iflt, ↓ev_ifle, ↓ev_ifeq, ↓ifp, ↓ifn, ↓ev_b1, ↓ev_b2, ↓ev_put, ↓ev_z0, ↓ev_z1, ↓ev_zB, ↓ev_has9, ↓ev_has10, ↓ev_shl, ↓ev_bit, ↓ev_in, ↓ev_inG, ↓ev_rd, ↓ev_st, decide_eq_true_eq, nI_add, ev_sub, pk_mul, nI_or, nI_xor, zBt, zBf, if_true, if_false, eq_self, Bool.false_eq_true, ↓hdy, a0, ↓zb1_at (isHund9 b), hz]
        · simp (disch := (first | assumption | omega)) only [zf_X10_within, zf_X10_within_j24, zlp, ↓rd78 hM.1, ↓ev_ifB, ↓ev_iflt, ↓ev_ifle, ↓ev_ifeq, ↓ifp, ↓ifn, ↓ev_b1, ↓ev_b2, ↓ev_put, ↓ev_z0, ↓ev_z1, ↓ev_zB, ↓ev_has9, ↓ev_has10, ↓ev_shl, ↓ev_bit, ↓ev_in, ↓ev_inG, ↓ev_rd, ↓ev_st, decide_eq_true_eq, nI_add, ev_sub, pk_mul, nI_or, nI_xor, zBt, zBf, if_true, if_false, eq_self, Bool.false_eq_true, ↓zb1_at (isInZ b (show 100 < 2147483647 by omega)), hz]
      | true =>
        obtain ⟨h, hh, rfl⟩ := zmem_of hz
        have hml : h * zcall r ≤ 100 * 99000 := Nat.mul_le_mul (by omega) hcle
        have h9 : zf_X9_within_L40 M (nI w) n (nI h) (nI (zcall r)) (fun v39 => some v39) n (nI 0) (nI 1) = some (nI (zwi r w h (2 ^ r 0))) := by
          have key : ∀ d s m, s + d = 2 ^ r 0 → d < m → 1 ≤ s → zf_X9_within_L40 M (nI w) n (nI h) (nI (zcall r)) (fun v39 => some v39) m (nI (zwi r w h s)) (nI s) = some (nI (zwi r w h (2 ^ r 0))) := by
            intro d
            induction d with
            | zero =>
              intro s m hs hm h1
              obtain ⟨m, rfl⟩ : ∃ y, m = y + 1 := ⟨m - 1, by omega⟩
              obtain rfl : s = 2 ^ r 0 := by omega
              rw [zf_X9_within_L40, zb1_at hev, zi_lt (by omega) (by omega), if_pos (by omega)]
            | succ d ih =>
              intro s m hs hm h1
              obtain ⟨m, rfl⟩ : ∃ y, m = y + 1 := ⟨m - 1, by omega⟩
              have e := ih (s + 1) m (by omega) (by omega) (by omega)
              have hbc := bitCount9 s (by omega)
              have hbl := zbc_le s
              have hes := estBy9 (n := n) hC hw (s := s) (by omega) (by omega) (by omega)
              have hel := zest_le hw s
              have hofs := zoff_le hw s
              have hab : zabs (nI (zest r s) - nI (zcall r)) = nI (zoff r s) := zabs_off (by omega) (by omega)
              rw [← e, zwi_s]
              by_cases gw : zbc s = w
              · by_cases g3 : 100 * zoff r s ≤ h * zcall r
                · rw [decide_eq_true (show s ≠ 0 ∧ zbc s = w ∧ 100 * zoff r s ≤ h * zcall r from ⟨by omega, gw, g3⟩)]
                  simp (disch := (first | assumption | omega)) only [zf_X9_within_L40, zf_X9_within_j81, zlp, ↓zb1_at hev, ↓ev_ifB, ↓ev_iflt, ↓ev_ifle, ↓ev_ifeq, ↓ifp, ↓ifn, ↓ev_b1, ↓ev_b2, ↓ev_put, ↓ev_z0, ↓ev_z1, ↓ev_zB, ↓ev_has9, ↓ev_has10, ↓ev_shl, ↓ev_bit, ↓ev_in, ↓ev_inG, ↓ev_rd, ↓ev_st, decide_eq_true_eq, nI_add, ev_sub, pk_mul, nI_or, nI_xor, zBt, zBf, if_true, if_false, eq_self, Bool.false_eq_true, ↓zb1_at hbc, ↓zb1_at hes, hab, Bool.toNat_true]
                · rw [decide_eq_false (fun z => g3 z.2.2)]
                  simp (disch := (first | assumption | omega)) only [zf_X9_within_L40, zf_X9_within_j81, zlp, ↓zb1_at hev, ↓ev_ifB, ↓ev_iflt, ↓ev_ifle, ↓ev_ifeq, ↓ifp, ↓ifn, ↓ev_b1, ↓ev_b2, ↓ev_put, ↓ev_z0, ↓ev_z1, ↓ev_zB, ↓ev_has9, ↓ev_has10, ↓ev_shl, ↓ev_bit, ↓ev_in, ↓ev_inG, ↓ev_rd, ↓ev_st, decide_eq_true_eq, nI_add, ev_sub, pk_mul, nI_or, nI_xor, zBt, zBf, if_true, if_false, eq_self, Bool.false_eq_true, ↓zb1_at hbc, ↓zb1_at hes, hab, Bool.toNat_false, Nat.add_zero]
              · rw [decide_eq_false (fun z => gw z.2.1)]
                simp (disch := (first | assumption | omega)) only [zf_X9_within_L40, zf_X9_within_j81, zlp, ↓zb1_at hev, ↓ev_ifB, ↓ev_iflt, ↓ev_ifle, ↓ev_ifeq, ↓ifp, ↓ifn, ↓ev_b1, ↓ev_b2, ↓ev_put, ↓ev_z0, ↓ev_z1, ↓ev_zB, ↓ev_has9, ↓ev_has10, ↓ev_shl, ↓ev_bit, ↓ev_in, ↓ev_inG, ↓ev_rd, ↓ev_st, decide_eq_true_eq, nI_add, ev_sub, pk_mul, nI_or, nI_xor, zBt, zBf, if_true, if_false, eq_self, Bool.false_eq_true, ↓zb1_at hbc, Bool.toNat_false, Nat.add_zero]
          have e1 : zwi r w h 1 = 0 := by rw [zwi_s, decide_eq_false (fun z => z.1 rfl)]; rfl
          have := key (2 ^ r 0 - 1) 1 n (by omega) (by omega) (by omega)
          rw [e1] at this
          exact this
        have h10 : zf_X10_within_L31 M n (nI w) (nI h) (fun v41 => some v41) n (nI 0) (nI 1) = some (nI (zwi r w h (2 ^ r 0))) := by
          have key : ∀ d s m, s + d = 2 ^ r 0 → d < m → 1 ≤ s → zf_X10_within_L31 M n (nI w) (nI h) (fun v41 => some v41) m (nI (zwi r w h s)) (nI s) = some (nI (zwi r w h (2 ^ r 0))) := by
            intro d
            induction d with
            | zero =>
              intro s m hs hm h1
              obtain ⟨m, rfl⟩ : ∃ y, m = y + 1 := ⟨m - 1, by omega⟩
              obtain rfl : s = 2 ^ r 0 := by omega
              rw [zf_X10_within_L31, zb1_at hal, zi_lt (by omega) (by omega), if_pos (by omega)]
            | succ d ih =>
              intro s m hs hm h1
              obtain ⟨m, rfl⟩ : ∃ y, m = y + 1 := ⟨m - 1, by omega⟩
              have e := ih (s + 1) m (by omega) (by omega) (by omega)
              have hbc := bits10 (n := n) (a := s) (by omega) (by omega)
              have hbl := zbc_le s
              have hof := offBy10 (n := n) hM.1 hw (s := s) (by omega) (by omega) (by omega)
              have hofs := zoff_le hw s
              have hgt : ∀ (A B : Option Int32), (if 0 < (lg_cmp ((100 : Int64) * ((nI (zoff r s)).toInt64)) (((nI h).toInt64) * ((nI (zcall r)).toInt64))) then A else B) = if 100 * zoff r s ≤ h * zcall r then B else A := fun A B => by
                rw [ev_l (by omega), ev_l (by omega), ev_l (by omega), show (100 : Int64) = lN 100 from rfl, lN_mul, lN_mul]
                by_cases g3 : 100 * zoff r s ≤ h * zcall r
                · rw [if_pos g3, if_neg (fun z => ?_)]
                  have := (pk_lLT (by omega) (by omega)).mp ((lg_cmp_gt _ _).mp z)
                  omega
                · rw [if_neg g3, if_pos ((lg_cmp_gt _ _).mpr ((pk_lLT (by omega) (by omega)).mpr (by omega)))]
              rw [← e, zwi_s, zf_X10_within_L31, zb1_at hal, zi_lt (by omega) (by omega), if_neg (by omega), zb1_at hbc, zi_eq (by omega) (by omega)]
              unfold zf_X10_within_j81 zf_X10_within_j82
              rw [nI_1]
              by_cases gw : zbc s = w
              · rw [if_pos gw, zb1_at hof, zb1_at hal, zb1_at hcl10, hgt]
                by_cases g3 : 100 * zoff r s ≤ h * zcall r
                · rw [decide_eq_true (show s ≠ 0 ∧ zbc s = w ∧ 100 * zoff r s ≤ h * zcall r from ⟨by omega, gw, g3⟩), if_pos g3, nI_1]
                  rfl
                · rw [decide_eq_false (fun z => g3 z.2.2), if_neg g3, show (0 : Int32) = nI 0 from rfl, nI_add]
                  rfl
              · rw [decide_eq_false (fun z => gw z.2.1), if_neg gw, show (0 : Int32) = nI 0 from rfl, nI_add]
                rfl
          have e1 : zwi r w h 1 = 0 := by rw [zwi_s, decide_eq_false (fun z => z.1 rfl)]; rfl
          have := key (2 ^ r 0 - 1) 1 n (by omega) (by omega) (by omega)
          rw [e1] at this
          exact this
        refine ⟨nI (zwi r w h (2 ^ r 0)), ?_, ?_⟩
        · simp (disch := (first | assumption | omega)) only [zf_X9_within, zf_X9_within_j23, zlp, ↓ev_ifB, ↓ev_iflt, ↓ev_ifle, ↓ev_ifeq, ↓ifp, ↓ifn, ↓ev_b1, ↓ev_b2, ↓ev_put, ↓ev_z0, ↓ev_z1, ↓ev_zB, ↓ev_has9, ↓ev_has10, ↓ev_shl, ↓ev_bit, ↓ev_in, ↓ev_inG, ↓ev_rd, ↓ev_st, decide_eq_true_eq, nI_add, ev_sub, pk_mul, nI_or, nI_xor, zBt, zBf, if_true, if_false, eq_self, Bool.false_eq_true, ↓hdy, a0, ↓zb1_at (isHund9 _), hz, ↓zb1_at hev, ↓zb1_at hcl9, h9]
        · simp (disch := (first | assumption | omega)) only [zf_X10_within, zf_X10_within_j24, zlp, ↓rd78 hM.1, ↓ev_ifB, ↓ev_iflt, ↓ev_ifle, ↓ev_ifeq, ↓ifp, ↓ifn, ↓ev_b1, ↓ev_b2, ↓ev_put, ↓ev_z0, ↓ev_z1, ↓ev_zB, ↓ev_has9, ↓ev_has10, ↓ev_shl, ↓ev_bit, ↓ev_in, ↓ev_inG, ↓ev_rd, ↓ev_st, decide_eq_true_eq, nI_add, ev_sub, pk_mul, nI_or, nI_xor, zBt, zBf, if_true, if_false, eq_self, Bool.false_eq_true, h10]
    · refine ⟨-nI 1, ?_, ?_⟩
      · by_cases g1 : w < 1
        · simp (disch := (first | assumption | omega)) only [zf_X9_within, zf_X9_within_j23, zlp, ↓ev_ifB, ↓ev_iflt, ↓ev_ifle, ↓ev_ifeq, ↓ifp, ↓ifn, ↓ev_b1, ↓ev_b2, ↓ev_put, ↓ev_z0, ↓ev_z1, ↓ev_zB, ↓ev_has9, ↓ev_has10, ↓ev_shl, ↓ev_bit, ↓ev_in, ↓ev_inG, ↓ev_rd, ↓ev_st, decide_eq_true_eq, nI_add, ev_sub, pk_mul, nI_or, nI_xor, zBt, zBf, if_true, if_false, eq_self, Bool.false_eq_true]
        · simp (disch := (first | assumption | omega)) only [zf_X9_within, zf_X9_within_j23, zlp, ↓ev_ifB, ↓ev_iflt, ↓ev_ifle, ↓ev_ifeq, ↓ifp, ↓ifn, ↓ev_b1, ↓ev_b2, ↓ev_put, ↓ev_z0, ↓ev_z1, ↓ev_zB, ↓ev_has9, ↓ev_has10, ↓ev_shl, ↓ev_bit, ↓ev_in, ↓ev_inG, ↓ev_rd, ↓ev_st, decide_eq_true_eq, nI_add, ev_sub, pk_mul, nI_or, nI_xor, zBt, zBf, if_true, if_false, eq_self, Bool.false_eq_true, ↓hdy, a0]
      · simp (disch := (first | assumption | omega)) only [zf_X10_within, zf_X10_within_j24, zlp, ↓rd78 hM.1, ↓ev_ifB, ↓ev_iflt, ↓ev_ifle, ↓ev_ifeq, ↓ifp, ↓ifn, ↓ev_b1, ↓ev_b2, ↓ev_put, ↓ev_z0, ↓ev_z1, ↓ev_zB, ↓ev_has9, ↓ev_has10, ↓ev_shl, ↓ev_bit, ↓ev_in, ↓ev_inG, ↓ev_rd, ↓ev_st, decide_eq_true_eq, nI_add, ev_sub, pk_mul, nI_or, nI_xor, zBt, zBf, if_true, if_false, eq_self, Bool.false_eq_true]
