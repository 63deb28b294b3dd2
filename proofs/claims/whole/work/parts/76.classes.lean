/-! LAYER 2: the reference parts its members (2) -/
theorem zstp_10 {d : Nat} (h : d ≤ 10) : zstp d < 400000000000 := by
  have : d = 0 ∨ d = 1 ∨ d = 2 ∨ d = 3 ∨ d = 4 ∨ d = 5 ∨ d = 6 ∨ d = 7 ∨ d = 8 ∨ d = 9 ∨ d = 10 := by omega
  rcases this with rfl | rfl | rfl | rfl | rfl | rfl | rfl | rfl | rfl | rfl | rfl <;> decide
theorem fill10 {M : ZMem} {K : ZMem → Option (Int32 × ZMem)} {n : Nat} (hn : 10 < n) : zf_X10_fits_L2 K n (nI 0) M = K (zfl M 85 (-nI 1) 10) := by
  have key := zloop (fun k i (S : ZMem) => zf_X10_fits_L2 K k (nI i) S) (zfl M 85 (-nI 1)) (K (zfl M 85 (-nI 1) 10)) 10 (fun k i hi => by
      show zf_X10_fits_L2 K (k + 1) (nI i) _ = zf_X10_fits_L2 K k (nI (i + 1)) _
      rw [← zfl_s]
      simp (disch := (first | assumption | omega)) only [zf_X10_fits_L2, zlp, ↓ev_ifB, ↓ev_iflt, ↓ev_ifle, ↓ev_ifeq, ↓ifp, ↓ifn, ↓ev_b1, ↓ev_b2, ↓ev_put, ↓ev_z0, ↓ev_z1, ↓ev_zB, ↓ev_has9, ↓ev_has10, ↓ev_shl, ↓ev_bit, ↓ev_in, ↓ev_inG, ↓ev_rd, ↓ev_st, decide_eq_true_eq, nI_add, ev_sub, pk_mul, nI_or, nI_xor, zBt, zBf, if_true, if_false, eq_self, Bool.false_eq_true]) (fun k => by
      show zf_X10_fits_L2 K (k + 1) (nI 10) _ = _
      simp (disch := (first | assumption | omega)) only [zf_X10_fits_L2, zlp, ↓ev_ifB, ↓ev_iflt, ↓ev_ifle, ↓ev_ifeq, ↓ifp, ↓ifn, ↓ev_b1, ↓ev_b2, ↓ev_put, ↓ev_z0, ↓ev_z1, ↓ev_zB, ↓ev_has9, ↓ev_has10, ↓ev_shl, ↓ev_bit, ↓ev_in, ↓ev_inG, ↓ev_rd, ↓ev_st, decide_eq_true_eq, nI_add, ev_sub, pk_mul, nI_or, nI_xor, zBt, zBf, if_true, if_false, eq_self, Bool.false_eq_true]) n 0 (by omega) (by omega)
  rw [zfl_0] at key
  exact key
theorem fits10 {q : ZRow} {s many n : Nat} {M : ZMem} (h0 : q 0 ≤ 10) (hs : s < 1024) (hf : ∀ j, j < 10 → q (63 + j) < 1024) (hm : many ≤ 10) (hn : 400000000001 < n) (h78 : M 78 0 = nI (q 0)) (h63 : ∀ j, j < 10 → M 78 (63 + j) = nI (q (63 + j))) :
    ∃ M', zf_X10_fits n (nI s) (nI many) M = some (zB (zfit q s many).isSome, M') ∧ Fr 85 85 M M' ∧ ∀ g, zfit q s many = some g → SPt M' s g (q 0) := by
  have hF : Fr 85 85 M (zfl M 85 (-nI 1) 10) := Fr.fl M _ _ (by omega) (by omega)
  have hz := zstp_10 h0
  have e0 : zf_X10_fits n (nI s) (nI many) M = zf_X10_fits_L23 (nI s) (nI many) n (fun v50 M51 => (if v50 < 0 then (zf_X10_fits_j123 M51 0) else (zf_X10_fits_j123 M51 1))) n (nI 0) (zfl M 85 (-nI 1) 10) := by
    unfold zf_X10_fits
    exact fill10 (by omega)
  obtain ⟨a1, a2⟩ := level10 (many := many) h0 hs hf hm (show 20 < n by omega) (fun v50 M51 => (if v50 < 0 then (zf_X10_fits_j123 M51 0) else (zf_X10_fits_j123 M51 1))) (q 0) 0 (fun _ => 0) (zfl M 85 (-nI 1) 10) (by omega) (by rw [zfl_ne (by omega)]; exact h78) (fun j hj => by rw [zfl_ne (by omega)]; exact h63 j hj) (fun j hj => by rw [zfl_at hj]; unfold zpI; rw [if_neg (by omega)]) (fun j hj => by omega)
  rw [e0]
  cases hz2 : zfit q s many with
  | none =>
    obtain ⟨c, c1, c2⟩ := a1 hz2
    obtain ⟨e, rfl⟩ : ∃ x, n = (x + 1) + c := ⟨n - c - 1, by omega⟩
    refine ⟨_, ?_, hF, fun g hg => by cases hg⟩
    rw [c2, zf_X10_fits_L23]
    rfl
  | some g =>
    obtain ⟨M', ⟨c, c1, c2⟩, g2, g3⟩ := a2 g hz2
    obtain ⟨e, rfl⟩ : ∃ x, n = (x + 1) + c := ⟨n - c - 1, by omega⟩
    refine ⟨M', ?_, hF.trans g2, fun g' hg => by cases hg; exact g3⟩
    have e78 : M' 78 0 = nI (q 0) := by rw [g2 78 (by omega), zfl_ne (by omega)]; exact h78
    rw [c2, zf_X10_fits_L23, if_neg (nI_pos (by omega)), zrd_at (i := (0 : Int32)) 0 rfl (by omega), e78, zi_le (by omega) (by omega), if_pos (by omega), if_neg (nI_pos (by omega))]
    rfl
/-- what the reference's cells tell of how a set is parted -/
def DVD (M : ZMem) (q : ZRow) (s : Nat) : Prop := M 77 20 = nI (zdv q s).1 ∧ SPt M s (zdv q s).2 (q 0)
def FD (M M' : ZMem) : Prop := (∀ k, k ≠ 77 → k ≠ 85 → M' k = M k) ∧ ∀ j, j ≠ 20 → M' 77 j = M 77 j
theorem divides10 {q : ZRow} {s n : Nat} {M : ZMem} (h0 : q 0 ≤ 10) (hs : s < 1024) (hf : ∀ j, j < 10 → q (63 + j) < 1024) (hn : 400000000001 < n) (h78 : M 78 0 = nI (q 0)) (h63 : ∀ j, j < 10 → M 78 (63 + j) = nI (q (63 + j))) : Ok (zf_X10_divides n (nI s) M) (fun M' => DVD M' q s ∧ FD M M') := by
  have key : ∀ c k m M1, k + c = 11 → k ≤ q 0 → c < m → zdivF q s c k = zdv q s → M1 77 20 = nI k → M1 78 = M 78 → FD M M1 → Ok (zf_X10_divides_L5 n (nI s) (fun M31 => some M31) m M1) (fun M' => DVD M' q s ∧ FD M M') := by
    intro c
    induction c with
    | zero => intro k m M1 h1 h2; omega
    | succ c ih =>
      intro k m M1 h1 h2 h3 h5 p1 p2 hF
      obtain ⟨m, rfl⟩ : ∃ x, m = x + 1 := ⟨m - 1, by omega⟩
      obtain ⟨M', e1, e2, e3⟩ := fits10 (M := M1) (many := k) h0 hs hf (by omega) hn (by rw [p2]; exact h78) (fun j hj => by rw [p2]; exact h63 j hj)
      have e77 : M' 77 = M1 77 := e2 77 (by omega)
      have hF' : FD M M' := ⟨fun k a b => by rw [e2 k (by omega)]; exact hF.1 k a b, fun j hj => by rw [e77]; exact hF.2 j hj⟩
      rw [zdivF_s] at h5
      cases hz : zfit q s k with
      | none =>
        rw [hz] at h5 e1
        have hk : k ≠ q 0 := fun z => zfit_all (q := q) (s := s) (by rw [← z]; exact hz)
        have e4 : zf_X10_divides_L5 n (nI s) (fun M31 => some M31) (m + 1) M1 = zf_X10_divides_L5 n (nI s) (fun M31 => some M31) m (zwr M' 77 20 (nI (k + 1))) := by
          simp (disch := (first | assumption | omega)) only [zf_X10_divides_L5, zlp, p1, e1, ↓ev_ifB, ↓ev_iflt, ↓ev_ifle, ↓ev_ifeq, ↓ifp, ↓ifn, ↓ev_b1, ↓ev_b2, ↓ev_put, ↓ev_z0, ↓ev_z1, ↓ev_zB, ↓ev_has9, ↓ev_has10, ↓ev_shl, ↓ev_bit, ↓ev_in, ↓ev_inG, ↓ev_rd, ↓ev_st, decide_eq_true_eq, nI_add, ev_sub, pk_mul, nI_or, nI_xor, zBt, zBf, if_true, if_false, eq_self, Bool.false_eq_true, e77, Option.isSome_none]
        rw [e4]
        exact ih (k + 1) m _ (by omega) (by omega) (by omega) h5 wre (by rw [wrn (by omega), e2 78 (by omega)]; exact p2) ⟨fun k a b => by rw [wrn a]; exact hF'.1 k a b, fun j hj => by rw [wrj hj]; exact hF'.2 j hj⟩
      | some f =>
        rw [hz] at h5 e1
        have e4 : zf_X10_divides_L5 n (nI s) (fun M31 => some M31) (m + 1) M1 = some M' := by
          simp (disch := (first | assumption | omega)) only [zf_X10_divides_L5, zlp, p1, e1, ↓ev_ifB, ↓ev_iflt, ↓ev_ifle, ↓ev_ifeq, ↓ifp, ↓ifn, ↓ev_b1, ↓ev_b2, ↓ev_put, ↓ev_z0, ↓ev_z1, ↓ev_zB, ↓ev_has9, ↓ev_has10, ↓ev_shl, ↓ev_bit, ↓ev_in, ↓ev_inG, ↓ev_rd, ↓ev_st, decide_eq_true_eq, nI_add, ev_sub, pk_mul, nI_or, nI_xor, zBt, zBf, if_true, if_false, eq_self, Bool.false_eq_true, Option.isSome_some]
        refine ⟨_, e4, ⟨by rw [e77, p1, ← h5], fun j hj => by rw [← h5]; exact e3 f hz j hj⟩, hF'⟩
  have e0 : zf_X10_divides n (nI s) M = zf_X10_divides_L5 n (nI s) (fun M31 => some M31) n (zwr M 77 20 (nI 0)) := by
    simp (disch := (first | assumption | omega)) only [zf_X10_divides, zlp, ↓ev_put]
  rw [e0]
  exact key 11 0 n _ (by omega) (by omega) (by omega) rfl wre (wrn (by omega)) ⟨fun k a b => wrn a, fun j hj => wrj hj⟩
/-- parts depend on who conflicts alone -/
def CF (q r : ZRow) (s : Nat) : Prop := ∀ i, i < q 0 → s.testBit i = true → ∀ j, j < i → s.testBit j = true → (q (63 + i)).testBit j = (r (63 + i)).testBit j
theorem zfree_row {q r : ZRow} {s : Nat} {f : Nat → Nat} {i k : Nat} (h : ∀ j, j < i → s.testBit j = true → (q (63 + i)).testBit j = (r (63 + i)).testBit j) : zfree q s f i k = zfree r s f i k := by
  apply Bool.eq_iff_iff.mpr
  rw [zfree_iff, zfree_iff]
  constructor
  · intro h1 j hj hs hk
    rw [← h j hj hs]; exact h1 j hj hs hk
  · intro h1 j hj hs hk
    rw [h j hj hs]; exact h1 j hj hs hk
theorem zsr_row {q r : ZRow} {s many : Nat} (h : CF q r s) : ∀ d i f, i + d ≤ q 0 → zsr q s many d i f = zsr r s many d i f
  | 0, i, f, _ => rfl
  | d + 1, i, f, hi => by
    rw [zsr_s, zsr_s, zsr_row h d (i + 1) f (by omega)]
    by_cases hs : s.testBit i = true
    · rw [if_pos hs, if_pos hs]
      apply zfirst_congr
      intro k _ _
      show (if zfree q s f i k then zsr q s many d (i + 1) (zupf f i k) else none) = (if zfree r s f i k then zsr r s many d (i + 1) (zupf f i k) else none)
      rw [zfree_row (h i (by omega) hs), zsr_row h d (i + 1) _ (by omega)]
    · rw [if_neg hs, if_neg hs]
theorem zfit_row {q r : ZRow} {s many : Nat} (h0 : q 0 = r 0) (h : CF q r s) : zfit q s many = zfit r s many := by
  unfold zfit
  rw [← h0]
  exact zsr_row h _ _ _ (by omega)
theorem zdivF_row {q r : ZRow} {s : Nat} (h0 : q 0 = r 0) (h : CF q r s) : ∀ c k, zdivF q s c k = zdivF r s c k
  | 0, k => rfl
  | c + 1, k => by rw [zdivF_s, zdivF_s, zfit_row h0 h, zdivF_row h0 h c (k + 1)]
theorem zdv_row {q r : ZRow} {s : Nat} (h0 : q 0 = r 0) (h : CF q r s) : zdv q s = zdv r s := zdivF_row h0 h _ _
/-- more parts fit too -/
theorem zfit_mono {q : ZRow} {s a b : Nat} (h : a ≤ b) {g : Nat → Nat} (hz : zfit q s a = some g) : zfit q s b ≠ none := fun hn => by
  obtain ⟨⟨h1, h2⟩, h3⟩ := zsr_sound hz
  exact zsr_complete (g := g) hn (fun j hj => by omega) (fun j c e hj => ⟨by have := (h2 j c e hj).1; omega, (h2 j c e hj).2⟩)
theorem zdv_lt {q : ZRow} {s k : Nat} (h0 : q 0 ≤ 10) (hk : 1 ≤ k) : (zfit q s (k - 1)).isSome = decide ((zdv q s).1 < k) := by
  obtain ⟨d1, d2, d3⟩ := zdv_spec (s := s) h0
  by_cases h : (zdv q s).1 < k
  · rw [decide_eq_true h]
    cases e : zfit q s (k - 1) with
    | none => exact absurd e (zfit_mono (by omega) d2)
    | some g => rfl
  · rw [decide_eq_false h, d3 (k - 1) (by omega)]
    rfl
/-! what a question may write into -/
def F9 (M M1 : ZMem) : Prop := (∀ k, zkeep k → M1 k = M k) ∧ M1 57 7 = M 57 7 ∧ M1 57 8 = M 57 8 ∧ M1 71 = M 71 ∧ M1 72 = M 72 ∧ ∀ k, 77 ≤ k → M1 k = M k
def F10 (M M1 : ZMem) : Prop := (∀ k, k < 77 → M1 k = M k) ∧ M1 78 = M 78 ∧ M1 80 = M 80 ∧ M1 81 = M 81 ∧ M1 82 = M 82 ∧ M1 83 = M 83 ∧ M1 84 = M 84 ∧ M1 77 4 = M 77 4 ∧ M1 77 6 = M 77 6 ∧ M1 77 16 = M 77 16
theorem F9.refl (M : ZMem) : F9 M M := ⟨fun _ _ => rfl, rfl, rfl, rfl, rfl, fun _ _ => rfl⟩
theorem F10.refl (M : ZMem) : F10 M M := ⟨fun _ _ => rfl, rfl, rfl, rfl, rfl, rfl, rfl, rfl, rfl, rfl⟩
theorem F9.trans {A B C : ZMem} (h : F9 A B) (g : F9 B C) : F9 A C := ⟨fun k hk => (g.1 k hk).trans (h.1 k hk), g.2.1.trans h.2.1, g.2.2.1.trans h.2.2.1, g.2.2.2.1.trans h.2.2.2.1, g.2.2.2.2.1.trans h.2.2.2.2.1, fun k hk => (g.2.2.2.2.2 k hk).trans (h.2.2.2.2.2 k hk)⟩
theorem F10.trans {A B C : ZMem} (h : F10 A B) (g : F10 B C) : F10 A C := ⟨fun k hk => (g.1 k hk).trans (h.1 k hk), g.2.1.trans h.2.1, g.2.2.1.trans h.2.2.1, g.2.2.2.1.trans h.2.2.2.1, g.2.2.2.2.1.trans h.2.2.2.2.1, g.2.2.2.2.2.1.trans h.2.2.2.2.2.1, g.2.2.2.2.2.2.1.trans h.2.2.2.2.2.2.1, g.2.2.2.2.2.2.2.1.trans h.2.2.2.2.2.2.2.1, g.2.2.2.2.2.2.2.2.1.trans h.2.2.2.2.2.2.2.2.1, g.2.2.2.2.2.2.2.2.2.trans h.2.2.2.2.2.2.2.2.2⟩
theorem FS.f9 {M M1 : ZMem} (h : FS M M1) : F9 M M1 := ⟨fun k hk => h.1 k (by unfold zkeep at hk; omega) (by unfold zkeep at hk; omega) (by unfold zkeep at hk; omega), h.2.1, h.2.2, h.1 71 (by omega) (by omega) (by omega), h.1 72 (by omega) (by omega) (by omega), fun k hk => h.1 k (by omega) (by omega) (by omega)⟩
theorem FD.f10 {M M1 : ZMem} (h : FD M M1) : F10 M M1 := ⟨fun k hk => h.1 k (by omega) (by omega), h.1 78 (by omega) (by omega), h.1 80 (by omega) (by omega), h.1 81 (by omega) (by omega), h.1 82 (by omega) (by omega), h.1 83 (by omega) (by omega), h.1 84 (by omega) (by omega), h.2 4 (by omega), h.2 6 (by omega), h.2 16 (by omega)⟩
theorem IC.f9 {M M1 : ZMem} {t nx u : Nat} {r : ZRow} {U : Nat → ZRow} {T : ZT} {L : ZL} (h : IC M t nx r u U T L) (g : F9 M M1) : IC M1 t nx r u U T L := h.scratch g.1 (h.2.2.2.2.2.2.2.1.congr g.2.1 g.2.2.1) (h.2.2.2.2.2.2.2.2.congr g.2.2.2.1 g.2.2.2.2.1)
theorem IM.f10 {M M1 : ZMem} {u : Nat} {r : ZRow} {U : Nat → ZRow} {T : ZT} {L : ZL} (h : IM M r u U T L) (g : F10 M M1) : IM M1 r u U T L := h.scratch g.2.1 g.2.2.1 g.2.2.2.1 g.2.2.2.2.1 g.2.2.2.2.2.1 g.2.2.2.2.2.2.1 g.2.2.2.2.2.2.2.1 g.2.2.2.2.2.2.2.2.1 g.2.2.2.2.2.2.2.2.2
theorem OPW.scr {f g : ZMem → Option (Int32 × ZMem)} {M : ZMem} {t nx u : Nat} {r : ZRow} {U : Nat → ZRow} {T : ZT} {L : ZL} (hS : GS r u U T L) (hC : IC M t nx r u U T L) (hM : IM M r u U T L) (v : Int32) (h9 : ∃ M1, f M = some (v, M1) ∧ F9 M M1) (h10 : ∀ M1, IM M1 r u U T L → ∃ M2, g M1 = some (v, M2) ∧ F10 M1 M2) : OPW f g M := by
  obtain ⟨M1, a1, a2⟩ := h9
  refine OPW.of (t := t) (nx := nx) hM hS ⟨M1, a1, hC.f9 a2, a2.2.2.2.2.2⟩ (fun M1 hM1 => ?_)
  obtain ⟨M2, b1, b2⟩ := h10 M1 hM1
  exact ⟨M2, b1, hM1.f10 b2, b2.1⟩
theorem IC.tk {M : ZMem} {t nx u : Nat} {r : ZRow} {U : Nat → ZRow} {T : ZT} {L : ZL} (h : IC M t nx r u U T L) : TK M t 12 r := ⟨h.2.2.1.1, h.2.2.2.1.1.2.2.2.1, h.2.2.2.1.1.2.2.2.2.2.2.2.2.2.2⟩
theorem splitNow9 {M : ZMem} {t nx u n : Nat} {r : ZRow} {U : Nat → ZRow} {T : ZT} {L : ZL} (h : IC M t nx r u U T L) (hw : WF r) (hn : 20 < n) : ∃ M1, zf_X9_splitNow n M = some M1 ∧ SPL M1 r ∧ FS M M1 := by
  have ht := h.t
  obtain ⟨M1, e1, e2, e3⟩ := split6 (n := n) hw.1 (fun j hj => hw.foe hj) h.tk (by omega) (by omega) hn
  refine ⟨M1, ?_, e2, e3⟩
  unfold zf_X9_splitNow
  rw [h.1.dy, e1]
  rfl
theorem inNow10 {M : ZMem} {r : ZRow} (h : IR M r) (hw : WF r) : zf_X10_inNow M = some (nI (zin r)) := by
  unfold zf_X10_inNow
  rw [zb1_at (all10 (h 0 (by omega)) hw.1), show (12 : Int32) = nI 12 from rfl, rd78 h _ (by omega) (by omega), nI_not hw.1, ← zin_eq]
theorem IR.div {M : ZMem} {r : ZRow} {s n : Nat} (h : IR M r) (hw : WF r) (hs : s < 1024) (hn : 400000000001 < n) : ∃ M1, zf_X10_divides n (nI s) M = some M1 ∧ DVD M1 r s ∧ FD M M1 := by
  obtain ⟨M1, e1, e2, e3⟩ := divides10 (n := n) (M := M) (q := r) (s := s) hw.1 hs (fun j hj => hw.foe hj) hn (h 0 (by omega)) (fun j hj => by rw [h _ (by omega), rI_ne (by omega)])
  exact ⟨M1, e1, e2, e3⟩
theorem op_classes {n : Nat} (hn : 400000000001 < n) {M : ZMem} (hI : INV M) : OPW (zf_X9_classes n) (zf_X10_classes n) M := by
  obtain ⟨t, nx, r, u, U, T, L, hS, hC, hM⟩ := id hI
  have hw := hS.1.1
  refine OPW.scr hS hC hM (nI (zparts r)) ?_ (fun M1 hM1 => ?_)
  · obtain ⟨M1, e1, e2, e3⟩ := splitNow9 (n := n) hC hw (by omega)
    refine ⟨M1, ?_, e3.f9⟩
    unfold zf_X9_classes
    rw [zb1_at e1, e2.2.2.1]
  · obtain ⟨M2, e1, e2, e3⟩ := hM1.1.div hw (zin_lt hw.1) hn
    refine ⟨M2, ?_, e3.f10⟩
    unfold zf_X10_classes
    rw [zb1_at (inNow10 hM1.1 hw), zb1_at e1, e2.1]
    rfl
theorem op_classOf {n : Nat} (hn : 400000000001 < n) {M : ZMem} (hI : INV M) (a : Int32) : OPW (zf_X9_classOf n a) (zf_X10_classOf n a) M := by
  obtain ⟨t, nx, r, u, U, T, L, hS, hC, hM⟩ := id hI
  have hw := hS.1.1
  have hb := hw.b
  cases hz : zmem (r 0) a with
  | false =>
    refine OPW.same (-nI 1) ?_ ?_ hI
    · simp (disch := (first | assumption | omega)) only [zf_X9_classOf, zlp, ↓zb1_at (hC.mem hS.1.1 a), hz, ↓ev_ifB, ↓ev_ifeq, ↓ifp, ↓ifn, zBt, zBf, if_true, if_false, eq_self, Bool.false_eq_true]
    · simp (disch := (first | assumption | omega)) only [zf_X10_classOf, zlp, ↓zb1_at (hM.1.mem hS.1.1 a), hz, ↓ev_ifB, ↓ev_ifeq, ↓ifp, ↓ifn, zBt, zBf, if_true, if_false, eq_self, Bool.false_eq_true]
  | true =>
    obtain ⟨i, hi, rfl⟩ := zmem_of hz
    have hin : (zin r).testBit i = !(r 12).testBit i := by rw [zin_tb]; simp [hi]
    refine OPW.scr hS hC hM (if (zin r).testBit i then nI (zpart r i) else -nI 2) ?_ (fun M1 hM1 => ?_)
    · obtain ⟨M1, e1, e2, e3⟩ := splitNow9 (n := n) hC hw (by omega)
      refine ⟨M1, ?_, e3.f9⟩
      have hg := groupOf6 (n := n) e2 hw.1 hi (by omega)
      simp (disch := (first | assumption | omega)) only [zf_X9_classOf, zlp, ↓zb1_at (hC.mem hS.1.1 _), hz, ↓ev_ifB, ↓ev_ifeq, ↓ifp, ↓ifn, zBt, zBf, if_true, if_false, eq_self, Bool.false_eq_true, ↓zb1_at e1, ↓zb1_at hg]
    · obtain ⟨M2, e1, e2, e3⟩ := hM1.1.div hw (zin_lt hw.1) hn
      refine ⟨M2, ?_, e3.f10⟩
      have hR2 : IR M2 r := hM1.1.congr (e3.1 78 (by omega) (by omega))
      have hp := e2.2 i (by omega)
      unfold zpI at hp
      rw [hin]
      cases ho : (r 12).testBit i with
      | true => simp (disch := (first | assumption | omega)) only [zf_X10_classOf, zf_X10_classOf_j43, zlp, ↓zb1_at (hM1.1.mem hS.1.1 _), hz, ↓ev_ifB, ↓ev_ifeq, ↓ifp, ↓ifn, zBt, zBf, if_true, if_false, eq_self, Bool.false_eq_true, ↓zb1_at (inNow10 hM1.1 hw), ↓zb1_at e1, ↓rd78 hR2, ↓ev_ifB, ↓ev_iflt, ↓ev_ifle, ↓ev_ifeq, ↓ifp, ↓ifn, ↓ev_b1, ↓ev_b2, ↓ev_put, ↓ev_z0, ↓ev_z1, ↓ev_zB, ↓ev_has9, ↓ev_has10, ↓ev_shl, ↓ev_bit, ↓ev_in, ↓ev_inG, ↓ev_rd, ↓ev_st, decide_eq_true_eq, nI_add, ev_sub, pk_mul, nI_or, nI_xor, zBt, zBf, if_true, if_false, eq_self, Bool.false_eq_true, Bool.not_true]
      | false =>
        rw [if_pos ⟨hi, by rw [hin, ho]; rfl⟩] at hp
        simp (disch := (first | assumption | omega)) only [zf_X10_classOf, zf_X10_classOf_j43, zlp, ↓zb1_at (hM1.1.mem hS.1.1 _), hz, ↓ev_ifB, ↓ev_ifeq, ↓ifp, ↓ifn, zBt, zBf, if_true, if_false, eq_self, Bool.false_eq_true, ↓zb1_at (inNow10 hM1.1 hw), ↓zb1_at e1, ↓rd78 hR2, ↓ev_has10, ho, ↓ev_ifB, ↓ev_iflt, ↓ev_ifle, ↓ev_ifeq, ↓ifp, ↓ifn, ↓ev_b1, ↓ev_b2, ↓ev_put, ↓ev_z0, ↓ev_z1, ↓ev_zB, ↓ev_has9, ↓ev_has10, ↓ev_shl, ↓ev_bit, ↓ev_in, ↓ev_inG, ↓ev_rd, ↓ev_st, decide_eq_true_eq, nI_add, ev_sub, pk_mul, nI_or, nI_xor, zBt, zBf, if_true, if_false, eq_self, Bool.false_eq_true, Bool.not_false, hp]
        rfl
theorem partBits10 {M : ZMem} {r : ZRow} {s k n : Nat} {f : Nat → Nat} (h : IR M r) (hw : WF r) (hp : SPt M s f (r 0)) (hf : ∀ i, i < r 0 → s.testBit i = true → f i < 2147483648) (hk : k < 2147483648) (hn : 10 < n) : zf_X10_partBits n (nI k) M = some (nI (zgrp s f (r 0) k)) := by
  have hb := hw.b
  unfold zf_X10_partBits
  refine zloop (fun m i (x : Nat) => zf_X10_partBits_L4 M (nI k) (fun v => some v) m (nI x) (nI i)) (fun i => zgrp s f i k) _ (r 0) (fun m i hi => ?_) (fun m => ?_) n 0 (Nat.zero_le _) (by omega)
  · show zf_X10_partBits_L4 M (nI k) _ (m + 1) (nI _) (nI i) = zf_X10_partBits_L4 M (nI k) _ m (nI _) (nI (i + 1))
    have e : zgrp s f (i + 1) k = if (s.testBit i && (f i == k)) = true then zgrp s f i k ||| 2 ^ i else zgrp s f i k := rfl
    have hpi := hp i (by omega)
    unfold zpI at hpi
    rw [e]
    by_cases g1 : s.testBit i = true
    · rw [if_pos ⟨hi, g1⟩] at hpi
      have hfi := hf i hi g1
      by_cases g2 : f i = k
      · rw [if_pos (by simp [g1, g2])]
        simp (disch := (first | assumption | omega)) only [zf_X10_partBits_L4, zf_X10_partBits_j32, zlp, ↓rd78 h, ↓ev_ifB, ↓ev_iflt, ↓ev_ifle, ↓ev_ifeq, ↓ifp, ↓ifn, ↓ev_b1, ↓ev_b2, ↓ev_put, ↓ev_z0, ↓ev_z1, ↓ev_zB, ↓ev_has9, ↓ev_has10, ↓ev_shl, ↓ev_bit, ↓ev_in, ↓ev_inG, ↓ev_rd, ↓ev_st, decide_eq_true_eq, nI_add, ev_sub, pk_mul, nI_or, nI_xor, zBt, zBf, if_true, if_false, eq_self, Bool.false_eq_true, hpi]
      · rw [if_neg (by simp [g2])]
        simp (disch := (first | assumption | omega)) only [zf_X10_partBits_L4, zf_X10_partBits_j32, zlp, ↓rd78 h, ↓ev_ifB, ↓ev_iflt, ↓ev_ifle, ↓ev_ifeq, ↓ifp, ↓ifn, ↓ev_b1, ↓ev_b2, ↓ev_put, ↓ev_z0, ↓ev_z1, ↓ev_zB, ↓ev_has9, ↓ev_has10, ↓ev_shl, ↓ev_bit, ↓ev_in, ↓ev_inG, ↓ev_rd, ↓ev_st, decide_eq_true_eq, nI_add, ev_sub, pk_mul, nI_or, nI_xor, zBt, zBf, if_true, if_false, eq_self, Bool.false_eq_true, hpi, Nat.or_zero]
    · rw [if_neg (fun z => g1 z.2)] at hpi
      rw [if_neg (by simp [g1])]
      have hne : ¬ -nI 1 = nI k := zneg_ne (by decide) hk
      simp (disch := (first | assumption | omega)) only [zf_X10_partBits_L4, zf_X10_partBits_j32, zlp, ↓rd78 h, ↓ev_ifB, ↓ev_iflt, ↓ev_ifle, ↓ev_ifeq, ↓ifp, ↓ifn, ↓ev_b1, ↓ev_b2, ↓ev_put, ↓ev_z0, ↓ev_z1, ↓ev_zB, ↓ev_has9, ↓ev_has10, ↓ev_shl, ↓ev_bit, ↓ev_in, ↓ev_inG, ↓ev_rd, ↓ev_st, decide_eq_true_eq, nI_add, ev_sub, pk_mul, nI_or, nI_xor, zBt, zBf, if_true, if_false, eq_self, Bool.false_eq_true, hpi, Nat.or_zero]
  · show zf_X10_partBits_L4 M (nI k) _ (m + 1) (nI _) (nI (r 0)) = _
    simp (disch := (first | assumption | omega)) only [zf_X10_partBits_L4, zlp, ↓rd78 h, ↓ev_ifB, ↓ev_iflt, ↓ev_ifle, ↓ev_ifeq, ↓ifp, ↓ifn, ↓ev_b1, ↓ev_b2, ↓ev_put, ↓ev_z0, ↓ev_z1, ↓ev_zB, ↓ev_has9, ↓ev_has10, ↓ev_shl, ↓ev_bit, ↓ev_in, ↓ev_inG, ↓ev_rd, ↓ev_st, decide_eq_true_eq, nI_add, ev_sub, pk_mul, nI_or, nI_xor, zBt, zBf, if_true, if_false, eq_self, Bool.false_eq_true]
theorem zpart_b {r : ZRow} (h0 : r 0 ≤ 10) : ∀ i, i < r 0 → (zin r).testBit i = true → (zdv r (zin r)).2 i < 2147483648 := fun i hi hs => by
  have h1 : zpart r i < zparts r := zpart_lt h0 hi hs
  have h2 := zparts_le h0
  have h3 : zpart r i = (zdv r (zin r)).2 i := rfl
  omega
theorem op_classBits {n : Nat} (hn : 400000000001 < n) {M : ZMem} (hI : INV M) (a : Int32) : OPW (zf_X9_classBits n a) (zf_X10_classBits n a) M := by
  obtain ⟨t, nx, r, u, U, T, L, hS, hC, hM⟩ := id hI
  have hw := hS.1.1
  have hb := hw.b
  have hpl := zparts_le hw.1
  have hd : (zdv r (zin r)).1 = zparts r := rfl
  cases hz : zmem (zparts r) a with
  | false =>
    refine OPW.scr hS hC hM (-nI 1) ?_ (fun M1 hM1 => ?_)
    · obtain ⟨M1, e1, e2, e3⟩ := splitNow9 (n := n) hC hw (by omega)
      refine ⟨M1, ?_, e3.f9⟩
      simp (disch := (first | assumption | omega)) only [zf_X9_classBits, zf_X9_classBits_j28, zlp, ↓zb1_at e1, ↓zb1_at (isGroup6 e2 hw.1 a), hz, ↓ev_ifB, ↓ev_ifeq, ↓ifp, ↓ifn, zBt, zBf, if_true, if_false, eq_self, Bool.false_eq_true]
    · obtain ⟨M2, e1, e2, e3⟩ := hM1.1.div hw (zin_lt hw.1) hn
      refine ⟨M2, ?_, e3.f10⟩
      have e4 := e2.1
      simp (disch := (first | assumption | omega)) only [zf_X10_classBits, zf_X10_classBits_j31, zlp, ↓zb1_at (inNow10 hM1.1 hw), ↓zb1_at e1, e4, hd, ↓zb1_at (isInM a (show zparts r < 1073741824 by omega)), hz, ↓ev_ifB, ↓ev_ifeq, ↓ifp, ↓ifn, zBt, zBf, if_true, if_false, eq_self, Bool.false_eq_true]
  | true =>
    obtain ⟨k, hk, rfl⟩ := zmem_of hz
    refine OPW.scr hS hC hM (nI (zgrp (zin r) (zpart r) (r 0) k)) ?_ (fun M1 hM1 => ?_)
    · obtain ⟨M1, e1, e2, e3⟩ := splitNow9 (n := n) hC hw (by omega)
      refine ⟨M1, ?_, e3.f9⟩
      have e5 := e2.2.2.2.2 k (by omega)
      simp (disch := (first | assumption | omega)) only [zf_X9_classBits, zf_X9_classBits_j28, zlp, ↓zb1_at e1, ↓zb1_at (isGroup6 e2 hw.1 _), hz, ↓ev_ifB, ↓ev_ifeq, ↓ifp, ↓ifn, zBt, zBf, if_true, if_false, eq_self, Bool.false_eq_true, ↓ev_rd, e5]
    · obtain ⟨M2, e1, e2, e3⟩ := hM1.1.div hw (zin_lt hw.1) hn
      refine ⟨M2, ?_, e3.f10⟩
      have e4 := e2.1
      have hR2 : IR M2 r := hM1.1.congr (e3.1 78 (by omega) (by omega))
      have e5 := partBits10 (n := n) (k := k) hR2 hw e2.2 (zpart_b hw.1) (by omega) (by omega)
      simp (disch := (first | assumption | omega)) only [zf_X10_classBits, zf_X10_classBits_j31, zlp, ↓zb1_at (inNow10 hM1.1 hw), ↓zb1_at e1, e4, hd, ↓zb1_at (isInM _ (show zparts r < 1073741824 by omega)), hz, ↓ev_ifB, ↓ev_ifeq, ↓ifp, ↓ifn, zBt, zBf, if_true, if_false, eq_self, Bool.false_eq_true, ↓zb1_at e5]
      rfl
