/-! LAYER 2: the class parts its MEMBERS (2) -/
/-- only the splitter's limit and groups are touched -/
def FI (M M' : ZMem) : Prop := (∀ k, k ≠ 57 → k ≠ 59 → M' k = M k) ∧ ∀ j, j ≠ 2 → M' 57 j = M 57 j
theorem FI.trans {A B C : ZMem} (h : FI A B) (g : FI B C) : FI A C := ⟨fun k a b => (g.1 k a b).trans (h.1 k a b), fun j a => (g.2 j a).trans (h.2 j a)⟩
theorem zsr0 {q : ZRow} {s many : Nat} : zsrR q s many (q 0) 0 0 (fun _ => 0) = zfit q s many := zsrR_eq (fun j hj => by omega)
theorem zgrp_0 (s : Nat) (f : Nat → Nat) (k : Nat) : zgrp s f 0 k = 0 := rfl
theorem fitsInto6 {q : ZRow} {s many n : Nat} {M : ZMem} (h0 : q 0 ≤ 10) (hs : s < 1024) (hf : ∀ j, j < 10 → q (63 + j) < 1024) (hm : many ≤ 10) (hn : 20 < n) (p1 : M 57 0 = nI (q 0)) (p2 : M 57 1 = nI s) (p4 : ∀ j, j < 10 → M 58 j = nI (q (63 + j))) :
    ∃ M', zf_X6_fitsInto n (nI many) M = some (zB (zfit q s many).isSome, M') ∧ FI M M' ∧ ∀ g, zfit q s many = some g → SG M' s g (q 0) := by
  have e57 : ∀ j, j ≠ 2 → zfl (zwr M 57 2 (nI many)) 59 (nI 0) 10 57 j = M 57 j := fun j hj => by rw [zfl_ne (by omega), wrj hj]
  have hP : SPk (zfl (zwr M 57 2 (nI many)) 59 (nI 0) 10) q s many := ⟨by rw [e57 0 (by omega)]; exact p1, by rw [e57 1 (by omega)]; exact p2, by rw [zfl_ne (by omega), wre], fun j hj => by rw [zfl_ne (by omega), wrn (by omega)]; exact p4 j hj⟩
  have hG : SG (zfl (zwr M 57 2 (nI many)) 59 (nI 0) 10) s (fun _ => 0) 0 := fun k hk => by rw [zfl_at hk, zgrp_0]
  have hFI : FI M (zfl (zwr M 57 2 (nI many)) 59 (nI 0) 10) := ⟨fun k a b => by rw [zfl_ne b, wrn a], e57⟩
  obtain ⟨a1, a2⟩ := place6 h0 hs hf hm hn (q 0) 0 0 12 (fun _ => 0) _ (Nat.zero_add _) (by omega) (Nat.le_refl _) hP hG
  rw [zsr0] at a1 a2
  have hfill := fun x => fill7 (M := zwr M 57 2 (nI many)) (o := 59) (l := 10) (n := n) (x := x) (by omega) (by omega)
  cases hz : zfit q s many with
  | none =>
    refine ⟨_, ?_, hFI, fun g hg => by cases hg⟩
    have e1 := a1 hz
    simp (disch := (first | assumption | omega)) only [zf_X6_fitsInto, zlp, ↓ev_put, ↓zb1_at (hfill _), e1, ↓ev_b2, ↓ev_z0, Option.isSome_none, zBf]
  | some g =>
    obtain ⟨M', e1, e2, e3⟩ := a2 g hz
    refine ⟨M', ?_, hFI.trans ⟨fun k a b => e2 k (by omega), fun j hj => by rw [e2 57 (by omega)]⟩, fun g' hg => by cases hg; exact e3⟩
    simp (disch := (first | assumption | omega)) only [zf_X6_fitsInto, zlp, ↓ev_put, ↓zb1_at (hfill _), e1, ↓ev_b2, ↓ev_z1, Option.isSome_some, zBt]
/-- what the splitter's cells tell of a row -/
def SPL (M : ZMem) (q : ZRow) : Prop := M 57 0 = nI (q 0) ∧ M 57 1 = nI (zin q) ∧ M 57 5 = nI (zparts q) ∧ (∀ j, j < 10 → M 58 j = nI (q (63 + j))) ∧ SG M (zin q) (zpart q) (q 0)
/-- what the splitter leaves as it was -/
def FS (M M' : ZMem) : Prop := (∀ k, k ≠ 57 → k ≠ 58 → k ≠ 59 → M' k = M k) ∧ M' 57 7 = M 57 7 ∧ M' 57 8 = M 57 8
theorem zin_eq {q : ZRow} : zin q = (2 ^ q 0 - 1) &&& (q 12 ^^^ (2 ^ q 0 - 1)) := by
  apply Nat.eq_of_testBit_eq
  intro j
  unfold zin
  rw [zset_tb, Nat.testBit_and, Nat.testBit_xor, Nat.testBit_two_pow_sub_one]
  by_cases h : j < q 0
  · simp [h]
  · simp [h]
theorem zin_lt {q : ZRow} (h : q 0 ≤ 10) : zin q < 1024 := Nat.lt_of_lt_of_le (zset_lt _ _) (zpow_le h)
theorem zin_tb {q : ZRow} {j : Nat} : (zin q).testBit j = (decide (j < q 0) && !(q 12).testBit j) := zset_tb _ _ _
/-- what the splitter takes -/
def TK (M : ZMem) (t o : Nat) (q : ZRow) : Prop := M t 0 = nI (q 0) ∧ M o 4 = nI (q 12) ∧ ∀ j, j < 10 → M (o + 1) j = nI (q (63 + j))
def ztk (M : ZMem) (o : Nat) (q : ZRow) : ZMem := zcpM (zwr (zwr (zwr M 57 0 (nI (q 0))) 57 1 (nI (zin q))) 57 5 (nI 0)) (o + 1) 58 0 0 10
theorem take6 {M : ZMem} {t o : Nat} {q : ZRow} (h0 : q 0 ≤ 10) (h : TK M t o q) (ht : t < 57) (ho : o < 56) : zf_X6_take t o M = some (ztk M o q) := by
  obtain ⟨h1, h2, h3⟩ := h
  have e1 : zwr M 57 0 (nI (q 0)) 57 0 = nI (q 0) := wre
  have e2 : zwr M 57 0 (nI (q 0)) o 4 = nI (q 12) := by rw [wrn (by omega)]; exact h2
  unfold zf_X6_take
  rw [h1]
  simp only [zput_at]
  rw [e1, e2, zpow (q 0) (by omega), show nI (2 ^ q 0) - 1 = nI (2 ^ q 0 - 1) from pk_sub (b := 1) (Nat.two_pow_pos _), nI_not h0, ← zin_eq]
  unfold zcp
  rw [if_pos (by decide)]
  rfl
theorem ztk_57 {M : ZMem} {o : Nat} {q : ZRow} : ztk M o q 57 0 = nI (q 0) ∧ ztk M o q 57 1 = nI (zin q) ∧ ztk M o q 57 5 = nI 0 ∧ ∀ j, j ≠ 0 → j ≠ 1 → j ≠ 5 → ztk M o q 57 j = M 57 j := by
  have e : ztk M o q 57 = zwr (zwr (zwr M 57 0 (nI (q 0))) 57 1 (nI (zin q))) 57 5 (nI 0) 57 := by
    unfold ztk zcpM
    rw [if_neg (by omega)]
  rw [e]
  refine ⟨?_, ?_, ?_, fun j a b c => ?_⟩
  · rw [wrj (by omega), wrj (by omega), wre]
  · rw [wrj (by omega), wre]
  · exact wre
  · rw [wrj c, wrj b, wrj a]
theorem ztk_58 {M : ZMem} {o : Nat} {q : ZRow} (h : ∀ j, j < 10 → M (o + 1) j = nI (q (63 + j))) (ho : o < 56) : ∀ j, j < 10 → ztk M o q 58 j = nI (q (63 + j)) := fun j hj => by
  unfold ztk zcpM
  rw [if_pos rfl, pk_cpy_in (by omega) (by omega), wrn (by omega), wrn (by omega), wrn (by omega), Nat.sub_zero, Nat.zero_add]
  exact h j hj
theorem ztk_ne {M : ZMem} {o : Nat} {q : ZRow} {k : Nat} (h : k ≠ 57) (h2 : k ≠ 58) : ztk M o q k = M k := by
  unfold ztk zcpM
  rw [if_neg h2, wrn h, wrn h, wrn h]
theorem zdivF_s (q : ZRow) (s c k : Nat) : zdivF q s (c + 1) k = match zfit q s k with | some f => (k, f) | none => zdivF q s c (k + 1) := rfl
theorem split6 {M : ZMem} {t o n : Nat} {q : ZRow} (h0 : q 0 ≤ 10) (hf : ∀ j, j < 10 → q (63 + j) < 1024) (h : TK M t o q) (ht : t < 57) (ho : o < 56) (hn : 20 < n) : Ok (zf_X6_split n t o M) (fun M' => SPL M' q ∧ FS M M') := by
  have hs := zin_lt h0
  unfold zf_X6_split
  rw [zb1_at (take6 h0 h ht ho)]
  obtain ⟨d1, d2, d3⟩ := zdv_spec (s := zin q) h0
  have key : ∀ c k m M1, k + c = 11 → k ≤ q 0 → c < m → (∀ j, j < k → zfit q (zin q) j = none) → zdivF q (zin q) c k = zdv q (zin q) → M1 57 0 = nI (q 0) → M1 57 1 = nI (zin q) → (∀ j, j < 10 → M1 58 j = nI (q (63 + j))) → FS M M1 → Ok (zf_X6_split_L8 n (fun M32 => some M32) m (nI k) M1) (fun M' => SPL M' q ∧ FS M M') := by
    intro c
    induction c with
    | zero => intro k m M1 h1 h2; omega
    | succ c ih =>
      intro k m M1 h1 h2 h3 h4 h5 p1 p2 p4 hF
      obtain ⟨m, rfl⟩ : ∃ x, m = x + 1 := ⟨m - 1, by omega⟩
      obtain ⟨M', e1, e2, e3⟩ := fitsInto6 (many := k) h0 hs hf (by omega) hn p1 p2 p4
      have hF' : FS M M' := ⟨fun k a b c => by rw [e2.1 k a c]; exact hF.1 k a b c, by rw [e2.2 7 (by omega)]; exact hF.2.1, by rw [e2.2 8 (by omega)]; exact hF.2.2⟩
      rw [zdivF_s] at h5
      cases hz : zfit q (zin q) k with
      | none =>
        rw [hz] at h5 e1
        have hk : k ≠ q 0 := fun z => zfit_all (q := q) (s := zin q) (by rw [← z]; exact hz)
        have e4 : zf_X6_split_L8 n (fun M32 => some M32) (m + 1) (nI k) M1 = zf_X6_split_L8 n (fun M32 => some M32) m (nI (k + 1)) M' := by
          simp (disch := (first | assumption | omega)) only [zf_X6_split_L8, zlp, p1, ↓ev_ifB, ↓ev_iflt, ↓ev_ifle, ↓ev_ifeq, ↓ifp, ↓ifn, ↓ev_b1, ↓ev_b2, ↓ev_put, ↓ev_z0, ↓ev_z1, ↓ev_zB, ↓ev_has9, ↓ev_has10, ↓ev_shl, ↓ev_bit, ↓ev_in, ↓ev_inG, ↓ev_rd, ↓ev_st, decide_eq_true_eq, nI_add, ev_sub, pk_mul, nI_or, nI_xor, zBt, zBf, if_true, if_false, eq_self, Bool.false_eq_true, e1, Option.isSome_none]
        rw [e4]
        refine ih (k + 1) m M' (by omega) (by omega) (by omega) (fun j hj => ?_) h5 (by rw [e2.2 0 (by omega)]; exact p1) (by rw [e2.2 1 (by omega)]; exact p2) (fun j hj => by rw [e2.1 58 (by omega) (by omega)]; exact p4 j hj) hF'
        by_cases e : j = k
        · rw [e]; exact hz
        · exact h4 j (by omega)
      | some f =>
        rw [hz] at h5 e1
        have e4 : zf_X6_split_L8 n (fun M32 => some M32) (m + 1) (nI k) M1 = some (zwr M' 57 5 (nI k)) := by
          simp (disch := (first | assumption | omega)) only [zf_X6_split_L8, zlp, p1, ↓ev_ifB, ↓ev_iflt, ↓ev_ifle, ↓ev_ifeq, ↓ifp, ↓ifn, ↓ev_b1, ↓ev_b2, ↓ev_put, ↓ev_z0, ↓ev_z1, ↓ev_zB, ↓ev_has9, ↓ev_has10, ↓ev_shl, ↓ev_bit, ↓ev_in, ↓ev_inG, ↓ev_rd, ↓ev_st, decide_eq_true_eq, nI_add, ev_sub, pk_mul, nI_or, nI_xor, zBt, zBf, if_true, if_false, eq_self, Bool.false_eq_true, e1, Option.isSome_some]
        have hp : zparts q = k := by unfold zparts; rw [← h5]
        have hq : zpart q = f := by funext i; unfold zpart; rw [← h5]
        refine ⟨_, e4, ⟨by rw [wrj (by omega), e2.2 0 (by omega)]; exact p1, by rw [wrj (by omega), e2.2 1 (by omega)]; exact p2, by rw [wre, hp], fun j hj => by rw [wrn (by omega), e2.1 58 (by omega) (by omega)]; exact p4 j hj, fun l hl => by rw [wrn (by omega), hq]; exact e3 f hz l hl⟩, fun k a b c => by rw [wrn a]; exact hF'.1 k a b c, by rw [wrj (by omega)]; exact hF'.2.1, by rw [wrj (by omega)]; exact hF'.2.2⟩
  exact key 11 0 n _ (by omega) (by omega) (by omega) (fun j hj => by omega) rfl ztk_57.1 ztk_57.2.1 (ztk_58 h.2.2 ho) ⟨fun k a b c => ztk_ne a b, ztk_57.2.2.2 7 (by omega) (by omega) (by omega), ztk_57.2.2.2 8 (by omega) (by omega) (by omega)⟩
theorem zparts_le {q : ZRow} (h : q 0 ≤ 10) : zparts q ≤ q 0 := (zdv_spec h).1
theorem zpart_lt {q : ZRow} (h : q 0 ≤ 10) {i : Nat} (hi : i < q 0) (hz : (zin q).testBit i = true) : zpart q i < zparts q := ((zfit_sound (zdv_spec h).2.1).1 i hi hz).1
theorem isGroup6 {M : ZMem} {q : ZRow} (h : SPL M q) (h0 : q 0 ≤ 10) (a : Int32) : zf_X6_isGroup a M = some (zB (zmem (zparts q) a)) := by
  have hp := zparts_le h0
  have h5 := h.2.2.1
  rcases zint a with ha | ⟨k, hk, rfl⟩
  · rw [zmem_neg ha]
    simp (disch := (first | assumption | omega)) only [zf_X6_isGroup, zf_X6_isGroup_j16, zf_X6_isGroup_j17, zlp, ↓in1, ↓ev_z0, zBf]
  · rw [zmem_nI hk]
    by_cases g : k < zparts q
    · rw [decide_eq_true g]
      simp (disch := (first | assumption | omega)) only [zf_X6_isGroup, zf_X6_isGroup_j16, zf_X6_isGroup_j17, zlp, h5, ↓ev_ifB, ↓ev_iflt, ↓ev_ifle, ↓ev_ifeq, ↓ifp, ↓ifn, ↓ev_b1, ↓ev_b2, ↓ev_put, ↓ev_z0, ↓ev_z1, ↓ev_zB, ↓ev_has9, ↓ev_has10, ↓ev_shl, ↓ev_bit, ↓ev_in, ↓ev_inG, ↓ev_rd, ↓ev_st, decide_eq_true_eq, nI_add, ev_sub, pk_mul, nI_or, nI_xor, zBt, zBf, if_true, if_false, eq_self, Bool.false_eq_true]
    · rw [decide_eq_false g]
      simp (disch := (first | assumption | omega)) only [zf_X6_isGroup, zf_X6_isGroup_j16, zf_X6_isGroup_j17, zlp, h5, ↓ev_ifB, ↓ev_iflt, ↓ev_ifle, ↓ev_ifeq, ↓ifp, ↓ifn, ↓ev_b1, ↓ev_b2, ↓ev_put, ↓ev_z0, ↓ev_z1, ↓ev_zB, ↓ev_has9, ↓ev_has10, ↓ev_shl, ↓ev_bit, ↓ev_in, ↓ev_inG, ↓ev_rd, ↓ev_st, decide_eq_true_eq, nI_add, ev_sub, pk_mul, nI_or, nI_xor, zBt, zBf, if_true, if_false, eq_self, Bool.false_eq_true]
theorem groupOf6 {M : ZMem} {q : ZRow} (h : SPL M q) (h0 : q 0 ≤ 10) {i n : Nat} (hi : i < q 0) (hn : 20 < n) : zf_X6_groupOf n (nI i) M = some (if (zin q).testBit i then nI (zpart q i) else -nI 2) := by
  have hp := zparts_le h0
  obtain ⟨p1, p2, p3, p4, p5⟩ := h
  have hb : ∀ k, k < 10 → (zgrp (zin q) (zpart q) (q 0) k).testBit i = ((zin q).testBit i && (zpart q i == k)) := fun k _ => by rw [zgrp_tb]; simp [hi]
  have key : ∀ c k m, k + c = zparts q → c < m → ((zin q).testBit i = true → k ≤ zpart q i) → zf_X6_groupOf_L2 M (nI i) (some (-nI 2)) m (nI k) = some (if (zin q).testBit i then nI (zpart q i) else -nI 2) := by
    intro c
    induction c with
    | zero =>
      intro k m hk hm hz
      obtain ⟨m, rfl⟩ : ∃ x, m = x + 1 := ⟨m - 1, by omega⟩
      rw [zf_X6_groupOf_L2, p3, zi_le (by omega) (by omega), if_pos (by omega)]
      by_cases g : (zin q).testBit i = true
      · have := zpart_lt h0 hi g
        have := hz g
        omega
      · rw [if_neg g]
    | succ c ih =>
      intro k m hk hm hz
      obtain ⟨m, rfl⟩ : ∃ x, m = x + 1 := ⟨m - 1, by omega⟩
      have hlt := zgrp_lt (s := zin q) (f := zpart q) (k := k) h0
      rw [zf_X6_groupOf_L2, p3, zi_le (by omega) (by omega), if_neg (by omega), zrd_at k rfl (by omega), p5 k (by omega), zb1_at (has9 hlt (by omega)), hb k (by omega)]
      by_cases g : (zin q).testBit i = true
      · rw [g, Bool.true_and]
        by_cases e : zpart q i = k
        · rw [e, beq_self_eq_true]; rfl
        · rw [show (zpart q i == k) = false from by simp [e], nI_1, ih (k + 1) m (by omega) (by omega) (fun z => by have := hz z; omega), g]
          rfl
      · have g' : (zin q).testBit i = false := by simpa using g
        rw [g', Bool.false_and, nI_1, ih (k + 1) m (by omega) (by omega) (fun z => absurd z g), g']
        rfl
  exact key (zparts q) 0 n (by omega) (by omega) (fun _ => Nat.zero_le _)
