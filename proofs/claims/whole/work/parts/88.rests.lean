/-! LAYER 2: who rests -/
theorem zat_at {r : ZRow} {p x y : Nat} : zat (zat r p x) p y = zat r p y := by
  funext j
  unfold zat
  by_cases h : j = p
  · rw [if_pos h, if_pos h]
  · rw [if_neg h, if_neg h, if_neg h]
theorem zat_comm {r : ZRow} {p q x y : Nat} (h : p ≠ q) : zat (zat r p x) q y = zat (zat r q y) p x := by
  funext j
  unfold zat
  by_cases h1 : j = p
  · rw [if_pos h1, if_neg (by omega), if_pos h1]
  · by_cases h2 : j = q
    · rw [if_pos h2, if_neg h1, if_pos h2]
    · rw [if_neg h2, if_neg h1, if_neg h1, if_neg h2]
/-- all filed, nobody lazy -/
def zbase (r : ZRow) : ZRow := zat (zat r 13 (2 ^ r 0 - 1)) 14 0
theorem zifOut_eq (r : ZRow) (s : Nat) : zifOut r s = zat (zbase r) 12 s := by
  unfold zifOut zbase
  rw [zat_comm (p := 12) (q := 13) (by omega), zat_comm (p := 12) (q := 14) (by omega)]
theorem zifOut_gd {r : ZRow} {s : Nat} (h : GD r) (hs : s < 2 ^ r 0) : GD (zifOut r s) := by
  have hp := Nat.two_pow_pos (r 0)
  have h1 : GD (zat r 12 s) := h.put 12 s (by simp [hs])
  have e1 : zat r 12 s 0 = r 0 := zat_ne (by omega)
  have h2 : GD (zat (zat r 12 s) 13 (2 ^ r 0 - 1)) := h1.put 13 _ (by rw [e1]; simp; omega)
  exact h2.put 14 0 (by
    have e2 : zat (zat r 12 s) 13 (2 ^ r 0 - 1) 0 = r 0 := by rw [zat_ne (by omega), e1]
    rw [e2]; simp; omega)
theorem zifOut_sq {r : ZRow} {s : Nat} : SQ r (zifOut r s) := fun j a b c d e => by
  unfold zifOut
  rw [zat_ne (by omega), zat_ne (by omega), zat_ne (by omega)]
theorem zifOut_0 {r : ZRow} {s : Nat} : zifOut r s 0 = r 0 := sq_0 zifOut_sq
theorem zifOut_12 {r : ZRow} {s : Nat} : zifOut r s 12 = s := by rw [zifOut_eq, zat_eq]
theorem zifOut_13 {r : ZRow} {s : Nat} : zifOut r s 13 = 2 ^ r 0 - 1 := by unfold zifOut; rw [zat_ne (by omega), zat_eq]
theorem zifOut_14 {r : ZRow} {s : Nat} : zifOut r s 14 = 0 := by unfold zifOut; rw [zat_eq]
theorem zifOut_b {r : ZRow} (hg : GD r) {s i : Nat} (hs : s < 2 ^ r 0) (hi : i < r 0) : zpaid (zifOut r s) i ≤ 9900 := zpaid_b (zifOut_gd hg hs).1 (by rw [zifOut_0]; exact hi)
/-- whom a set that is out makes glad to be in -/
def zglad (r : ZRow) (odds suit s : Nat) : Nat := zset (fun i => !s.testBit i && decide (zalone r odds suit i < zpaid (zifOut r s) i)) (r 0)
def zcalm (r : ZRow) (odds suit s i : Nat) : Bool := s.testBit i || decide (zalone r odds suit i ≤ zpaid (zifOut r s) i)
def znone (r : ZRow) (odds suit s i : Nat) : Bool := !(s.testBit i && (zglad r odds suit (s ^^^ 2 ^ i)).testBit i)
theorem zglad_lt {r : ZRow} (h : r 0 ≤ 10) {odds suit s : Nat} : zglad r odds suit s < 1024 := Nat.lt_of_lt_of_le (zset_lt _ _) (zpow_le h)
theorem zglad_tb {r : ZRow} {odds suit s i : Nat} (hi : i < r 0) : (zglad r odds suit s).testBit i = (!s.testBit i && decide (zalone r odds suit i < zpaid (zifOut r s) i)) := by
  unfold zglad
  rw [zset_tb]
  simp [hi]
theorem zallF_congr {f g : Nat → Bool} : ∀ {d i : Nat}, (∀ j, i ≤ j → j < i + d → f j = g j) → zallF f d i = zallF g d i
  | 0, i, _ => rfl
  | d + 1, i, h => by rw [zallF_s, zallF_s, h i (by omega) (by omega), zallF_congr (fun j a b => h j (by omega) (by omega))]
theorem zallF_and {f g : Nat → Bool} : ∀ {d i : Nat}, zallF (fun j => f j && g j) d i = (zallF f d i && zallF g d i)
  | 0, i => rfl
  | d + 1, i => by
    rw [zallF_s, zallF_s, zallF_s, zallF_and]
    cases f i <;> cases g i <;> simp
theorem zrst_all {r : ZRow} {odds suit s : Nat} : zrst r odds suit s = (zallF (zcalm r odds suit s) (r 0) 0 && zallF (znone r odds suit s) (r 0) 0) := by
  rw [← zallF_and]
  unfold zrst
  rw [List.range_eq_range', ← zallF_range]
  refine zallF_congr (fun i _ hi => ?_)
  have hi' : i < r 0 := by omega
  unfold zcalm znone
  by_cases g : s.testBit i = true
  · have hx : (s ^^^ 2 ^ i).testBit i = false := by rw [Nat.testBit_xor, Nat.testBit_two_pow_self, g]; rfl
    rw [g, if_pos rfl, zglad_tb hi', hx, Bool.true_or, Bool.true_and, Bool.true_and, Bool.not_false, Bool.true_and]
    by_cases g2 : zpaid (zifOut r (s ^^^ 2 ^ i)) i ≤ zalone r odds suit i
    · rw [decide_eq_true g2, decide_eq_false (by omega)]; rfl
    · rw [decide_eq_false g2, decide_eq_true (by omega)]; rfl
  · have g' : s.testBit i = false := by simpa using g
    rw [g', if_neg (by decide), Bool.false_or, Bool.false_and, Bool.not_false, Bool.and_true]
/-- those of the first s sets that rest -/
def zrf (r : ZRow) (odds suit s : Nat) : List Nat := (List.range s).filter (zrst r odds suit)
theorem zrf_s (r : ZRow) (odds suit s : Nat) : zrf r odds suit (s + 1) = if zrst r odds suit s = true then zrf r odds suit s ++ [s] else zrf r odds suit s := by
  unfold zrf
  rw [List.range_succ, List.filter_append, List.filter_cons, List.filter_nil]
  by_cases h : zrst r odds suit s = true
  · rw [if_pos h, if_pos h]
  · rw [if_neg h, if_neg h, List.append_nil]
theorem zrf_len (r : ZRow) (odds suit s : Nat) : (zrf r odds suit s).length ≤ s := by
  have := List.length_filter_le (zrst r odds suit) (List.range s)
  rw [List.length_range] at this
  exact this
theorem zgetD_l {l : List Nat} {x k : Nat} (h : k < l.length) : (l ++ [x]).getD k 0 = l.getD k 0 := by
  rw [List.getD_eq_getElem?_getD, List.getD_eq_getElem?_getD, List.getElem?_append_left h]
theorem zgetD_r {l : List Nat} {x : Nat} : (l ++ [x]).getD l.length 0 = x := by
  rw [List.getD_eq_getElem?_getD, List.getElem?_concat_length]
  rfl
theorem zlen_1 {l : List Nat} {x : Nat} : (l ++ [x]).length = l.length + 1 := by
  rw [List.length_append]
  rfl
theorem zalone_le {r : ZRow} (hw : WF r) {odds suit i : Nat} (ho : odds ≤ 100) (hi : i < r 0) : zalone r odds suit i ≤ 9900 := by
  have h1 := zclaim_le hw hi
  have h2 : zclaim r i * odds ≤ 9900 * 100 := Nat.mul_le_mul h1 ho
  unfold zalone
  omega
theorem zz_alone {r : ZRow} (hw : WF r) {odds suit i : Nat} (ho : odds ≤ 100) (hs : suit ≤ 999) (hi : i < r 0) : zmax (nI 0) (nI (zclaim r i) * nI odds / nI 100 - nI suit) = nI (zalone r odds suit i) := by
  have h1 := zclaim_le hw hi
  have h2 : zclaim r i * odds ≤ 9900 * 100 := Nat.mul_le_mul h1 ho
  rw [pk_mul, pk_div (by omega) (by omega) (by omega)]
  unfold zalone
  have h3 := zz_net (a := zclaim r i * odds / 100) (b := suit) (c := 0) (by omega) (by omega)
  have h4 : nI (zclaim r i * odds / 100) - nI suit - nI 0 = nI (zclaim r i * odds / 100) - nI suit := by rw [Int32.sub_sub, nI_add, Nat.add_zero]
  rw [h4, Nat.add_zero] at h3
  exact h3
/-! the class -/
/-- between two sets: what the class's cells tell -/
def RSI (M M1 : ZMem) (t : Nat) (r : ZRow) (odds suit s : Nat) : Prop := (∃ x, SDc M1 14 (zat (zbase r) 12 x)) ∧ (∀ i, i < r 0 → M1 74 i = nI (zalone r odds suit i)) ∧ (∀ x, x < s → M1 73 x = nI (zglad r odds suit x)) ∧ M1 71 0 = nI 1 ∧ M1 71 1 = nI odds ∧ M1 71 2 = nI suit ∧ M1 71 3 = nI (zrf r odds suit s).length ∧ (∀ k, k < (zrf r odds suit s).length → M1 72 k = nI ((zrf r odds suit s).getD k 0)) ∧ (∀ k, zkeep k → M1 k = M k) ∧ M1 57 7 = M 57 7 ∧ M1 57 8 = M 57 8 ∧ ∀ k, 77 ≤ k → M1 k = M k
theorem weigh5 {M : ZMem} {r : ZRow} {odds suit s n : Nat} (hg : GD r) (hs : s < 2 ^ r 0) (ho : odds ≤ 100) (h69 : ∀ i, i < 10 → M 69 i = nI (zpaid (zifOut r s) i)) (h74 : ∀ i, i < r 0 → M 74 i = nI (zalone r odds suit i)) (hn : 20 < n) : ∃ M1, zf_X5_weigh n (nI (r 0)) (nI s) M = some (zB (zallF (zcalm r odds suit s) (r 0) 0), M1) ∧ M1 73 s = nI (zglad r odds suit s) ∧ (∀ x, x ≠ s → M1 73 x = M 73 x) ∧ ∀ k, k ≠ 73 → M1 k = M k := by
  have hw := hg.1
  have hb := hw.b
  have key : ∀ d i m b S, i + d = r 0 → d < m → S 73 s = nI (zset (fun i => !s.testBit i && decide (zalone r odds suit i < zpaid (zifOut r s) i)) i) → (∀ x, x ≠ s → S 73 x = M 73 x) → (∀ k, k ≠ 73 → S k = M k) → ∃ M1, zf_X5_weigh_L13 (nI (r 0)) (nI s) (fun v46 M47 => zbz v46 (some (v46, M47))) m (zB b) (nI i) S = some (zB (b && zallF (zcalm r odds suit s) d i), M1) ∧ M1 73 s = nI (zglad r odds suit s) ∧ (∀ x, x ≠ s → M1 73 x = M 73 x) ∧ ∀ k, k ≠ 73 → M1 k = M k := by
    intro d
    induction d with
    | zero =>
      intro i m b S hi hm h1 h2 h3
      obtain ⟨m, rfl⟩ : ∃ y, m = y + 1 := ⟨m - 1, by omega⟩
      obtain rfl : i = r 0 := by omega
      refine ⟨S, ?_, h1, h2, h3⟩
      rw [zf_X5_weigh_L13, zi_le (by omega) (by omega), if_pos (Nat.le_refl _), ev_zB]
      unfold zallF
      rw [Bool.and_true]
    | succ d ih =>
      intro i m b S hi hm h1 h2 h3
      obtain ⟨m, rfl⟩ : ∃ y, m = y + 1 := ⟨m - 1, by omega⟩
      have hi' : i < r 0 := by omega
      have c69 : S 69 i = nI (zpaid (zifOut r s) i) := by rw [h3 69 (by omega)]; exact h69 i (by omega)
      have c74 : S 74 i = nI (zalone r odds suit i) := by rw [h3 74 (by omega)]; exact h74 i hi'
      have bp := zifOut_b hg hs hi'
      have ba := zalone_le hw (suit := suit) ho hi'
      have ez : zset (fun i => !s.testBit i && decide (zalone r odds suit i < zpaid (zifOut r s) i)) (i + 1) = if (!s.testBit i && decide (zalone r odds suit i < zpaid (zifOut r s) i)) = true then zset (fun i => !s.testBit i && decide (zalone r odds suit i < zpaid (zifOut r s) i)) i ||| 2 ^ i else zset (fun i => !s.testBit i && decide (zalone r odds suit i < zpaid (zifOut r s) i)) i := rfl
      rw [zallF_s, ← Bool.and_assoc]
      by_cases g1 : s.testBit i = true
      · have e1 : zcalm r odds suit s i = true := by unfold zcalm; rw [g1, Bool.true_or]
        rw [e1, Bool.and_true]
        obtain ⟨M1, f1, f2⟩ := ih (i + 1) m b S (by omega) (by omega) (by rw [ez, g1, if_neg (by simp)]; exact h1) h2 h3
        refine ⟨M1, f1 ▸ ?_, f2⟩
        simp (disch := (first | assumption | omega)) only [zf_X5_weigh_L13, zf_X5_weigh_j87, zlp, ↓ev_ifB, ↓ev_iflt, ↓ev_ifle, ↓ev_ifeq, ↓ifp, ↓ifn, ↓ev_b1, ↓ev_b2, ↓ev_put, ↓ev_z0, ↓ev_z1, ↓ev_zB, ↓ev_has9, ↓ev_has10, ↓ev_shl, ↓ev_bit, ↓ev_in, ↓ev_inG, ↓ev_rd, ↓ev_st, decide_eq_true_eq, nI_add, ev_sub, pk_mul, nI_or, nI_xor, zBt, zBf, if_true, if_false, eq_self, Bool.false_eq_true]
      · have g1' : s.testBit i = false := by simpa using g1
        have e1 : zcalm r odds suit s i = decide (zalone r odds suit i ≤ zpaid (zifOut r s) i) := by unfold zcalm; rw [g1', Bool.false_or]
        rw [e1]
        by_cases g2 : zalone r odds suit i < zpaid (zifOut r s) i
        · have hor : zset (fun i => !s.testBit i && decide (zalone r odds suit i < zpaid (zifOut r s) i)) (i + 1) = zset (fun i => !s.testBit i && decide (zalone r odds suit i < zpaid (zifOut r s) i)) i ||| 2 ^ i := by rw [ez, if_pos (by rw [g1', decide_eq_true g2]; rfl)]
          rw [decide_eq_true (show zalone r odds suit i ≤ zpaid (zifOut r s) i by omega), Bool.and_true]
          obtain ⟨M1, f1, f2⟩ := ih (i + 1) m b (zwr S 73 s (nI (zset (fun i => !s.testBit i && decide (zalone r odds suit i < zpaid (zifOut r s) i)) i ||| 2 ^ i))) (by omega) (by omega) (by rw [wre, hor]) (fun x hx => by rw [wrj hx]; exact h2 x hx) (fun k hk => by rw [wrn hk]; exact h3 k hk)
          have w69 : zwr S 73 s (nI (zset (fun i => !s.testBit i && decide (zalone r odds suit i < zpaid (zifOut r s) i)) i ||| 2 ^ i)) 69 i = nI (zpaid (zifOut r s) i) := by rw [wrn (by omega)]; exact c69
          have w74 : zwr S 73 s (nI (zset (fun i => !s.testBit i && decide (zalone r odds suit i < zpaid (zifOut r s) i)) i ||| 2 ^ i)) 74 i = nI (zalone r odds suit i) := by rw [wrn (by omega)]; exact c74
          refine ⟨M1, f1 ▸ ?_, f2⟩
          cases b with
          | true => simp (disch := (first | assumption | omega)) only [zf_X5_weigh_L13, zf_X5_weigh_j87, zf_X5_weigh_j85, zf_X5_weigh_j84, zf_X5_weigh_j58, zlp, ↓ev_ifB, ↓ev_iflt, ↓ev_ifle, ↓ev_ifeq, ↓ifp, ↓ifn, ↓ev_b1, ↓ev_b2, ↓ev_put, ↓ev_z0, ↓ev_z1, ↓ev_zB, ↓ev_has9, ↓ev_has10, ↓ev_shl, ↓ev_bit, ↓ev_in, ↓ev_inG, ↓ev_rd, ↓ev_st, decide_eq_true_eq, nI_add, ev_sub, pk_mul, nI_or, nI_xor, zBt, zBf, if_true, if_false, eq_self, Bool.false_eq_true, c69, c74, h1, w69, w74]
          | false => simp (disch := (first | assumption | omega)) only [zf_X5_weigh_L13, zf_X5_weigh_j87, zf_X5_weigh_j85, zf_X5_weigh_j84, zf_X5_weigh_j58, zlp, ↓ev_ifB, ↓ev_iflt, ↓ev_ifle, ↓ev_ifeq, ↓ifp, ↓ifn, ↓ev_b1, ↓ev_b2, ↓ev_put, ↓ev_z0, ↓ev_z1, ↓ev_zB, ↓ev_has9, ↓ev_has10, ↓ev_shl, ↓ev_bit, ↓ev_in, ↓ev_inG, ↓ev_rd, ↓ev_st, decide_eq_true_eq, nI_add, ev_sub, pk_mul, nI_or, nI_xor, zBt, zBf, if_true, if_false, eq_self, Bool.false_eq_true, c69, c74, h1, w69, w74]
        · have hor : zset (fun i => !s.testBit i && decide (zalone r odds suit i < zpaid (zifOut r s) i)) (i + 1) = zset (fun i => !s.testBit i && decide (zalone r odds suit i < zpaid (zifOut r s) i)) i := by rw [ez, if_neg (by rw [decide_eq_false g2]; simp)]
          by_cases g3 : zalone r odds suit i ≤ zpaid (zifOut r s) i
          · rw [decide_eq_true g3, Bool.and_true]
            obtain ⟨M1, f1, f2⟩ := ih (i + 1) m b S (by omega) (by omega) (by rw [hor]; exact h1) h2 h3
            refine ⟨M1, f1 ▸ ?_, f2⟩
            cases b with
            | true => simp (disch := (first | assumption | omega)) only [zf_X5_weigh_L13, zf_X5_weigh_j87, zf_X5_weigh_j85, zf_X5_weigh_j84, zf_X5_weigh_j58, zlp, ↓ev_ifB, ↓ev_iflt, ↓ev_ifle, ↓ev_ifeq, ↓ifp, ↓ifn, ↓ev_b1, ↓ev_b2, ↓ev_put, ↓ev_z0, ↓ev_z1, ↓ev_zB, ↓ev_has9, ↓ev_has10, ↓ev_shl, ↓ev_bit, ↓ev_in, ↓ev_inG, ↓ev_rd, ↓ev_st, decide_eq_true_eq, nI_add, ev_sub, pk_mul, nI_or, nI_xor, zBt, zBf, if_true, if_false, eq_self, Bool.false_eq_true, c69, c74]
            | false => simp (disch := (first | assumption | omega)) only [zf_X5_weigh_L13, zf_X5_weigh_j87, zf_X5_weigh_j85, zf_X5_weigh_j84, zf_X5_weigh_j58, zlp, ↓ev_ifB, ↓ev_iflt, ↓ev_ifle, ↓ev_ifeq, ↓ifp, ↓ifn, ↓ev_b1, ↓ev_b2, ↓ev_put, ↓ev_z0, ↓ev_z1, ↓ev_zB, ↓ev_has9, ↓ev_has10, ↓ev_shl, ↓ev_bit, ↓ev_in, ↓ev_inG, ↓ev_rd, ↓ev_st, decide_eq_true_eq, nI_add, ev_sub, pk_mul, nI_or, nI_xor, zBt, zBf, if_true, if_false, eq_self, Bool.false_eq_true, c69, c74]
          · rw [decide_eq_false g3, Bool.and_false]
            obtain ⟨M1, f1, f2⟩ := ih (i + 1) m false S (by omega) (by omega) (by rw [hor]; exact h1) h2 h3
            refine ⟨M1, f1 ▸ ?_, f2⟩
            cases b with
            | true => simp (disch := (first | assumption | omega)) only [zf_X5_weigh_L13, zf_X5_weigh_j87, zf_X5_weigh_j85, zf_X5_weigh_j84, zf_X5_weigh_j58, zlp, ↓ev_ifB, ↓ev_iflt, ↓ev_ifle, ↓ev_ifeq, ↓ifp, ↓ifn, ↓ev_b1, ↓ev_b2, ↓ev_put, ↓ev_z0, ↓ev_z1, ↓ev_zB, ↓ev_has9, ↓ev_has10, ↓ev_shl, ↓ev_bit, ↓ev_in, ↓ev_inG, ↓ev_rd, ↓ev_st, decide_eq_true_eq, nI_add, ev_sub, pk_mul, nI_or, nI_xor, zBt, zBf, if_true, if_false, eq_self, Bool.false_eq_true, c69, c74]
            | false => simp (disch := (first | assumption | omega)) only [zf_X5_weigh_L13, zf_X5_weigh_j87, zf_X5_weigh_j85, zf_X5_weigh_j84, zf_X5_weigh_j58, zlp, ↓ev_ifB, ↓ev_iflt, ↓ev_ifle, ↓ev_ifeq, ↓ifp, ↓ifn, ↓ev_b1, ↓ev_b2, ↓ev_put, ↓ev_z0, ↓ev_z1, ↓ev_zB, ↓ev_has9, ↓ev_has10, ↓ev_shl, ↓ev_bit, ↓ev_in, ↓ev_inG, ↓ev_rd, ↓ev_st, decide_eq_true_eq, nI_add, ev_sub, pk_mul, nI_or, nI_xor, zBt, zBf, if_true, if_false, eq_self, Bool.false_eq_true, c69, c74]
  obtain ⟨M1, f1, f2⟩ := key (r 0) 0 n true (zwr M 73 s (nI 0)) (by omega) (by omega) (by rw [wre]; rfl) (fun x hx => wrj hx) (fun k hk => wrn hk)
  rw [Bool.true_and] at f1
  refine ⟨M1, ?_, f2⟩
  have f1' : zf_X5_weigh_L13 (nI (r 0)) (nI s) (fun v46 M47 => zbz v46 (some (v46, M47))) n (nI 1) (nI 0) (zwr M 73 s (nI 0)) = some (zB (zallF (zcalm r odds suit s) (r 0) 0), M1) := f1
  simp (disch := (first | assumption | omega)) only [zf_X5_weigh, zlp, ↓ev_st, f1']
theorem comes5 {M : ZMem} {r : ZRow} {odds suit s n : Nat} (hw : WF r) (hs : s < 2 ^ r 0) (h73 : ∀ x, x ≤ s → M 73 x = nI (zglad r odds suit x)) (hn : 20 < n) : zf_X5_noneComesIn n (nI (r 0)) (nI s) M = some (zB (zallF (znone r odds suit s) (r 0) 0)) := by
  have hb := hw.b
  have key : ∀ d i m, i + d = r 0 → d < m → zf_X5_noneComesIn_L2 (nI (r 0)) (nI s) M (some (nI 1)) m (nI i) = some (zB (zallF (znone r odds suit s) d i)) := by
    intro d
    induction d with
    | zero =>
      intro i m hi hm
      obtain ⟨m, rfl⟩ : ∃ y, m = y + 1 := ⟨m - 1, by omega⟩
      rw [zf_X5_noneComesIn_L2, zi_le (by omega) (by omega), if_pos (by omega)]
      rfl
    | succ d ih =>
      intro i m hi hm
      obtain ⟨m, rfl⟩ : ∃ y, m = y + 1 := ⟨m - 1, by omega⟩
      have e := ih (i + 1) m (by omega) (by omega)
      rw [zallF_s]
      by_cases g1 : s.testBit i = true
      · have hlt : s ^^^ 2 ^ i < 2 ^ r 0 := Nat.xor_lt_two_pow hs (zpow_lt (by omega))
        have hle : s ^^^ 2 ^ i ≤ s := by
          have h1 : s = (s ^^^ 2 ^ i) ||| 2 ^ i := by
            apply Nat.eq_of_testBit_eq
            intro j
            rw [Nat.testBit_or, Nat.testBit_xor, Nat.testBit_two_pow]
            by_cases ej : i = j
            · subst ej; rw [g1]; simp
            · simp [ej]
          have h2 : s ^^^ 2 ^ i ≤ (s ^^^ 2 ^ i) ||| 2 ^ i := Nat.left_le_or
          omega
        have c73 := h73 (s ^^^ 2 ^ i) hle
        have hgl := zglad_lt (odds := odds) (suit := suit) (s := s ^^^ 2 ^ i) hw.1
        by_cases g2 : (zglad r odds suit (s ^^^ 2 ^ i)).testBit i = true
        · have e2 : znone r odds suit s i = false := by unfold znone; rw [g1, g2]; rfl
          rw [e2, Bool.false_and]
          simp (disch := (first | assumption | omega)) only [zf_X5_noneComesIn_L2, zf_X5_noneComesIn_j34, zlp, ↓ev_ifB, ↓ev_iflt, ↓ev_ifle, ↓ev_ifeq, ↓ifp, ↓ifn, ↓ev_b1, ↓ev_b2, ↓ev_put, ↓ev_z0, ↓ev_z1, ↓ev_zB, ↓ev_has9, ↓ev_has10, ↓ev_shl, ↓ev_bit, ↓ev_in, ↓ev_inG, ↓ev_rd, ↓ev_st, decide_eq_true_eq, nI_add, ev_sub, pk_mul, nI_or, nI_xor, zBt, zBf, if_true, if_false, eq_self, Bool.false_eq_true, c73]
        · have e2 : znone r odds suit s i = true := by unfold znone; simp [g2]
          rw [e2, Bool.true_and, ← e]
          simp (disch := (first | assumption | omega)) only [zf_X5_noneComesIn_L2, zf_X5_noneComesIn_j34, zlp, ↓ev_ifB, ↓ev_iflt, ↓ev_ifle, ↓ev_ifeq, ↓ifp, ↓ifn, ↓ev_b1, ↓ev_b2, ↓ev_put, ↓ev_z0, ↓ev_z1, ↓ev_zB, ↓ev_has9, ↓ev_has10, ↓ev_shl, ↓ev_bit, ↓ev_in, ↓ev_inG, ↓ev_rd, ↓ev_st, decide_eq_true_eq, nI_add, ev_sub, pk_mul, nI_or, nI_xor, zBt, zBf, if_true, if_false, eq_self, Bool.false_eq_true, c73]
      · have e2 : znone r odds suit s i = true := by unfold znone; simp [g1]
        rw [e2, Bool.true_and, ← e]
        simp (disch := (first | assumption | omega)) only [zf_X5_noneComesIn_L2, zf_X5_noneComesIn_j34, zlp, ↓ev_ifB, ↓ev_iflt, ↓ev_ifle, ↓ev_ifeq, ↓ifp, ↓ifn, ↓ev_b1, ↓ev_b2, ↓ev_put, ↓ev_z0, ↓ev_z1, ↓ev_zB, ↓ev_has9, ↓ev_has10, ↓ev_shl, ↓ev_bit, ↓ev_in, ↓ev_inG, ↓ev_rd, ↓ev_st, decide_eq_true_eq, nI_add, ev_sub, pk_mul, nI_or, nI_xor, zBt, zBf, if_true, if_false, eq_self, Bool.false_eq_true]
  exact key (r 0) 0 n (by omega) (by omega)
