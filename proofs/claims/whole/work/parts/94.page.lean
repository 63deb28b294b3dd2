/-! LAYER 2: texts that are written -/
def PG9 (M : ZMem) (l : List Nat) : Prop := M 75 1 = nI l.length ∧ ∀ k, k < l.length → M 76 k = nI (l.getD k 0)
def PG10 (M : ZMem) (l : List Nat) : Prop := M 77 36 = nI l.length ∧ ∀ k, k < l.length → M 93 k = nI (l.getD k 0)
def FB9 (M M' : ZMem) : Prop := ∀ k, k ≠ 75 → k ≠ 76 → M' k = M k
def FB10 (M M' : ZMem) : Prop := (∀ k, k ≠ 77 → k ≠ 93 → M' k = M k) ∧ ∀ j, j ≠ 36 → M' 77 j = M 77 j
theorem fb9_refl (M : ZMem) : FB9 M M := fun _ _ _ => rfl
theorem fb9_trans {A B C : ZMem} (h : FB9 A B) (g : FB9 B C) : FB9 A C := fun k a b => (g k a b).trans (h k a b)
theorem fb10_refl (M : ZMem) : FB10 M M := ⟨fun _ _ _ => rfl, fun _ _ => rfl⟩
theorem fb10_trans {A B C : ZMem} (h : FB10 A B) (g : FB10 B C) : FB10 A C := ⟨fun k a b => (g.1 k a b).trans (h.1 k a b), fun j a => (g.2 j a).trans (h.2 j a)⟩
theorem fb9_f9 {A B : ZMem} (h : FB9 A B) : F9 A B := ⟨fun k hk => h k (by unfold zkeep at hk; omega) (by unfold zkeep at hk; omega), by rw [h 57 (by omega) (by omega)], by rw [h 57 (by omega) (by omega)], h 71 (by omega) (by omega), h 72 (by omega) (by omega), fun k hk => h k (by omega) (by omega)⟩
theorem fb10_f10 {A B : ZMem} (h : FB10 A B) : F10 A B := ⟨fun k hk => h.1 k (by omega) (by omega), h.1 78 (by omega) (by omega), h.1 80 (by omega) (by omega), h.1 81 (by omega) (by omega), h.1 82 (by omega) (by omega), h.1 83 (by omega) (by omega), h.1 84 (by omega) (by omega), h.2 4 (by omega), h.2 6 (by omega), h.2 16 (by omega)⟩
theorem zbyte7 : ∀ b, b < 128 → vp_nar .byte ((nI b).toInt8.toInt32) = nI b := by decide +kernel
theorem putB9 {M : ZMem} {l : List Nat} {b : Nat} (h : PG9 M l) (hl : l.length < 1024) (hb : b < 128) : ∃ M', zf_X2_putByte (nI b) M = some M' ∧ PG9 M' (l ++ [b]) ∧ FB9 M M' := by
  obtain ⟨h1, h2⟩ := h
  have hz := zbyte7 b hb
  refine ⟨zwr (zwr M 76 l.length (nI b)) 75 1 (nI (l.length + 1)), ?_, ⟨by rw [wre, zlen_1], fun k hk => ?_⟩, fun k x y => by rw [wrn x, wrn y]⟩
  · have w : zwr M 76 l.length (nI b) 75 1 = nI l.length := by rw [wrn (by omega)]; exact h1
    simp (disch := (first | assumption | omega)) only [zf_X2_putByte, zf_X2_putByte_j31, zlp, h1, hz, ↓ev_ifB, ↓ev_iflt, ↓ev_ifle, ↓ev_ifeq, ↓ifp, ↓ifn, ↓ev_b1, ↓ev_b2, ↓ev_put, ↓ev_z0, ↓ev_z1, ↓ev_zB, ↓ev_has9, ↓ev_has10, ↓ev_shl, ↓ev_bit, ↓ev_in, ↓ev_inG, ↓ev_rd, ↓ev_st, decide_eq_true_eq, nI_add, ev_sub, pk_mul, nI_or, nI_xor, zBt, zBf, if_true, if_false, eq_self, Bool.false_eq_true, w]
  · rw [zlen_1] at hk
    rw [wrn (by omega)]
    by_cases e : k = l.length
    · rw [e, wre, zgetD_r]
    · rw [wrj e, zgetD_l (by omega)]; exact h2 k (by omega)
theorem putB10 {M : ZMem} {l : List Nat} {b : Nat} (h : PG10 M l) (hl : l.length < 2000) : ∃ M', zf_X10_spellsByte (nI b) M = some M' ∧ PG10 M' (l ++ [b]) ∧ FB10 M M' := by
  obtain ⟨h1, h2⟩ := h
  refine ⟨zwr (zwr M 93 l.length (nI b)) 77 36 (nI (l.length + 1)), ?_, ⟨by rw [wre, zlen_1], fun k hk => ?_⟩, fun k x y => by rw [wrn x, wrn y], fun j x => by rw [wrj x, wrn (by omega)]⟩
  · have w : zwr M 93 l.length (nI b) 77 36 = nI l.length := by rw [wrn (by omega)]; exact h1
    simp (disch := (first | assumption | omega)) only [zf_X10_spellsByte, zlp, h1, ↓ev_ifB, ↓ev_iflt, ↓ev_ifle, ↓ev_ifeq, ↓ifp, ↓ifn, ↓ev_b1, ↓ev_b2, ↓ev_put, ↓ev_z0, ↓ev_z1, ↓ev_zB, ↓ev_has9, ↓ev_has10, ↓ev_shl, ↓ev_bit, ↓ev_in, ↓ev_inG, ↓ev_rd, ↓ev_st, decide_eq_true_eq, nI_add, ev_sub, pk_mul, nI_or, nI_xor, zBt, zBf, if_true, if_false, eq_self, Bool.false_eq_true, w]
  · rw [zlen_1] at hk
    rw [wrn (by omega)]
    by_cases e : k = l.length
    · rw [e, wre, zgetD_r]
    · rw [wrj e, zgetD_l (by omega)]; exact h2 k (by omega)
/-- the words -/
def zwds : List (List Nat) := [[102, 117, 110, 100], [102, 101, 101], [108, 101, 97, 115, 116], [116, 105, 108, 108], [112, 101, 114, 105, 111, 100], [99, 104, 97, 110, 110, 101, 108], [109, 101, 109, 98, 101, 114], [99, 111, 110, 102, 108, 105, 99, 116], [98, 121], [59], [32, 98, 121], [112, 97, 105, 100], [110, 101, 120, 116]]
def zwd (s : Nat) : List Nat := zwds.getD s []
theorem zwd_len : ∀ s, s < 13 → (zwd s).length = zLen.getD s 0 ∧ (zwd s).length ≤ 8 := by decide +kernel
theorem zwd_byt : ∀ s, s < 13 → ∀ j, j < 8 → j < (zwd s).length → (zByt.getD s []).getD j 0 = nI ((zwd s).getD j 0) ∧ (zwd s).getD j 0 < 128 := by decide +kernel
theorem zslen_at {β : Type} {s : Nat} (hs : s < 13) (K : Int32 → Option β) : zslen s K = K (nI (zwd s).length) := by
  unfold zslen
  rw [if_pos (show s < zNs from hs), (zwd_len s hs).1]
theorem zschr_at {β : Type} {s j : Nat} (hs : s < 13) (hj : j < (zwd s).length) (K : Int32 → Option β) : zschr s (nI j) K = K (nI ((zwd s).getD j 0)) := by
  obtain ⟨z1, z2⟩ := zwd_len s hs
  unfold zschr
  rw [nI_clamp (by omega), if_pos ⟨hs, nI_pos (by omega), by omega⟩, (zwd_byt s hs j (by omega) hj).1]
theorem take_s {l : List Nat} {j : Nat} (h : j < l.length) : l.take (j + 1) = l.take j ++ [l.getD j 0] := by
  rw [List.getD_eq_getElem?_getD, List.take_add_one, List.getElem?_eq_getElem h]
  rfl
theorem putT9 {M : ZMem} {l : List Nat} {s n : Nat} (hs : s < 13) (h : PG9 M l) (hl : l.length + 8 ≤ 1024) (hn : 20 < n) : ∃ M', zf_X2_putText n s M = some M' ∧ PG9 M' (l ++ zwd s) ∧ FB9 M M' := by
  obtain ⟨z1, z2⟩ := zwd_len s hs
  have hNs : s < zNs := hs
  have key : ∀ d j m S, j + d = (zwd s).length → d < m → PG9 S (l ++ (zwd s).take j) → FB9 M S → ∃ M', zf_X2_putText_L2 s (fun M30 => some M30) m (nI j) S = some M' ∧ PG9 M' (l ++ zwd s) ∧ FB9 M M' := by
    intro d
    induction d with
    | zero =>
      intro j m S hj hm hP hF
      obtain ⟨m, rfl⟩ : ∃ y, m = y + 1 := ⟨m - 1, by omega⟩
      refine ⟨S, ?_, ?_, hF⟩
      · rw [zf_X2_putText_L2, zslen_at hs, zi_le (by omega) (by omega), if_pos (by omega)]
      · rw [List.take_of_length_le (by omega)] at hP
        exact hP
    | succ d ih =>
      intro j m S hj hm hP hF
      obtain ⟨m, rfl⟩ : ∃ y, m = y + 1 := ⟨m - 1, by omega⟩
      obtain ⟨b1, b2⟩ := zwd_byt s hs j (by omega) (by omega)
      have hll : (l ++ (zwd s).take j).length < 1024 := by
        rw [List.length_append, List.length_take]
        omega
      obtain ⟨M1, e1, e2, e3⟩ := putB9 (b := (zwd s).getD j 0) hP hll b2
      rw [List.append_assoc, ← take_s (by omega)] at e2
      obtain ⟨M2, f1, f2, f3⟩ := ih (j + 1) m M1 (by omega) (by omega) e2 (fb9_trans hF e3)
      refine ⟨M2, ?_, f2, f3⟩
      rw [zf_X2_putText_L2, zslen_at hs, zi_le (by omega) (by omega), if_neg (by omega), zschr_at hs (by omega), zb1_at e1, nI_1]
      exact f1
  unfold zf_X2_putText
  exact key (zwd s).length 0 n M (by omega) (by omega) (by rw [List.take_zero, List.append_nil]; exact h) (fb9_refl M)
/-- a number's digits from a unit on -/
def zdig (v : Nat) : Nat → List Nat
  | 0 => []
  | u + 1 => if 10 ^ u ≤ v ∨ u = 0 then (48 + v / 10 ^ u % 10) :: zdig v u else zdig v u
theorem zdig_s (v u : Nat) : zdig v (u + 1) = if 10 ^ u ≤ v ∨ u = 0 then (48 + v / 10 ^ u % 10) :: zdig v u else zdig v u := rfl
def znum (v : Nat) : List Nat := 32 :: zdig v 5
theorem zdig_len (v : Nat) : ∀ u, (zdig v u).length ≤ u
  | 0 => Nat.le_refl _
  | u + 1 => by
    have := zdig_len v u
    rw [zdig_s]
    split
    · rw [List.length_cons]; omega
    · omega
theorem zdig_low {v k : Nat} (hk : 1 ≤ k) (h : v < 10 ^ k) : ∀ u, k ≤ u → zdig v u = zdig v k
  | 0, hu => by rw [show k = 0 by omega]
  | u + 1, hu => by
    by_cases e : k = u + 1
    · rw [e]
    · have hp : 10 ^ k ≤ 10 ^ u := Nat.pow_le_pow_right (by decide) (by omega)
      rw [zdig_s, if_neg (by omega), zdig_low hk h u (by omega)]
theorem znum_len {v k : Nat} (hk : 1 ≤ k) (hk5 : k ≤ 5) (h : v < 10 ^ k) : (znum v).length ≤ k + 1 := by
  unfold znum
  rw [List.length_cons, zdig_low hk h 5 hk5]
  have := zdig_len v k
  omega
theorem znum_len6 (v : Nat) : (znum v).length ≤ 6 := by
  unfold znum
  rw [List.length_cons]
  have := zdig_len v 5
  omega
theorem z10 : ∀ u, u < 6 → 10 ^ u ≤ 100000 ∧ 0 < 10 ^ u := by decide
theorem putN9 {M : ZMem} {l : List Nat} {v n : Nat} (hv : v ≤ 99999) (h : PG9 M l) (hl : l.length + 6 ≤ 1024) (hn : 20 < n) : ∃ M', zf_X2_putNumber n (nI v) M = some M' ∧ PG9 M' (l ++ znum v) ∧ FB9 M M' := by
  have key : ∀ u m S l2, u ≤ 5 → u < m → PG9 S l2 → l2.length + u ≤ 1024 → FB9 M S → ∃ M', zf_X2_putNumber_L10 (nI v) (fun M30 => some M30) m (if u = 0 then nI 0 else nI (10 ^ (u - 1))) S = some M' ∧ PG9 M' (l2 ++ zdig v u) ∧ FB9 M M' := by
    intro u
    induction u with
    | zero =>
      intro m S l2 hu hm hP hl2 hF
      obtain ⟨m, rfl⟩ : ∃ y, m = y + 1 := ⟨m - 1, by omega⟩
      refine ⟨S, ?_, ?_, hF⟩
      · rw [if_pos rfl, zf_X2_putNumber_L10]
        rfl
      · show PG9 S (l2 ++ [])
        rw [List.append_nil]; exact hP
    | succ u ih =>
      intro m S l2 hu hm hP hl2 hF
      obtain ⟨m, rfl⟩ : ∃ y, m = y + 1 := ⟨m - 1, by omega⟩
      obtain ⟨p1, p2⟩ := z10 u (by omega)
      have hunit : nI (10 ^ u) / nI 10 = if u = 0 then nI 0 else nI (10 ^ (u - 1)) := by
        rw [pk_div (by omega) (by omega) (by omega)]
        by_cases e : u = 0
        · subst e; rfl
        · rw [if_neg e]
          congr 1
          obtain ⟨w, rfl⟩ : ∃ y, u = y + 1 := ⟨u - 1, by omega⟩
          rw [Nat.pow_succ, Nat.mul_div_cancel _ (by omega)]
          rfl
      have hdl : v / 10 ^ u ≤ v := Nat.div_le_self _ _
      have hrem : nI (v / 10 ^ u) - nI (v / 10 ^ u) / nI 10 * nI 10 = nI (v / 10 ^ u % 10) := pk_rem (by omega) (by omega) (by omega)
      have hmod : v / 10 ^ u % 10 < 10 := Nat.mod_lt _ (by omega)
      rw [if_neg (by omega), show u + 1 - 1 = u by omega, zdig_s]
      by_cases g : 10 ^ u ≤ v ∨ u = 0
      · rw [if_pos g]
        obtain ⟨M1, e1, e2, e3⟩ := putB9 (b := 48 + v / 10 ^ u % 10) hP (by omega) (by omega)
        obtain ⟨M2, f1, f2, f3⟩ := ih m M1 (l2 ++ [48 + v / 10 ^ u % 10]) (by omega) (by omega) e2 (by rw [zlen_1]; omega) (fb9_trans hF e3)
        rw [List.append_assoc] at f2
        refine ⟨M2, ?_, f2, f3⟩
        rw [← hunit] at f1
        have j24 : zf_X2_putNumber_j24 (nI v) (nI (10 ^ u)) S (fun x0 x1 => zf_X2_putNumber_L10 (nI v) (fun M30 => some M30) m x0 x1) = some M2 := by
          simp (disch := (first | assumption | omega)) only [zf_X2_putNumber_j24, zf_X2_putNumber_j37, zlp, ↓ev_div2, hrem, nI_add, ↓zb1_at e1, f1]
        by_cases g1 : 10 ^ u ≤ v
        · simp (disch := (first | assumption | omega)) only [zf_X2_putNumber_L10, zlp, ↓ev_ifB, ↓ev_iflt, ↓ev_ifle, ↓ev_ifeq, ↓ifp, ↓ifn, ↓ev_b1, ↓ev_b2, ↓ev_put, ↓ev_z0, ↓ev_z1, ↓ev_zB, ↓ev_has9, ↓ev_has10, ↓ev_shl, ↓ev_bit, ↓ev_in, ↓ev_inG, ↓ev_rd, ↓ev_st, decide_eq_true_eq, nI_add, ev_sub, pk_mul, nI_or, nI_xor, zBt, zBf, if_true, if_false, eq_self, Bool.false_eq_true, j24]
        · have g0 : u = 0 := by omega
          have e10 : 10 ^ u = 1 := by rw [g0]
          simp (disch := (first | assumption | omega)) only [zf_X2_putNumber_L10, zlp, ↓ev_ifB, ↓ev_iflt, ↓ev_ifle, ↓ev_ifeq, ↓ifp, ↓ifn, ↓ev_b1, ↓ev_b2, ↓ev_put, ↓ev_z0, ↓ev_z1, ↓ev_zB, ↓ev_has9, ↓ev_has10, ↓ev_shl, ↓ev_bit, ↓ev_in, ↓ev_inG, ↓ev_rd, ↓ev_st, decide_eq_true_eq, nI_add, ev_sub, pk_mul, nI_or, nI_xor, zBt, zBf, if_true, if_false, eq_self, Bool.false_eq_true, j24]
      · rw [if_neg g]
        obtain ⟨M2, f1, f2, f3⟩ := ih m S l2 (by omega) (by omega) hP (by omega) hF
        refine ⟨M2, ?_, f2, f3⟩
        rw [← hunit] at f1
        have e10 : 10 ^ u ≠ 1 := by
          obtain ⟨w, rfl⟩ : ∃ y, u = y + 1 := ⟨u - 1, by omega⟩
          have := (z10 w (by omega)).2
          rw [Nat.pow_succ]
          omega
        simp (disch := (first | assumption | omega)) only [zf_X2_putNumber_L10, zf_X2_putNumber_j37, zlp, ↓ev_ifB, ↓ev_iflt, ↓ev_ifle, ↓ev_ifeq, ↓ifp, ↓ifn, ↓ev_b1, ↓ev_b2, ↓ev_put, ↓ev_z0, ↓ev_z1, ↓ev_zB, ↓ev_has9, ↓ev_has10, ↓ev_shl, ↓ev_bit, ↓ev_in, ↓ev_inG, ↓ev_rd, ↓ev_st, decide_eq_true_eq, nI_add, ev_sub, pk_mul, nI_or, nI_xor, zBt, zBf, if_true, if_false, eq_self, Bool.false_eq_true, f1]
  obtain ⟨M1, e1, e2, e3⟩ := putB9 (b := 32) h (by omega) (by omega)
  obtain ⟨M2, f1, f2, f3⟩ := key 5 n M1 (l ++ [32]) (by omega) (by omega) e2 (by rw [zlen_1]; omega) e3
  rw [List.append_assoc] at f2
  refine ⟨M2, ?_, f2, f3⟩
  unfold zf_X2_putNumber
  refine (zb1_at e1).trans ?_
  exact f1
theorem spN10 {M : ZMem} {l : List Nat} {v n : Nat} (hv : v ≤ 99999) (h : PG10 M l) (hl : l.length + 6 ≤ 2000) (hn : 20 < n) : ∃ M', zf_X10_spellsNumber n (nI v) M = some M' ∧ PG10 M' (l ++ znum v) ∧ FB10 M M' := by
  have key : ∀ u m S l2, u ≤ 5 → u < m → (u ≤ 1 ∨ 10 ^ (u - 1) ≤ v) → PG10 S l2 → l2.length + u ≤ 2000 → FB10 M S → ∃ M', zf_X10_spellsNumber_L24 (nI v) (fun M32 => some M32) m (if u = 0 then nI 0 else nI (10 ^ (u - 1))) S = some M' ∧ PG10 M' (l2 ++ zdig v u) ∧ FB10 M M' := by
    intro u
    induction u with
    | zero =>
      intro m S l2 hu hm hle hP hl2 hF
      obtain ⟨m, rfl⟩ : ∃ y, m = y + 1 := ⟨m - 1, by omega⟩
      refine ⟨S, ?_, ?_, hF⟩
      · rw [if_pos rfl, zf_X10_spellsNumber_L24]
        rfl
      · show PG10 S (l2 ++ [])
        rw [List.append_nil]; exact hP
    | succ u ih =>
      intro m S l2 hu hm hle hP hl2 hF
      obtain ⟨m, rfl⟩ : ∃ y, m = y + 1 := ⟨m - 1, by omega⟩
      obtain ⟨p1, p2⟩ := z10 u (by omega)
      have hunit : nI (10 ^ u) / nI 10 = if u = 0 then nI 0 else nI (10 ^ (u - 1)) := by
        rw [pk_div (by omega) (by omega) (by omega)]
        by_cases e : u = 0
        · subst e; rfl
        · rw [if_neg e]
          congr 1
          obtain ⟨w, rfl⟩ : ∃ y, u = y + 1 := ⟨u - 1, by omega⟩
          rw [Nat.pow_succ, Nat.mul_div_cancel _ (by omega)]
          rfl
      have hdl : v / 10 ^ u ≤ v := Nat.div_le_self _ _
      have hrem : nI (v / 10 ^ u) - nI (v / 10 ^ u) / nI 10 * nI 10 = nI (v / 10 ^ u % 10) := pk_rem (by omega) (by omega) (by omega)
      rw [if_neg (by omega), show u + 1 - 1 = u by omega, zdig_s]
      rw [show u + 1 - 1 = u by omega] at hle
      rw [if_pos (show 10 ^ u ≤ v ∨ u = 0 by omega)]
      obtain ⟨M1, e1, e2, e3⟩ := putB10 (b := 48 + v / 10 ^ u % 10) hP (by omega)
      obtain ⟨M2, f1, f2, f3⟩ := ih m M1 (l2 ++ [48 + v / 10 ^ u % 10]) (by omega) (by omega) (by
        by_cases e : u ≤ 1
        · exact Or.inl e
        · refine Or.inr ?_
          have : 10 ^ (u - 1) ≤ 10 ^ u := Nat.pow_le_pow_right (by decide) (by omega)
          omega) e2 (by rw [zlen_1]; omega) (fb10_trans hF e3)
      rw [List.append_assoc] at f2
      refine ⟨M2, ?_, f2, f3⟩
      rw [← hunit] at f1
      simp (disch := (first | assumption | omega)) only [zf_X10_spellsNumber_L24, zlp, ↓ev_ifB, ↓ev_iflt, ↓ev_ifle, ↓ev_ifeq, ↓ifp, ↓ifn, ↓ev_b1, ↓ev_b2, ↓ev_put, ↓ev_z0, ↓ev_z1, ↓ev_zB, ↓ev_has9, ↓ev_has10, ↓ev_shl, ↓ev_bit, ↓ev_in, ↓ev_inG, ↓ev_rd, ↓ev_st, decide_eq_true_eq, nI_add, ev_sub, pk_mul, nI_or, nI_xor, zBt, zBf, if_true, if_false, eq_self, Bool.false_eq_true, ↓ev_div2, hrem, ↓zb1_at e1, f1]
  have top : ∀ d u m (K : Int32 → Option ZMem), u + d = 4 → d < m → (u = 0 ∨ 10 ^ u ≤ v) → ∃ w, w ≤ 4 ∧ (w = 0 ∨ 10 ^ w ≤ v) ∧ v < 10 ^ (w + 1) ∧ zf_X10_spellsNumber_L8 (nI v) K m (nI (10 ^ u)) = K (nI (10 ^ w)) := by
    intro d
    induction d with
    | zero =>
      intro u m K hu hm h1
      obtain ⟨m, rfl⟩ : ∃ y, m = y + 1 := ⟨m - 1, by omega⟩
      obtain rfl : u = 4 := by omega
      refine ⟨4, by omega, h1, by show v < 100000; omega, ?_⟩
      simp (disch := (first | assumption | omega)) only [zf_X10_spellsNumber_L8, zlp, ev_div, ↓ev_ifB, ↓ev_iflt, ↓ev_ifle, ↓ev_ifeq, ↓ifp, ↓ifn, ↓ev_b1, ↓ev_b2, ↓ev_put, ↓ev_z0, ↓ev_z1, ↓ev_zB, ↓ev_has9, ↓ev_has10, ↓ev_shl, ↓ev_bit, ↓ev_in, ↓ev_inG, ↓ev_rd, ↓ev_st, decide_eq_true_eq, nI_add, ev_sub, pk_mul, nI_or, nI_xor, zBt, zBf, if_true, if_false, eq_self, Bool.false_eq_true]
    | succ d ih =>
      intro u m K hu hm h1
      obtain ⟨m, rfl⟩ : ∃ y, m = y + 1 := ⟨m - 1, by omega⟩
      obtain ⟨p1, p2⟩ := z10 u (by omega)
      have hs : 10 ^ (u + 1) = 10 ^ u * 10 := Nat.pow_succ _ _
      by_cases g : v / 10 < 10 ^ u
      · refine ⟨u, by omega, h1, by omega, ?_⟩
        simp (disch := (first | assumption | omega)) only [zf_X10_spellsNumber_L8, zlp, ev_div, ↓ev_ifB, ↓ev_iflt, ↓ev_ifle, ↓ev_ifeq, ↓ifp, ↓ifn, ↓ev_b1, ↓ev_b2, ↓ev_put, ↓ev_z0, ↓ev_z1, ↓ev_zB, ↓ev_has9, ↓ev_has10, ↓ev_shl, ↓ev_bit, ↓ev_in, ↓ev_inG, ↓ev_rd, ↓ev_st, decide_eq_true_eq, nI_add, ev_sub, pk_mul, nI_or, nI_xor, zBt, zBf, if_true, if_false, eq_self, Bool.false_eq_true]
      · obtain ⟨w, w1, w2, w3, w4⟩ := ih (u + 1) m K (by omega) (by omega) (Or.inr (by omega))
        refine ⟨w, w1, w2, w3, w4 ▸ ?_⟩
        rw [hs]
        simp (disch := (first | assumption | omega)) only [zf_X10_spellsNumber_L8, zlp, ev_div, ↓ev_ifB, ↓ev_iflt, ↓ev_ifle, ↓ev_ifeq, ↓ifp, ↓ifn, ↓ev_b1, ↓ev_b2, ↓ev_put, ↓ev_z0, ↓ev_z1, ↓ev_zB, ↓ev_has9, ↓ev_has10, ↓ev_shl, ↓ev_bit, ↓ev_in, ↓ev_inG, ↓ev_rd, ↓ev_st, decide_eq_true_eq, nI_add, ev_sub, pk_mul, nI_or, nI_xor, zBt, zBf, if_true, if_false, eq_self, Bool.false_eq_true]
  obtain ⟨M1, e1, e2, e3⟩ := putB10 (b := 32) h (by omega)
  obtain ⟨w, w1, w2, w3, w4⟩ := top 4 0 n (fun v31 => (zf_X10_spellsNumber_L24 (nI v) (fun M32 => some M32) n v31 M1)) (by omega) (by omega) (Or.inl rfl)
  obtain ⟨M2, f1, f2, f3⟩ := key (w + 1) n M1 (l ++ [32]) (by omega) (by omega) (by rw [show w + 1 - 1 = w by omega]; omega) e2 (by rw [zlen_1]; omega) e3
  rw [List.append_assoc, ← zdig_low (show 1 ≤ w + 1 by omega) w3 5 (by omega)] at f2
  refine ⟨M2, ?_, f2, f3⟩
  rw [if_neg (by omega), show w + 1 - 1 = w by omega] at f1
  unfold zf_X10_spellsNumber
  refine (zb1_at e1).trans ?_
  exact w4.trans f1
