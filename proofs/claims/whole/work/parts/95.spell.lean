/-! LAYER 2: spell, report -/
/-- letters of a word from a unit on -/
def zb27 (w : Nat) : Nat → List Nat
  | 0 => []
  | j + 1 => (w / 27 ^ j % 27 + 96) :: zb27 w j
theorem z27 : ∀ j, j < 10 → 27 ^ j ≤ 205891132094649 ∧ 0 < 27 ^ j := by decide
theorem spW10 {M : ZMem} {l : List Nat} {w k n : Nat} (hk : k < 9) (hw1 : 27 ^ k ≤ w ∨ k = 0) (hw2 : w < 27 ^ (k + 1)) (h : PG10 M l) (hl : l.length + 10 ≤ 2000) (hn : 20 < n) : ∃ M', zf_X10_spells n (lN w) M = some M' ∧ PG10 M' (l ++ zb27 w (k + 1)) ∧ FB10 M M' := by
  have hwl : w < 205891132094649 := by
    have := (z27 (k + 1) (by omega)).1
    omega
  have down : ∀ u m S l2, u ≤ 9 → u < m → PG10 S l2 → l2.length + u ≤ 2000 → FB10 M S → ∃ M', zf_X10_spells_L24 (lN w) (fun M30 => some M30) m (if u = 0 then lN 0 else lN (27 ^ (u - 1))) S = some M' ∧ PG10 M' (l2 ++ zb27 w u) ∧ FB10 M M' := by
    intro u
    induction u with
    | zero =>
      intro m S l2 hu hm hP hl2 hF
      obtain ⟨m, rfl⟩ : ∃ y, m = y + 1 := ⟨m - 1, by omega⟩
      refine ⟨S, ?_, ?_, hF⟩
      · rw [if_pos rfl, zf_X10_spells_L24, if_pos (show lg_cmp (lN 0) 0 ≤ 0 from (lg_cmp_le _ _).mpr ((pk_lLE (a := 0) (b := 0) (by omega) (by omega)).mpr (by omega)))]
      · show PG10 S (l2 ++ [])
        rw [List.append_nil]; exact hP
    | succ u ih =>
      intro m S l2 hu hm hP hl2 hF
      obtain ⟨m, rfl⟩ : ∃ y, m = y + 1 := ⟨m - 1, by omega⟩
      obtain ⟨p1, p2⟩ := z27 u (by omega)
      have hunit : lN (27 ^ u) / lN 27 = if u = 0 then lN 0 else lN (27 ^ (u - 1)) := by
        rw [pk_lDiv (by omega) (by omega) (by omega)]
        by_cases e : u = 0
        · subst e; rfl
        · rw [if_neg e]
          congr 1
          obtain ⟨x, rfl⟩ : ∃ y, u = y + 1 := ⟨u - 1, by omega⟩
          rw [Nat.pow_succ, Nat.mul_div_cancel _ (by omega)]
          rfl
      have hdl : w / 27 ^ u ≤ w := Nat.div_le_self _ _
      have hrem : lN (w / 27 ^ u) - lN (w / 27 ^ u) / lN 27 * lN 27 = lN (w / 27 ^ u % 27) := pk_lRem (by omega) (by omega) (by omega)
      obtain ⟨M1, e1, e2, e3⟩ := putB10 (b := w / 27 ^ u % 27 + 96) hP (by omega)
      obtain ⟨M2, f1, f2, f3⟩ := ih m M1 (l2 ++ [w / 27 ^ u % 27 + 96]) (by omega) (by omega) e2 (by rw [zlen_1]; omega) (fb10_trans hF e3)
      rw [List.append_assoc] at f2
      refine ⟨M2, ?_, f2, f3⟩
      rw [← hunit] at f1
      rw [if_neg (by omega), show u + 1 - 1 = u by omega, zf_X10_spells_L24, if_neg (fun z => ?_), ev_ldiv _ (by omega) p2 (by omega), show (27 : Int64) = lN 27 from rfl, hrem, lN_i, show (96 : Int32) = nI 96 from rfl, nI_add, zb1_at e1]
      · exact f1
      · have := (pk_lLE (a := 27 ^ u) (b := 0) (by omega) (by omega)).mp ((lg_cmp_le _ _).mp z)
        omega
  have up : ∀ d u m (K : Int64 → Option ZMem), u + d = k → d < m → zf_X10_spells_L2 (lN w) K m (lN (27 ^ u)) = K (lN (27 ^ k)) := by
    intro d
    induction d with
    | zero =>
      intro u m K hu hm
      obtain ⟨m, rfl⟩ : ∃ y, m = y + 1 := ⟨m - 1, by omega⟩
      obtain rfl : u = k := by omega
      have p := z27 (u + 1) (by omega)
      have hs : 27 ^ (u + 1) = 27 * 27 ^ u := by rw [Nat.pow_succ, Nat.mul_comm]
      rw [zf_X10_spells_L2, show (27 : Int64) = lN 27 from rfl, lN_mul, ← hs, if_pos ((lg_cmp_gt _ _).mpr ((pk_lLT (by omega) (by omega)).mpr hw2))]
    | succ d ih =>
      intro u m K hu hm
      obtain ⟨m, rfl⟩ : ∃ y, m = y + 1 := ⟨m - 1, by omega⟩
      have p := z27 (u + 1) (by omega)
      have hs : 27 ^ (u + 1) = 27 * 27 ^ u := by rw [Nat.pow_succ, Nat.mul_comm]
      have hle : 27 ^ (u + 1) ≤ 27 ^ k := Nat.pow_le_pow_right (by decide) (by omega)
      rw [zf_X10_spells_L2, show (27 : Int64) = lN 27 from rfl, lN_mul, lN_mul, Nat.mul_comm (27 ^ u) 27, ← hs, if_neg (fun z => ?_)]
      · exact ih (u + 1) m K (by omega) (by omega)
      · have := (pk_lLT (by omega) (by omega)).mp ((lg_cmp_gt _ _).mp z)
        omega
  obtain ⟨M2, f1, f2, f3⟩ := down (k + 1) n M l (by omega) (by omega) h (by omega) (fb10_refl M)
  rw [if_neg (by omega), show k + 1 - 1 = k by omega] at f1
  refine ⟨M2, ?_, f2, f3⟩
  unfold zf_X10_spells
  exact (up k 0 n _ (by omega) (by omega)).trans f1
/-- a word of the reference -/
def zW (s w : Nat) : Prop := ∃ k, k < 9 ∧ (27 ^ k ≤ w ∨ k = 0) ∧ w < 27 ^ (k + 1) ∧ zb27 w (k + 1) = zwd s ∧ s < 13 ∧ (zwd s).length ≤ 8
theorem spWd10 {M : ZMem} {l : List Nat} {s w n : Nat} (hW : zW s w) (h : PG10 M l) (hl : l.length + 10 ≤ 2000) (hn : 20 < n) : ∃ M', zf_X10_spells n (lN w) M = some M' ∧ PG10 M' (l ++ zwd s) ∧ FB10 M M' := by
  obtain ⟨k, k1, k2, k3, k4, -⟩ := hW
  rw [← k4]
  exact spW10 k1 k2 k3 h hl hn
theorem zW0 : zW 0 133789 := ⟨3, by decide, by decide, by decide, by decide, by decide, by decide⟩
theorem zW1 : zW 1 4514 := ⟨2, by decide, by decide, by decide, by decide, by decide, by decide⟩
theorem zW2 : zW 2 6476969 := ⟨4, by decide, by decide, by decide, by decide, by decide, by decide⟩
theorem zW3 : zW 3 400557 := ⟨3, by decide, by decide, by decide, by decide, by decide, by decide⟩
theorem zW4 : zW 4 232600981 := ⟨5, by decide, by decide, by decide, by decide, by decide, by decide⟩
theorem zW5 : zW 5 1277870079 := ⟨6, by decide, by decide, by decide, by decide, by decide, by decide⟩
theorem zW6 : zW 6 189450486 := ⟨5, by decide, by decide, by decide, by decide, by decide, by decide⟩
theorem zW7 : zW 7 37396683146 := ⟨7, by decide, by decide, by decide, by decide, by decide, by decide⟩
theorem zW8 : zW 8 79 := ⟨1, by decide, by decide, by decide, by decide, by decide, by decide⟩
theorem zW11 : zW 11 315904 := ⟨3, by decide, by decide, by decide, by decide, by decide, by decide⟩
theorem zW12 : zW 12 279875 := ⟨3, by decide, by decide, by decide, by decide, by decide, by decide⟩
/-- a line of one number, of two -/
def zln1 (s v : Nat) : List Nat := zwd s ++ znum v ++ [59]
def zln2 (s v x : Nat) : List Nat := zwd s ++ znum v ++ znum x ++ [59]
theorem zln1_len {s v k : Nat} (hs : s < 13) (hk : 1 ≤ k) (hk5 : k ≤ 5) (h : v < 10 ^ k) : (zln1 s v).length ≤ (zwd s).length + k + 2 := by
  have := znum_len hk hk5 h
  unfold zln1
  rw [List.length_append, List.length_append]
  show _ + 1 ≤ _
  omega
theorem zln2_len {s v x k : Nat} (hs : s < 13) (hk : 1 ≤ k) (hk5 : k ≤ 5) (h : v < 10 ^ k) (h2 : x < 10 ^ k) : (zln2 s v x).length ≤ (zwd s).length + 2 * k + 3 := by
  have a := znum_len hk hk5 h
  have b := znum_len hk hk5 h2
  unfold zln2
  rw [List.length_append, List.length_append, List.length_append]
  show _ + 1 ≤ _
  omega
theorem one9 {M : ZMem} {l : List Nat} {s v n : Nat} (hs : s < 13) (hv : v ≤ 99999) (h : PG9 M l) (hl : l.length + 24 ≤ 1024) (hn : 20 < n) : ∃ M', zf_X2_putOne n s (nI v) M = some M' ∧ PG9 M' (l ++ zln1 s v) ∧ FB9 M M' := by
  have z := zwd_len s hs
  obtain ⟨M1, a1, a2, a3⟩ := putT9 (n := n) hs h (by omega) hn
  obtain ⟨M2, b1, b2, b3⟩ := putN9 (n := n) hv a2 (by rw [List.length_append]; omega) hn
  have nl := znum_len6 v
  obtain ⟨M3, c1, c2, c3⟩ := putT9 (n := n) (s := 9) (by omega) b2 (by rw [List.length_append, List.length_append]; omega) hn
  refine ⟨M3, ?_, ?_, fb9_trans (fb9_trans a3 b3) c3⟩
  · unfold zf_X2_putOne
    rw [zb1_at a1, zb1_at b1, zb1_at c1]
  · unfold zln1
    rw [← List.append_assoc, ← List.append_assoc]
    exact c2
theorem two9 {M : ZMem} {l : List Nat} {s v x n : Nat} (hs : s < 13) (hv : v ≤ 99999) (hx : x ≤ 99999) (h : PG9 M l) (hl : l.length + 30 ≤ 1024) (hn : 20 < n) : ∃ M', zf_X2_putTwo n s (nI v) (nI x) M = some M' ∧ PG9 M' (l ++ zln2 s v x) ∧ FB9 M M' := by
  have z := zwd_len s hs
  have nl := znum_len6 v
  have nx := znum_len6 x
  obtain ⟨M1, a1, a2, a3⟩ := putT9 (n := n) hs h (by omega) hn
  obtain ⟨M2, b1, b2, b3⟩ := putN9 (n := n) hv a2 (by rw [List.length_append]; omega) hn
  obtain ⟨M3, d1, d2, d3⟩ := putN9 (n := n) hx b2 (by rw [List.length_append, List.length_append]; omega) hn
  obtain ⟨M4, c1, c2, c3⟩ := putT9 (n := n) (s := 9) (by omega) d2 (by rw [List.length_append, List.length_append, List.length_append]; omega) hn
  refine ⟨M4, ?_, ?_, fb9_trans (fb9_trans (fb9_trans a3 b3) d3) c3⟩
  · unfold zf_X2_putTwo
    rw [zb1_at a1, zb1_at b1, zb1_at d1, zb1_at c1]
  · unfold zln2
    rw [← List.append_assoc, ← List.append_assoc, ← List.append_assoc]
    exact c2
theorem one10 {M : ZMem} {l : List Nat} {s w v n : Nat} (hW : zW s w) (hv : v ≤ 99999) (h : PG10 M l) (hl : l.length + 40 ≤ 2000) (hn : 20 < n) : ∃ M', zf_X10_spellsOne n (lN w) (nI v) M = some M' ∧ PG10 M' (l ++ zln1 s v) ∧ FB10 M M' := by
  have z := hW.choose_spec.2.2.2.2.2
  have nl := znum_len6 v
  obtain ⟨M1, a1, a2, a3⟩ := spWd10 (n := n) hW h (by omega) hn
  obtain ⟨M2, b1, b2, b3⟩ := spN10 (n := n) hv a2 (by rw [List.length_append]; omega) hn
  obtain ⟨M3, c1, c2, c3⟩ := putB10 (b := 59) b2 (by rw [List.length_append, List.length_append]; omega)
  refine ⟨M3, ?_, ?_, fb10_trans (fb10_trans a3 b3) c3⟩
  · unfold zf_X10_spellsOne
    rw [zb1_at a1, zb1_at b1, show (59 : Int32) = nI 59 from rfl, zb1_at c1]
  · unfold zln1
    rw [← List.append_assoc, ← List.append_assoc]
    exact c2
theorem two10 {M : ZMem} {l : List Nat} {s w v x n : Nat} (hW : zW s w) (hv : v ≤ 99999) (hx : x ≤ 99999) (h : PG10 M l) (hl : l.length + 40 ≤ 2000) (hn : 20 < n) : ∃ M', zf_X10_spellsTwo n (lN w) (nI v) (nI x) M = some M' ∧ PG10 M' (l ++ zln2 s v x) ∧ FB10 M M' := by
  have z := hW.choose_spec.2.2.2.2.2
  have nl := znum_len6 v
  have nx := znum_len6 x
  obtain ⟨M1, a1, a2, a3⟩ := spWd10 (n := n) hW h (by omega) hn
  obtain ⟨M2, b1, b2, b3⟩ := spN10 (n := n) hv a2 (by rw [List.length_append]; omega) hn
  obtain ⟨M4, d1, d2, d3⟩ := spN10 (n := n) hx b2 (by rw [List.length_append, List.length_append]; omega) hn
  obtain ⟨M3, c1, c2, c3⟩ := putB10 (b := 59) d2 (by rw [List.length_append, List.length_append, List.length_append]; omega)
  refine ⟨M3, ?_, ?_, fb10_trans (fb10_trans (fb10_trans a3 b3) d3) c3⟩
  · unfold zf_X10_spellsTwo
    rw [zb1_at a1, zb1_at b1, zb1_at d1, show (59 : Int32) = nI 59 from rfl, zb1_at c1]
  · unfold zln2
    rw [← List.append_assoc, ← List.append_assoc, ← List.append_assoc]
    exact c2
/-- the answer -/
def zpans (l : List Nat) (k : Option Nat) : Int32 := match k with
  | none => nI l.length
  | some k => if l.length ≤ k then -nI 2 else nI (l.getD k 0)
theorem answer9 {M : ZMem} {l : List Nat} {k : Option Nat} (h : PG9 M l) (hl : l.length ≤ 1024) (hk : ∀ j, k = some j → j < 2147483648) : zf_X2_answer (zoI1 k) M = some (zpans l k) := by
  obtain ⟨h1, h2⟩ := h
  cases k with
  | none =>
    show zf_X2_answer (-nI 1) M = some (nI l.length)
    simp (disch := (first | assumption | omega)) only [zf_X2_answer, zlp, ↓m1_rf, h1, if_true]
  | some k =>
    have hk' := hk k rfl
    show zf_X2_answer (nI k) M = some (if l.length ≤ k then -nI 2 else nI (l.getD k 0))
    by_cases g : l.length ≤ k
    · rw [if_pos g]
      simp (disch := (first | assumption | omega)) only [zf_X2_answer, zf_X2_answer_j31, zf_X2_answer_j33, zlp, ↓m1_eq, h1, ↓ev_ifB, ↓ev_iflt, ↓ev_ifle, ↓ev_ifeq, ↓ifp, ↓ifn, ↓ev_b1, ↓ev_b2, ↓ev_put, ↓ev_z0, ↓ev_z1, ↓ev_zB, ↓ev_has9, ↓ev_has10, ↓ev_shl, ↓ev_bit, ↓ev_in, ↓ev_inG, ↓ev_rd, ↓ev_st, decide_eq_true_eq, nI_add, ev_sub, pk_mul, nI_or, nI_xor, zBt, zBf, if_true, if_false, eq_self, Bool.false_eq_true]
    · have c := h2 k (by omega)
      rw [if_neg g]
      simp (disch := (first | assumption | omega)) only [zf_X2_answer, zf_X2_answer_j31, zf_X2_answer_j33, zlp, ↓m1_eq, h1, ↓ev_ifB, ↓ev_iflt, ↓ev_ifle, ↓ev_ifeq, ↓ifp, ↓ifn, ↓ev_b1, ↓ev_b2, ↓ev_put, ↓ev_z0, ↓ev_z1, ↓ev_zB, ↓ev_has9, ↓ev_has10, ↓ev_shl, ↓ev_bit, ↓ev_in, ↓ev_inG, ↓ev_rd, ↓ev_st, decide_eq_true_eq, nI_add, ev_sub, pk_mul, nI_or, nI_xor, zBt, zBf, if_true, if_false, eq_self, Bool.false_eq_true, c]
theorem spelled10 {M : ZMem} {l : List Nat} {k : Option Nat} (h : PG10 M l) (hl : l.length ≤ 2000) (hk : ∀ j, k = some j → j < 2147483648) : zf_X10_spelled (zoI1 k) M = some (zpans l k) := by
  obtain ⟨h1, h2⟩ := h
  cases k with
  | none =>
    show zf_X10_spelled (-nI 1) M = some (nI l.length)
    simp (disch := (first | assumption | omega)) only [zf_X10_spelled, zf_X10_spelled_j31, zlp, ↓m1_rf, h1, if_true]
  | some k =>
    have hk' := hk k rfl
    show zf_X10_spelled (nI k) M = some (if l.length ≤ k then -nI 2 else nI (l.getD k 0))
    by_cases g : l.length ≤ k
    · rw [if_pos g]
      simp (disch := (first | assumption | omega)) only [zf_X10_spelled, zf_X10_spelled_j31, zlp, ↓m1_eq, h1, ↓ev_ifB, ↓ev_iflt, ↓ev_ifle, ↓ev_ifeq, ↓ifp, ↓ifn, ↓ev_b1, ↓ev_b2, ↓ev_put, ↓ev_z0, ↓ev_z1, ↓ev_zB, ↓ev_has9, ↓ev_has10, ↓ev_shl, ↓ev_bit, ↓ev_in, ↓ev_inG, ↓ev_rd, ↓ev_st, decide_eq_true_eq, nI_add, ev_sub, pk_mul, nI_or, nI_xor, zBt, zBf, if_true, if_false, eq_self, Bool.false_eq_true]
    · have c := h2 k (by omega)
      rw [if_neg g]
      simp (disch := (first | assumption | omega)) only [zf_X10_spelled, zf_X10_spelled_j31, zlp, ↓m1_eq, h1, ↓ev_ifB, ↓ev_iflt, ↓ev_ifle, ↓ev_ifeq, ↓ifp, ↓ifn, ↓ev_b1, ↓ev_b2, ↓ev_put, ↓ev_z0, ↓ev_z1, ↓ev_zB, ↓ev_has9, ↓ev_has10, ↓ev_shl, ↓ev_bit, ↓ev_in, ↓ev_inG, ↓ev_rd, ↓ev_st, decide_eq_true_eq, nI_add, ev_sub, pk_mul, nI_or, nI_xor, zBt, zBf, if_true, if_false, eq_self, Bool.false_eq_true, c]
/-- the report, from member i on -/
def zrep (r : ZRow) : Nat → Nat → List Nat → List Nat
  | 0, _, l => l
  | d + 1, i, l => zrep r d (i + 1) (if zcnt r i then l ++ zln2 11 i (zpaid r i) else l)
theorem zrep_s (r : ZRow) (d i : Nat) (l : List Nat) : zrep r (d + 1) i l = zrep r d (i + 1) (if zcnt r i then l ++ zln2 11 i (zpaid r i) else l) := rfl
theorem zln11_len {r : ZRow} (hw : WF r) {i : Nat} (hi : i < r 0) : (zln2 11 i (zpaid r i)).length ≤ 17 := by
  have hb := hw.b
  have hp := zpaid_b hw hi
  have := zln2_len (s := 11) (v := i) (x := zpaid r i) (k := 5) (by omega) (by omega) (by omega) (by show i < 100000; omega) (by show _ < 100000; omega)
  have e : (zwd 11).length = 4 := rfl
  omega
theorem zrep_len {r : ZRow} (hw : WF r) : ∀ d i l, i + d ≤ r 0 → (zrep r d i l).length ≤ l.length + 17 * d
  | 0, i, l, _ => by show l.length ≤ _; omega
  | d + 1, i, l, h => by
    rw [zrep_s]
    have := zln11_len hw (show i < r 0 by omega)
    have ih := zrep_len hw d (i + 1) (if zcnt r i then l ++ zln2 11 i (zpaid r i) else l) (by omega)
    have : (if zcnt r i = true then l ++ zln2 11 i (zpaid r i) else l).length ≤ l.length + 17 := by
      split
      · rw [List.length_append]; omega
      · omega
    omega
theorem op_report {n : Nat} (hn : 400000000001 < n) {M : ZMem} (hI : INV M) (a : Int32) : OPW (zf_X9_report n a) (zf_X10_report n a) M := by
  obtain ⟨t, nx, r, u, U, T, L, hS, hC, hM⟩ := id hI
  have hw := hS.1.1
  have hb := hw.b
  have hcnl := zcntS_lt hw.1
  have hnl := znet_le hw
  have hps := zpaid_sum hw.1
  have hrl := zrep_len hw (r 0) 0 [] (by omega)
  have hrl' : (zrep r (r 0) 0 []).length ≤ 170 := by
    have : ([] : List Nat).length = 0 := rfl
    omega
  have hl12 := zln1_len (s := 12) (v := zleft r) (k := 5) (by omega) (by omega) (by omega) (by show _ < 100000; omega)
  have e12 : (zwd 12).length = 4 := rfl
  have hfl : (zrep r (r 0) 0 [] ++ zln1 12 (zleft r)).length ≤ 200 := by rw [List.length_append]; omega
  have good : ∀ k : Option Nat, (∀ j, k = some j → j < 2147483648) → OPW (zf_X9_report n (zoI1 k)) (zf_X10_report n (zoI1 k)) M := fun k hk => by
    have hge := fun (A B : Option (Int32 × ZMem)) => ge_m1 hk A B
    refine OPW.scr hS hC hM (zpans (zrep r (r 0) 0 [] ++ zln1 12 (zleft r)) k) ?_ (fun M1 hM1 => ?_)
    · obtain ⟨M1, e1, e2, e3⟩ := payNow9 (n := n) hC hS.1 (by omega)
      have key : ∀ d i m S l, i + d = r 0 → d < m → l.length + 17 * d ≤ 900 → PG9 S l → FB9 M1 S → ∃ M2, zf_X9_report_L20 n (fun M39 => zb1 (zf_X2_putOne n 12 (M39 63 17) M39) (fun M40 => zb1 (zf_X2_answer (zoI1 k) M40) (fun v41 => some (v41, M40)))) m (nI i) S = some (zpans (zrep r d i l ++ zln1 12 (zleft r)) k, M2) ∧ FB9 M1 M2 := by
        intro d
        induction d with
        | zero =>
          intro i m S l hi hm hl hP hF
          obtain ⟨m, rfl⟩ : ∃ y, m = y + 1 := ⟨m - 1, by omega⟩
          have hC1 := hC.f9 (e3.trans (fb9_f9 hF))
          obtain ⟨a0, -⟩ := hC1.rd
          have c17 : S 63 17 = nI (zleft r) := by rw [hF 63 (by omega) (by omega)]; exact (pay_rd e2).2.2.1
          obtain ⟨M2, f1, f2, f3⟩ := one9 (n := n) (s := 12) (v := zleft r) (by omega) (by omega) hP (by omega) (by omega)
          have hans := answer9 (k := k) f2 (by rw [List.length_append]; omega) hk
          refine ⟨M2, ?_, fb9_trans hF f3⟩
          rw [zf_X9_report_L20, hC1.1.dy, a0, zi_le (by omega) (by omega), if_pos (by omega), c17, zb1_at f1, zb1_at hans]
          rfl
        | succ d ih =>
          intro i m S l hi hm hl hP hF
          obtain ⟨m, rfl⟩ : ∃ y, m = y + 1 := ⟨m - 1, by omega⟩
          have hi' : i < r 0 := by omega
          have hC1 := hC.f9 (e3.trans (fb9_f9 hF))
          obtain ⟨a0, -⟩ := hC1.rd
          have hdy := fun (K : Nat → Option (Int32 × ZMem)) => hC1.1.dy (K := K)
          have c10 : S 63 10 = nI (zcntS r) := by rw [hF 63 (by omega) (by omega)]; exact (pay_rd e2).2.2.2.1
          have c69 : S 69 i = nI (zpaid r i) := by rw [hF 69 (by omega) (by omega)]; exact (pay_rd e2).2.2.2.2.2.2.1 i (by omega)
          have htb := zcntS_tb hi'
          have hpb := zpaid_b hw hi'
          have hll := zln11_len hw hi'
          rw [zrep_s]
          cases hc : zcnt r i with
          | false =>
            rw [if_neg (by decide)]
            obtain ⟨M2, f1, f2⟩ := ih (i + 1) m S l (by omega) (by omega) (by omega) hP hF
            refine ⟨M2, f1 ▸ ?_, f2⟩
            simp (disch := (first | assumption | omega)) only [zf_X9_report_L20, zf_X9_report_j65, zlp, ↓hdy, a0, c10, ↓ev_ifle, ↓ifp, ↓ifn, ↓ev_has9, htb, hc, ↓ev_ifB, Bool.false_eq_true, if_false, nI_add]
          | true =>
            rw [if_pos rfl]
            obtain ⟨M2, g1, g2, g3⟩ := two9 (n := n) (s := 11) (v := i) (x := zpaid r i) (by omega) (by omega) (by omega) hP (by omega) (by omega)
            obtain ⟨M3, f1, f2⟩ := ih (i + 1) m M2 _ (by omega) (by omega) (by rw [List.length_append]; omega) g2 (fb9_trans hF g3)
            refine ⟨M3, f1 ▸ ?_, f2⟩
            rw [zf_X9_report_L20, hC1.1.dy, a0, zi_le (by omega) (by omega), if_neg (by omega), c10, zb1_at (has9 hcnl (by omega)), htb, hc, if_neg (show ¬ zB true = 0 by decide), zrd_at i rfl (by omega), c69, zb1_at g1]
            unfold zf_X9_report_j65
            rw [nI_1]
      obtain ⟨M2, f1, f2⟩ := key (r 0) 0 n (zwr M1 75 1 (nI 0)) [] (by omega) (by omega) (by show 0 + _ ≤ _; omega) ⟨wre, fun j hj => absurd hj (Nat.not_lt_zero _)⟩ (fun j x y => wrn x)
      refine ⟨M2, ?_, e3.trans (fb9_f9 f2)⟩
      simp (disch := (first | assumption | omega)) only [zf_X9_report, zf_X2_clear, zlp, ↓hge, ↓zb1_at e1, ↓ev_put, ↓ev_b1]
      exact f1
    · obtain ⟨M2, e1, e2, e3, e4⟩ := paysNow10 (n := n) hM1.1 hS.1 hn
      have key : ∀ d i m S l, i + d = r 0 → d < m → l.length + 17 * d ≤ 900 → PG10 S l → FB10 M2 S → ∃ M3, zf_X10_report_L18 n (fun M39 => zb1 (zf_X10_spellsOne n (279875 : Int64) (M39 77 29) M39) (fun M40 => zb1 (zf_X10_spelled (zoI1 k) M40) (fun v41 => some (v41, M40)))) m (nI i) S = some (zpans (zrep r d i l ++ zln1 12 (zleft r)) k, M3) ∧ FB10 M2 M3 := by
        intro d
        induction d with
        | zero =>
          intro i m S l hi hm hl hP hF
          obtain ⟨m, rfl⟩ : ∃ y, m = y + 1 := ⟨m - 1, by omega⟩
          have hI2 : IR S r := e3.1.congr (hF.1 78 (by omega) (by omega))
          have c29 : S 77 29 = nI (zleft r) := by rw [hF.2 29 (by omega)]; exact (rme_rd e2).2.1
          obtain ⟨M3, f1, f2, f3⟩ := one10 (n := n) (v := zleft r) zW12 (by omega) hP (by omega) (by omega)
          have hans := spelled10 (k := k) f2 (by rw [List.length_append]; omega) hk
          refine ⟨M3, ?_, fb10_trans hF f3⟩
          rw [zf_X10_report_L18, hI2.z0, zi_le (by omega) (by omega), if_pos (by omega), c29, show (279875 : Int64) = lN 279875 from rfl, zb1_at f1, zb1_at hans]
          rfl
        | succ d ih =>
          intro i m S l hi hm hl hP hF
          obtain ⟨m, rfl⟩ : ∃ y, m = y + 1 := ⟨m - 1, by omega⟩
          have hi' : i < r 0 := by omega
          have hI2 : IR S r := e3.1.congr (hF.1 78 (by omega) (by omega))
          have c22 : S 77 22 = nI (zcntS r) := by rw [hF.2 22 (by omega)]; exact e3.2.2.2.1
          have c86 : S 86 i = nI (zpaid r i) := by rw [hF.1 86 (by omega) (by omega)]; exact (rme_rd e2).1 i (by omega)
          have htb := zcntS_tb hi'
          have hpb := zpaid_b hw hi'
          have hll := zln11_len hw hi'
          rw [zrep_s]
          cases hc : zcnt r i with
          | false =>
            rw [if_neg (by decide)]
            obtain ⟨M3, f1, f2⟩ := ih (i + 1) m S l (by omega) (by omega) (by omega) hP hF
            refine ⟨M3, f1 ▸ ?_, f2⟩
            rw [zf_X10_report_L18, hI2.z0, zi_le (by omega) (by omega), if_neg (by omega), c22, zb1_at (has10 hcnl (by omega)), htb, hc, if_pos (show zB false = 0 from rfl)]
            unfold zf_X10_report_j53
            rw [nI_1]
          | true =>
            rw [if_pos rfl]
            obtain ⟨M3, g1, g2, g3⟩ := two10 (n := n) (v := i) (x := zpaid r i) zW11 (by omega) (by omega) hP (by omega) (by omega)
            obtain ⟨M4, f1, f2⟩ := ih (i + 1) m M3 _ (by omega) (by omega) (by rw [List.length_append]; omega) g2 (fb10_trans hF g3)
            refine ⟨M4, f1 ▸ ?_, f2⟩
            rw [zf_X10_report_L18, hI2.z0, zi_le (by omega) (by omega), if_neg (by omega), c22, zb1_at (has10 hcnl (by omega)), htb, hc, if_neg (show ¬ zB true = 0 by decide), zrd_at i rfl (by omega), c86, show (315904 : Int64) = lN 315904 from rfl, zb1_at g1]
            unfold zf_X10_report_j53
            rw [nI_1]
      obtain ⟨M3, f1, f2⟩ := key (r 0) 0 n (zwr M2 77 36 (nI 0)) [] (by omega) (by omega) (by show 0 + _ ≤ _; omega) ⟨wre, fun j hj => absurd hj (Nat.not_lt_zero _)⟩ ⟨fun j x y => wrn x, fun j x => wrj x⟩
      refine ⟨M3, ?_, e4.trans (fb10_f10 f2)⟩
      simp (disch := (first | assumption | omega)) only [zf_X10_report, zlp, ↓hge, ↓zb1_at e1, ↓ev_put]
      exact f1
  rcases zint a with hc | ⟨k, hk, rfl⟩
  · rcases zneg1 hc with rfl | hng
    · exact good none (fun j hj => by cases hj)
    · have hng' := fun (A B : Option (Int32 × ZMem)) => hng A B
      refine OPW.same (-nI 1) ?_ ?_ hI
      · simp (disch := (first | assumption | omega)) only [zf_X9_report, zlp, ↓hng']
      · simp (disch := (first | assumption | omega)) only [zf_X10_report, zlp, ↓hng']
  · exact good (some k) (fun j hj => by cases hj; exact hk)
