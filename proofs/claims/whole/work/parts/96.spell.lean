/-! LAYER 2: spell -/
def zhead (r : ZRow) : List Nat := (((([] ++ zln1 0 (r 2)) ++ zln1 1 (r 3)) ++ zln1 2 (r 4)) ++ zln1 3 (r 5)) ++ zln2 4 (r 6) (r 7)
def zchl (r : ZRow) : Nat → Nat → List Nat → List Nat
  | 0, _, l => l
  | d + 1, c, l => zchl r d (c + 1) (l ++ zln2 5 (r (55 + c)) (r (59 + c)))
def zrn (r : ZRow) (i : Nat) : Nat → Nat → List Nat → List Nat
  | 0, _, l => l
  | d + 1, c, l => zrn r i d (c + 1) (if (r (45 + i)).testBit c then l ++ znum c else l)
def zme (r : ZRow) (i : Nat) (l : List Nat) : List Nat := zrn r i (r 1) 0 (if r (45 + i) = 0 then (((l ++ zwd 6) ++ znum (r (15 + i))) ++ znum (r (25 + i))) ++ znum (r (35 + i)) else ((((l ++ zwd 6) ++ znum (r (15 + i))) ++ znum (r (25 + i))) ++ znum (r (35 + i))) ++ zwd 10) ++ [59]
def zmes (r : ZRow) : Nat → Nat → List Nat → List Nat
  | 0, _, l => l
  | d + 1, i, l => zmes r d (i + 1) (zme r i l)
def zcB (r : ZRow) (a : Nat) : Nat → Nat → List Nat → List Nat
  | 0, _, l => l
  | d + 1, b, l => zcB r a d (b + 1) (if (r (63 + a)).testBit b then l ++ zln2 7 a b else l)
def zcAl (r : ZRow) : Nat → Nat → List Nat → List Nat
  | 0, _, l => l
  | d + 1, a, l => zcAl r d (a + 1) (zcB r a d (a + 1) l)
def zpr : Nat → Nat
  | 0 => 0
  | d + 1 => d + zpr d
theorem zpr_le : ∀ d, d ≤ 10 → zpr d ≤ 45 := by decide
theorem zrn_len {r : ZRow} {i : Nat} : ∀ d c l, c + d ≤ 4 → (zrn r i d c l).length ≤ l.length + 2 * d
  | 0, c, l, _ => by show l.length ≤ _; omega
  | d + 1, c, l, h => by
    have hn := znum_len (v := c) (k := 1) (by omega) (by omega) (by show c < 10; omega)
    have ih := zrn_len (r := r) (i := i) d (c + 1) (if (r (45 + i)).testBit c then l ++ znum c else l) (by omega)
    have : (if (r (45 + i)).testBit c = true then l ++ znum c else l).length ≤ l.length + 2 := by
      split
      · rw [List.length_append]; omega
      · omega
    show (zrn r i d (c + 1) (if (r (45 + i)).testBit c then l ++ znum c else l)).length ≤ _
    omega
theorem zme_len {r : ZRow} (hw : WF r) {i : Nat} (hi : i < r 0) (l : List Nat) : (zme r i l).length ≤ l.length + 27 := by
  have hb := hw.b
  obtain ⟨b1, b2, b3, b4, b5⟩ := hw.2.2.2.2.2.2.2.2.2.2.2.2.2.2.2.1 i hi
  have n1 := znum_len (v := r (15 + i)) (k := 2) (by omega) (by omega) (by show _ < 100; omega)
  have n2 := znum_len (v := r (25 + i)) (k := 2) (by omega) (by omega) (by show _ < 100; omega)
  have n3 := znum_len (v := r (35 + i)) (k := 2) (by omega) (by omega) (by show _ < 100; omega)
  have e6 : (zwd 6).length = 6 := rfl
  have e10 : (zwd 10).length = 3 := rfl
  unfold zme
  have h1 := zrn_len (r := r) (i := i) (r 1) 0 (if r (45 + i) = 0 then (((l ++ zwd 6) ++ znum (r (15 + i))) ++ znum (r (25 + i))) ++ znum (r (35 + i)) else ((((l ++ zwd 6) ++ znum (r (15 + i))) ++ znum (r (25 + i))) ++ znum (r (35 + i))) ++ zwd 10) (by omega)
  have h2 : (if r (45 + i) = 0 then (((l ++ zwd 6) ++ znum (r (15 + i))) ++ znum (r (25 + i))) ++ znum (r (35 + i)) else ((((l ++ zwd 6) ++ znum (r (15 + i))) ++ znum (r (25 + i))) ++ znum (r (35 + i))) ++ zwd 10).length ≤ l.length + 18 := by
    split
    · simp only [List.length_append]; omega
    · simp only [List.length_append]; omega
  rw [zlen_1]
  omega
theorem zcB_len {r : ZRow} {a : Nat} (ha : a < 10) : ∀ d b l, b + d ≤ 10 → (zcB r a d b l).length ≤ l.length + 13 * d
  | 0, b, l, _ => by show l.length ≤ _; omega
  | d + 1, b, l, h => by
    have hn := zln2_len (s := 7) (v := a) (x := b) (k := 1) (by omega) (by omega) (by omega) (by show a < 10; omega) (by show b < 10; omega)
    have e7 : (zwd 7).length = 8 := rfl
    have ih := zcB_len (r := r) ha d (b + 1) (if (r (63 + a)).testBit b then l ++ zln2 7 a b else l) (by omega)
    have : (if (r (63 + a)).testBit b = true then l ++ zln2 7 a b else l).length ≤ l.length + 13 := by
      split
      · rw [List.length_append]; omega
      · omega
    show (zcB r a d (b + 1) (if (r (63 + a)).testBit b then l ++ zln2 7 a b else l)).length ≤ _
    omega
theorem zhead_len {r : ZRow} (hw : WF r) : (zhead r).length ≤ 49 := by
  have hb := hw.b
  have n0 := zln1_len (s := 0) (v := r 2) (k := 5) (by omega) (by omega) (by omega) (by show _ < 100000; omega)
  have n1 := zln1_len (s := 1) (v := r 3) (k := 2) (by omega) (by omega) (by omega) (by show _ < 100; omega)
  have n2 := zln1_len (s := 2) (v := r 4) (k := 3) (by omega) (by omega) (by omega) (by show _ < 1000; omega)
  have n3 := zln1_len (s := 3) (v := r 5) (k := 2) (by omega) (by omega) (by omega) (by show _ < 100; omega)
  have n4 := zln2_len (s := 4) (v := r 6) (x := r 7) (k := 2) (by omega) (by omega) (by omega) (by show _ < 100; omega) (by show _ < 100; omega)
  have e0 : (zwd 0).length = 4 := rfl
  have e1 : (zwd 1).length = 3 := rfl
  have e2 : (zwd 2).length = 5 := rfl
  have e3 : (zwd 3).length = 4 := rfl
  have e4 : (zwd 4).length = 6 := rfl
  have en : ([] : List Nat).length = 0 := rfl
  unfold zhead
  simp only [List.length_append]
  omega
theorem zchan_len {r : ZRow} (hw : WF r) {c : Nat} (hc : c < r 1) : (zln2 5 (r (55 + c)) (r (59 + c))).length ≤ 14 := by
  obtain ⟨b1, b2, b3⟩ := hw.2.2.2.2.2.2.2.2.2.2.2.2.2.2.2.2.1 c hc
  have n4 := zln2_len (s := 5) (v := r (55 + c)) (x := r (59 + c)) (k := 2) (by omega) (by omega) (by omega) (by show _ < 100; omega) (by show _ < 100; omega)
  have e5 : (zwd 5).length = 7 := rfl
  omega
theorem wordOf9 : zf_X9_wordOf 0 = some 0 ∧ zf_X9_wordOf 1 = some 1 ∧ zf_X9_wordOf 2 = some 2 ∧ zf_X9_wordOf 3 = some 3 ∧ zf_X9_wordOf 4 = some 4 ∧ zf_X9_wordOf 5 = some 5 ∧ zf_X9_wordOf 6 = some 6 ∧ zf_X9_wordOf 7 = some 7 := by decide
/-! the class -/
theorem mem9 {S : ZMem} {t nx u n i : Nat} {r : ZRow} {U : Nat → ZRow} {T : ZT} {L : ZL} {l : List Nat} (hC : IC S t nx r u U T L) (hw : WF r) (hi : i < r 0) (h : PG9 S l) (hl : l.length ≤ 900) (hn : 20 < n) : ∃ M', zf_X9_spellMember n (nI i) S = some M' ∧ PG9 M' (zme r i l) ∧ FB9 S M' := by
  have hb := hw.b
  have ht := hC.t
  obtain ⟨b1, b2, b3, b4, b5⟩ := hw.2.2.2.2.2.2.2.2.2.2.2.2.2.2.2.1 i hi
  have hrl := zreach_lt hw hi
  obtain ⟨m1, m2, m3, m4⟩ := hC.tm hi
  have n1 := znum_len6 (r (15 + i))
  have n2 := znum_len6 (r (25 + i))
  have n3 := znum_len6 (r (35 + i))
  have z6 := zwd_len 6 (by omega)
  have z10 := zwd_len 10 (by omega)
  obtain ⟨M1, c1, c2, c3⟩ := putT9 (n := n) (s := 6) (by omega) h (by omega) hn
  obtain ⟨M2, d1, d2, d3⟩ := putN9 (n := n) (v := r (15 + i)) (by omega) c2 (by rw [List.length_append]; omega) hn
  obtain ⟨M3, e1, e2, e3⟩ := putN9 (n := n) (v := r (25 + i)) (by omega) d2 (by rw [List.length_append, List.length_append]; omega) hn
  obtain ⟨M4, f1, f2, f3⟩ := putN9 (n := n) (v := r (35 + i)) (by omega) e2 (by rw [List.length_append, List.length_append, List.length_append]; omega) hn
  have F1 := c3
  have F2 := fb9_trans F1 d3
  have F3 := fb9_trans F2 e3
  have F4 := fb9_trans F3 f3
  have it : ∀ {A : ZMem}, FB9 S A → IT A t := fun g => hC.1.congr (g 0 (by omega) (by omega))
  have rd : ∀ {A : ZMem}, FB9 S A → ∀ k j, k ≤ 54 → A k j = S k j := fun g k j hk => by rw [g k (by omega) (by omega)]
  have loop : ∀ d c m A l2, c + d = r 1 → d < m → PG9 A l2 → l2.length + 2 * d + 8 ≤ 1000 → FB9 S A → ∃ M', zf_X9_spellMember_L84 (nI i) n (fun M64 => zb1 (zf_X2_putText n 9 M64) (fun M65 => some M65)) m (nI c) A = some M' ∧ PG9 M' (zrn r i d c l2 ++ [59]) ∧ FB9 S M' := by
    intro d
    induction d with
    | zero =>
      intro c m A l2 hc hm hP hl2 hF
      obtain ⟨m, rfl⟩ : ∃ y, m = y + 1 := ⟨m - 1, by omega⟩
      obtain ⟨M', g1, g2, g3⟩ := putT9 (n := n) (s := 9) (by omega) hP (by omega) hn
      refine ⟨M', ?_, g2, fb9_trans hF g3⟩
      rw [zf_X9_spellMember_L84, (it hF).dy, rd hF t 1 (by omega), hC.2.2.1.2.1, zi_le (by omega) (by omega), if_pos (by omega), zb1_at g1]
    | succ d ih =>
      intro c m A l2 hc hm hP hl2 hF
      obtain ⟨m, rfl⟩ : ∃ y, m = y + 1 := ⟨m - 1, by omega⟩
      have hstep : ∀ X, zf_X9_spellMember_L84 (nI i) n X (m + 1) (nI c) A = (if zB ((r (45 + i)).testBit c) = 0 then (zf_X9_spellMember_j119 (fun x0 x1 => zf_X9_spellMember_L84 (nI i) n X m x0 x1) (nI c) A) else zb1 (zf_X2_putNumber n (nI c) A) (fun M63 => (zf_X9_spellMember_j119 (fun x0 x1 => zf_X9_spellMember_L84 (nI i) n X m x0 x1) (nI c) M63))) := fun X => by
        rw [zf_X9_spellMember_L84, (it hF).dy, rd hF t 1 (by omega), hC.2.2.1.2.1, zi_le (by omega) (by omega), if_neg (by omega), (it hF).dy, zrd_at i rfl (by omega), rd hF (t + 4) i (by omega), m4, zb1_at (has9 hrl (by omega))]
      rw [hstep]
      unfold zf_X9_spellMember_j119
      rw [nI_1]
      show ∃ M', _ ∧ PG9 M' (zrn r i d (c + 1) (if (r (45 + i)).testBit c then l2 ++ znum c else l2) ++ [59]) ∧ _
      cases g : (r (45 + i)).testBit c with
      | false =>
        rw [if_pos (show zB false = 0 from rfl), if_neg (by decide)]
        exact ih (c + 1) m A l2 (by omega) (by omega) hP (by omega) hF
      | true =>
        have nc := znum_len (v := c) (k := 1) (by omega) (by omega) (by show c < 10; omega)
        obtain ⟨A2, g1, g2, g3⟩ := putN9 (n := n) (v := c) (by omega) hP (by omega) hn
        rw [if_neg (show ¬ zB true = 0 by decide), if_pos rfl, zb1_at g1]
        exact ih (c + 1) m A2 (l2 ++ znum c) (by omega) (by omega) g2 (by rw [List.length_append]; omega) (fb9_trans hF g3)
  have h53 : M4 (t + 4) i = nI (r (45 + i)) := by rw [rd F4 (t + 4) i (by omega)]; exact m4
  have hhead : zf_X9_spellMember n (nI i) S = (if nI (r (45 + i)) = 0 then (zf_X9_spellMember_j82 (nI i) n M4) else zb1 (zf_X2_putText n 10 M4) (fun M66 => (zf_X9_spellMember_j82 (nI i) n M66))) := by
    unfold zf_X9_spellMember
    rw [zb1_at wordOf9.2.2.2.2.2.2.1, zb1_at c1, (it F1).dy, zrd_at i rfl (by omega), rd F1 (t + 1) i (by omega), m1, zb1_at d1, (it F2).dy, zrd_at i rfl (by omega), rd F2 (t + 2) i (by omega), m2, zb1_at e1, (it F3).dy, zrd_at i rfl (by omega), rd F3 (t + 3) i (by omega), m3, zb1_at f1, (it F4).dy, zrd_at i rfl (by omega), h53]
  rw [hhead]
  unfold zme zf_X9_spellMember_j82
  by_cases g : r (45 + i) = 0
  · rw [if_pos (show nI (r (45 + i)) = 0 by rw [g]; rfl), if_pos g]
    exact loop (r 1) 0 n M4 _ (by omega) (by omega) f2 (by simp only [List.length_append]; omega) F4
  · obtain ⟨M5, g1, g2, g3⟩ := putT9 (n := n) (s := 10) (by omega) f2 (by simp only [List.length_append]; omega) hn
    rw [if_neg (nI_ne0 (by omega) (by omega)), if_neg g, zb1_at g1]
    exact loop (r 1) 0 n M5 _ (by omega) (by omega) g2 (by simp only [List.length_append]; omega) (fb9_trans F4 g3)
theorem mem10 {S : ZMem} {n i : Nat} {r : ZRow} {l : List Nat} (hI : IR S r) (hw : WF r) (hi : i < r 0) (h : PG10 S l) (hl : l.length ≤ 900) (hn : 20 < n) : ∃ M', zf_X10_spellsMember n (nI i) S = some M' ∧ PG10 M' (zme r i l) ∧ FB10 S M' := by
  have hb := hw.b
  obtain ⟨b1, b2, b3, b4, b5⟩ := hw.2.2.2.2.2.2.2.2.2.2.2.2.2.2.2.1 i hi
  have hrl := zreach_lt hw hi
  have n1 := znum_len6 (r (15 + i))
  have n2 := znum_len6 (r (25 + i))
  have n3 := znum_len6 (r (35 + i))
  have z6 := zwd_len 6 (by omega)
  have z8 := zwd_len 8 (by omega)
  have z10 := zwd_len 10 (by omega)
  obtain ⟨M1, c1, c2, c3⟩ := spWd10 (n := n) zW6 h (by omega) hn
  obtain ⟨M2, d1, d2, d3⟩ := spN10 (n := n) (v := r (15 + i)) (by omega) c2 (by rw [List.length_append]; omega) hn
  obtain ⟨M3, e1, e2, e3⟩ := spN10 (n := n) (v := r (25 + i)) (by omega) d2 (by rw [List.length_append, List.length_append]; omega) hn
  obtain ⟨M4, f1, f2, f3⟩ := spN10 (n := n) (v := r (35 + i)) (by omega) e2 (by rw [List.length_append, List.length_append, List.length_append]; omega) hn
  have F1 := c3
  have F2 := fb10_trans F1 d3
  have F3 := fb10_trans F2 e3
  have F4 := fb10_trans F3 f3
  have ir : ∀ {A : ZMem}, FB10 S A → IR A r := fun g => hI.congr (g.1 78 (by omega) (by omega))
  have loop : ∀ d c m A l2, c + d = r 1 → d < m → PG10 A l2 → l2.length + 2 * d + 8 ≤ 1000 → FB10 S A → ∃ M', zf_X10_spellsMember_L73 (nI i) n (fun M53 => zb1 (zf_X10_spellsByte (59 : Int32) M53) (fun M54 => some M54)) m (nI c) A = some M' ∧ PG10 M' (zrn r i d c l2 ++ [59]) ∧ FB10 S M' := by
    intro d
    induction d with
    | zero =>
      intro c m A l2 hc hm hP hl2 hF
      obtain ⟨m, rfl⟩ : ∃ y, m = y + 1 := ⟨m - 1, by omega⟩
      obtain ⟨M', g1, g2, g3⟩ := putB10 (b := 59) hP (by omega)
      refine ⟨M', ?_, g2, fb10_trans hF g3⟩
      rw [zf_X10_spellsMember_L73, show (1 : Int32) = nI 1 from rfl, rd78 (ir hF) _ (by omega) (by omega), zi_le (by omega) (by omega), if_pos (by omega), show (59 : Int32) = nI 59 from rfl, zb1_at g1]
    | succ d ih =>
      intro c m A l2 hc hm hP hl2 hF
      obtain ⟨m, rfl⟩ : ∃ y, m = y + 1 := ⟨m - 1, by omega⟩
      have hstep : ∀ X, zf_X10_spellsMember_L73 (nI i) n X (m + 1) (nI c) A = (if zB ((r (45 + i)).testBit c) = 0 then (zf_X10_spellsMember_j104 (fun x0 x1 => zf_X10_spellsMember_L73 (nI i) n X m x0 x1) (nI c) A) else zb1 (zf_X10_spellsNumber n (nI c) A) (fun M52 => (zf_X10_spellsMember_j104 (fun x0 x1 => zf_X10_spellsMember_L73 (nI i) n X m x0 x1) (nI c) M52))) := fun X => by
        rw [zf_X10_spellsMember_L73, show zrd A 78 73 (1 : Int32) = zrd A 78 73 (nI 1) from rfl, rd78 (ir hF) _ (by omega) (by omega), zi_le (by omega) (by omega), if_neg (by omega), show (45 : Int32) + nI i = nI (45 + i) from nI_add 45 i, rd78 (ir hF) _ (by omega) (by omega), zb1_at (has10 hrl (by omega))]
      rw [hstep]
      unfold zf_X10_spellsMember_j104
      rw [nI_1]
      show ∃ M', _ ∧ PG10 M' (zrn r i d (c + 1) (if (r (45 + i)).testBit c then l2 ++ znum c else l2) ++ [59]) ∧ _
      cases g : (r (45 + i)).testBit c with
      | false =>
        rw [if_pos (show zB false = 0 from rfl), if_neg (by decide)]
        exact ih (c + 1) m A l2 (by omega) (by omega) hP (by omega) hF
      | true =>
        have nc := znum_len (v := c) (k := 1) (by omega) (by omega) (by show c < 10; omega)
        obtain ⟨A2, g1, g2, g3⟩ := spN10 (n := n) (v := c) (by omega) hP (by omega) hn
        rw [if_neg (show ¬ zB true = 0 by decide), if_pos rfl, zb1_at g1]
        exact ih (c + 1) m A2 (l2 ++ znum c) (by omega) (by omega) g2 (by rw [List.length_append]; omega) (fb10_trans hF g3)
  have hhead : zf_X10_spellsMember n (nI i) S = (if nI (r (45 + i)) = 0 then (zf_X10_spellsMember_j71 (nI i) n M4) else zb1 (zf_X10_spellsByte (32 : Int32) M4) (fun M55 => zb1 (zf_X10_spells n (79 : Int64) M55) (fun M56 => (zf_X10_spellsMember_j71 (nI i) n M56)))) := by
    unfold zf_X10_spellsMember
    rw [show (189450486 : Int64) = lN 189450486 from rfl, zb1_at c1, show (15 : Int32) + nI i = nI (15 + i) from nI_add 15 i, rd78 (ir F1) _ (by omega) (by omega), zb1_at d1, show (25 : Int32) + nI i = nI (25 + i) from nI_add 25 i, rd78 (ir F2) _ (by omega) (by omega), zb1_at e1, show (35 : Int32) + nI i = nI (35 + i) from nI_add 35 i, rd78 (ir F3) _ (by omega) (by omega), zb1_at f1, show (45 : Int32) + nI i = nI (45 + i) from nI_add 45 i, rd78 (ir F4) _ (by omega) (by omega)]
  rw [hhead]
  unfold zme zf_X10_spellsMember_j71
  by_cases g : r (45 + i) = 0
  · rw [if_pos (show nI (r (45 + i)) = 0 by rw [g]; rfl), if_pos g]
    exact loop (r 1) 0 n M4 _ (by omega) (by omega) f2 (by simp only [List.length_append]; omega) F4
  · obtain ⟨M5, g1, g2, g3⟩ := putB10 (b := 32) f2 (by simp only [List.length_append]; omega)
    obtain ⟨M6, h1, h2, h3⟩ := spWd10 (n := n) zW8 g2 (by rw [zlen_1]; simp only [List.length_append]; omega) hn
    rw [List.append_assoc, show [32] ++ zwd 8 = zwd 10 from rfl] at h2
    rw [if_neg (nI_ne0 (by omega) (by omega)), if_neg g, show (32 : Int32) = nI 32 from rfl, zb1_at g1, show (79 : Int64) = lN 79 from rfl, zb1_at h1]
    exact loop (r 1) 0 n M6 _ (by omega) (by omega) h2 (by simp only [List.length_append]; omega) (fb10_trans (fb10_trans F4 g3) h3)
