/-! LAYER 2: members, as the class reads them -/
theorem zrun_idem (T : ZT) (f : Nat → Bool) (p : Nat) : zrun T f (zrun T f p) = zrun T f p := by
  by_cases h : zrun T f p < T.1
  · exact zrun_stop (Or.inr (zrun_end h))
  · exact zrun_stop (Or.inl (by omega))
theorem zN_idem (T : ZT) (p lo hi : Nat) : zN T (zrun T zbl p) lo hi = zN T p lo hi := by
  unfold zN
  rw [zrun_idem]
theorem or_bit {m v : Nat} (h : v < 11) : nI m ||| ((1 : Int32) <<< (nI v &&& 31)) = nI (m ||| 2 ^ v) := by
  rw [show ((1 : Int32) <<< (nI v &&& 31)) = nI (2 ^ v) from ev_shl h, nI_or]
theorem num9x {M : ZMem} {T : ZT} {o x e w mk n lo hi : Nat} {r : ZRow} {L : ZL} {y : Int32} (hR : RS9 M T o x r L w mk) (hx : x = e ∨ x = zrun T zbl e) (hT : TT T) (hP : PIL T e L w) (hH : HI y hi) (hlo : lo ≤ 100000) (hn : 400 < n) :
    (∃ v e' M', zN T e lo hi = some (v, e') ∧ zf_X4_readNumber n (nI lo) y M = some (nI v, M') ∧ RS9 M' T o e' r (zadn L v) (w + 1) mk ∧ PIL T e' (zadn L v) (w + 1) ∧ PE T e' (zadn L v) (w + 1) ∧ M' 42 3 = nI (zrun T zbl e) ∧ FR9 o M M' ∧ lo ≤ v ∧ v < hi ∧ v < 100000)
    ∨ (∃ M', zN T e lo hi = none ∧ zf_X4_readNumber n (nI lo) y M = some (nI lo, M') ∧ ES9 M' (zrun T zbl e) ∧ FR9 o M M' ∧ ∃ z, z ≤ T.1 ∧ M' 42 2 = nI z) := by
  have hl := hT.1
  obtain ⟨p1, p2, p3, p4, p5, p6⟩ := id hP
  have hz : zN T x lo hi = zN T e lo hi := by
    rcases hx with h | h
    · rw [h]
    · rw [h, zN_idem]
  have hq : zrun T zbl x = zrun T zbl e := by
    rcases hx with h | h
    · rw [h]
    · rw [h, zrun_idem]
  have hxT : x ≤ T.1 := by
    rcases hx with h | h
    · rw [h]; exact p2
    · rw [h]; exact zrun_le p2
  obtain ⟨g1, g2⟩ := readN_go (n := n) hR hT hxT hn hH hlo (by omega) p5 (by omega)
  rw [hz] at g2
  rw [hq] at g1 g2
  cases hz2 : zN T e lo hi with
  | none =>
    obtain ⟨M', a1, a2, a3, a4⟩ := g2 hz2
    exact Or.inr ⟨M', rfl, a1, a2, a3, a4⟩
  | some u =>
    obtain ⟨v, e'⟩ := u
    obtain ⟨M', a1, a2, a3, a4⟩ := g1 v e' (hz.trans hz2)
    obtain ⟨b1, b2⟩ := ps_num hP hz2
    obtain ⟨-, -, -, -, -, -, -, -, -, c1, c2, c3, -⟩ := zN_some p2 hz2
    exact Or.inl ⟨v, e', M', rfl, a1, a2, b1, b2, a3, a4, c1, c2, c3⟩
def zpc (m : Nat) : Nat := (m.testBit 0).toNat + (m.testBit 1).toNat + (m.testBit 2).toNat + (m.testBit 3).toNat
theorem zpc_or : ∀ m, m < 16 → ∀ v, v < 4 → m.testBit v = false → zpc (m ||| 2 ^ v) = zpc m + 1 := by decide +kernel
theorem zpc_le : ∀ m, m < 16 → zpc m ≤ 4 := by decide +kernel
def YR9 (M : ZMem) (T : ZT) (o : Nat) (r : ZRow) (mk : Nat) (y : Option (Int32 × ZMem)) : Except Nat (Nat × Nat × ZL × Nat) → Prop
  | .ok z => ∃ M', y = some (nI z.1, M') ∧ RS9 M' T o z.2.1 r z.2.2.1 z.2.2.2 mk ∧ PE T z.2.1 z.2.2.1 z.2.2.2 ∧ z.1 < 2 ^ r 1 ∧ FR9 o M M'
  | .error e => ∃ v M', y = some (v, M') ∧ ES9 M' e ∧ FR9 o M M'
theorem j117e {M : ZMem} {T : ZT} {q y n : Nat} (hT : TT T) (hE : ES9 M q) (hC : TC9 M T) (hy : M 42 2 = nI y) (hyT : y ≤ T.1) (hn : 400 < n) (a b c : Int32) (R : Int32 → Int32 → ZMem → Option (Int32 × ZMem)) : zf_X4_readReach_j117 n (fun v63 M64 => some (v63, M64)) a b R c M = some (a ||| (1 <<< (b &&& 31)), zwr M 42 2 (nI (zrun T zbl y))) := by
  unfold zf_X4_readReach_j117
  rw [zb1_at (skip9 hT hC hy hyT hn), zb1_at (wrong9 (e := q) (by rw [wrj (by omega)]; exact hE.1) hE.2), if_pos rfl]
theorem es9_2 {M : ZMem} {q o x : Nat} (hE : ES9 M q) (hx : x ≤ 400) : ES9 (zwr M 42 2 (nI x)) q ∧ FR9 o M (zwr M 42 2 (nI x)) := ⟨⟨by rw [wrj (by omega)]; exact hE.1, hE.2⟩, fr9_42 (by omega) (by omega)⟩
theorem by9 {T : ZT} {o mk n : Nat} {r : ZRow} (hT : TT T) (hW : WR r) (hn : 400 < n) : ∀ d k fuel mask e x (M : ZMem) (L : ZL) w, k + d = 5 → d < fuel → RS9 M T o x r L w mk → (x = e ∨ x = zrun T zbl e) → PIL T e L w → mask < 2 ^ r 1 → zpc mask = k → YR9 M T o r mk (zf_X4_readReach_L79 n (fun v61 M62 => some (v61, M62)) (fun v63 M64 => some (v63, M64)) fuel (nI mask) (nI k) M) (zbyl T (r 1) d mask e L w) := by
  have hl := hT.1
  have hb := hW.1.b
  have hp16 : 2 ^ r 1 ≤ 2 ^ 4 := Nat.pow_le_pow_right (by decide) (by omega)
  intro d
  induction d with
  | zero =>
    intro k fuel mask e x M L w hk hf hR hx hP hm hpc
    have := zpc_le mask (by omega)
    omega
  | succ d ih =>
    intro k fuel mask e x M L w hk hf hR hx hP hm hpc
    obtain ⟨fuel, rfl⟩ : ∃ y, fuel = y + 1 := ⟨fuel - 1, by omega⟩
    have ho := hR.2.2.1
    have t1 := hR.2.2.2.2.2.2.1.2.1
    have he : zrun T zbl e ≤ 400 := by
      have := zrun_le (T := T) (f := zbl) hP.2.1
      omega
    rw [zf_X4_readReach_L79, show (4 : Int32) = nI 4 from rfl, zi_lt (by omega) (by omega), if_neg (by omega), hR.dy, t1]
    show YR9 M T o r mk _ (zq1 T e 0 (r 1) L w (fun v e2 L2 w2 => if mask.testBit v then .error (zrun T zbl e) else if zrun T zbl e2 < T.1 ∧ zdg (T.2 (zrun T zbl e2)) = true then zbyl T (r 1) d (mask ||| 2 ^ v) e2 L2 w2 else .ok (mask ||| 2 ^ v, zrun T zbl e2, L2, w2)))
    rcases num9x (n := n) hR hx hT hP (hi_m1 (c := r 1) (by omega)) (show 0 ≤ 100000 by omega) hn with ⟨v, e', M1, a1, a2, a3, a4, a5, a6, a7, a8, a9, a10⟩ | ⟨M1, a1, a2, a3, a4, y, a5, a6⟩
    · rw [zq1_some a1, zb2_at (show zf_X4_readNumber n 0 _ M = _ from a2), zb1_at (has9 (a := mask) (j := v) (by omega) (by omega))]
      have he2 := zrun_le (T := T) (f := zbl) a4.2.1
      have hge := zrun_ge T zbl e'
      cases hz : mask.testBit v with
      | true =>
        rw [if_neg (show ¬ zB true = 0 by decide), if_pos rfl, a6, zb1_at (fail9 _ a3.2.2.2.2.1)]
        have hE : ES9 (zwr M1 42 4 (nI (zrun T zbl e))) (zrun T zbl e) := ⟨wre, he⟩
        have w2 : zwr M1 42 4 (nI (zrun T zbl e)) 42 2 = nI e' := by rw [wrj (by omega)]; exact a3.2.2.2.1
        obtain ⟨b1, b2⟩ := es9_2 (o := o) (x := zrun T zbl e') hE (by omega)
        exact ⟨_, _, j117e hT hE (tc9_w a3.1 (by omega)) w2 a4.2.1 hn _ _ _ _, b1, fr9_trans a7 (fr9_trans (fr9_42 (by omega) (by omega)) b2)⟩
      | false =>
        rw [if_pos (show zB false = 0 by decide), if_neg (show ¬ false = true by decide)]
        have hR2 := a3.mv (zrun T zbl e')
        have f2 : FR9 o M1 (zwr M1 42 2 (nI (zrun T zbl e'))) := fr9_42 (by omega) (by omega)
        have hm2 : mask ||| 2 ^ v < 2 ^ r 1 := Nat.or_lt_two_pow hm (Nat.pow_lt_pow_right (by decide) a9)
        unfold zf_X4_readReach_j117
        rw [zb1_at (skip9 hT a3.1 a3.2.2.2.1 a4.2.1 hn), zb1_at (right9 hR2.2.2.2.2.1), if_neg (show ¬ (1 : Int32) = 0 by decide), hR2.2.2.2.1, zb1_at (isDig9 hT hR2.1 (by omega)), or_bit (by omega), nI_1]
        by_cases c : zrun T zbl e' < T.1 ∧ zdg (T.2 (zrun T zbl e')) = true
        · rw [if_pos c, decide_eq_true c.1, c.2, Bool.and_true, if_neg (show ¬ zB true = 0 by decide)]
          have g := ih (k + 1) fuel (mask ||| 2 ^ v) e' (zrun T zbl e') (zwr M1 42 2 (nI (zrun T zbl e'))) (zadn L v) (w + 1) (by omega) (by omega) hR2 (Or.inr rfl) a4 hm2 (by rw [zpc_or mask (by omega) v (by omega) hz, hpc])
          revert g
          cases zbyl T (r 1) d (mask ||| 2 ^ v) e' (zadn L v) (w + 1) with
          | ok z =>
            rintro ⟨M3, g1, g2, g3, g4, g5⟩
            exact ⟨M3, g1, g2, g3, g4, fr9_trans a7 (fr9_trans f2 g5)⟩
          | error z =>
            rintro ⟨u, M3, g1, g2, g3⟩
            exact ⟨u, M3, g1, g2, fr9_trans a7 (fr9_trans f2 g3)⟩
        · have hD2 : (decide (zrun T zbl e' < T.1) && zdg (T.2 (zrun T zbl e'))) = false := by
            cases hz : zdg (T.2 (zrun T zbl e')) with
            | false => rw [Bool.and_false]
            | true => rw [decide_eq_false (fun z => c ⟨z, hz⟩)]; rfl
          rw [if_neg c, hD2, if_pos (show zB false = 0 by decide)]
          obtain ⟨q1, q2, q3, q4⟩ := a5
          exact ⟨_, rfl, hR2, ⟨he2, by show 4 * (zadn L v).1 + 2 * (w + 1) ≤ zrun T zbl e' + 1; omega, q3, q4⟩, hm2, fr9_trans a7 f2⟩
    · rw [zq1_none a1, zb2_at (show zf_X4_readNumber n 0 _ M = _ from a2), zb1_at (has9 (a := mask) (j := 0) (by omega) (by omega))]
      have hC : TC9 M1 T := hR.1.congr a4.2.1 (a4.1 43 (by omega) (by omega) (by omega) (by omega))
      obtain ⟨b1, b2⟩ := es9_2 (o := o) (x := zrun T zbl y) a3 (Nat.le_trans (zrun_le a5) hT.1)
      have g := fun c R => j117e hT a3 hC a6 a5 hn (nI mask) (nI 0) c R
      cases mask.testBit 0 with
      | true =>
        rw [if_neg (show ¬ zB true = 0 by decide), zb1_at (fail9e _ a3.1 a3.2)]
        exact ⟨_, _, g _ _, b1, fr9_trans a4 b2⟩
      | false =>
        rw [if_pos (show zB false = 0 by decide)]
        exact ⟨_, _, g _ _, b1, fr9_trans a4 b2⟩
theorem reach9 {M : ZMem} {T : ZT} {o p w mk n : Nat} {r : ZRow} {L : ZL} (hR : RS9 M T o p r L w mk) (hT : TT T) (hP : PIL T p L w) (hE : PE T p L w) (hW : WR r) (hn : 400 < n) : YR9 M T o r mk (zf_X4_readReach n M) (zreach T (r 1) p L w) := by
  have hl := hT.1
  obtain ⟨p1, p2, p3, p4, p5, p6⟩ := id hP
  have hq1 := zrun_le (T := T) (f := zbl) p2
  have hq0 := zrun_ge T zbl p
  have hR1 := hR.mv (zrun T zbl p)
  have f1 : FR9 o M (zwr M 42 2 (nI (zrun T zbl p))) := fr9_42 (by omega) (by omega)
  have w2 := hR1.2.2.2.1
  unfold zf_X4_readReach
  rw [zb1_at (skip9 hT hR.1 hR.2.2.2.1 p2 hn), zb1_at (right9 hR1.2.2.2.2.1), if_neg (show ¬ (1 : Int32) = 0 by decide), w2, zb1_at (isLet9 hT hR1.1 (by omega))]
  unfold zreach
  by_cases c : zrun T zbl p < T.1 ∧ zlet (T.2 (zrun T zbl p)) = true
  · have hwe := zrun_in c.1 c.2
    have hwl := zrun_le (T := T) (f := zlet) hq1
    have hlast : zlet (T.2 (zrun T zlet (zrun T zbl p) - 1)) = true := zrun_mem (p := zrun T zbl p) (by omega) (by omega)
    have bad : ∃ v M', zf_X4_readReach_j60 (zwr M 42 2 (nI (zrun T zbl p))) = some (v, M') ∧ ES9 M' (zrun T zbl p) ∧ FR9 o M M' := by
      unfold zf_X4_readReach_j60
      rw [w2, zb1_at (fail9 _ hR1.2.2.2.2.1)]
      exact ⟨_, _, rfl, ⟨wre, by omega⟩, fr9_trans f1 (fr9_42 (by omega) (by omega))⟩
    rw [if_pos c, decide_eq_true c.1, c.2, Bool.and_true, if_neg (show ¬ zB true = 0 by decide), zb1_at (wordEnd9 hT hR1.1 hq1 hn), zb1_at (isBl9 hT hR1.1 (by omega))]
    by_cases c2 : 0 < zrun T zbl p ∧ zbl (T.2 (zrun T zbl p - 1)) = true
    · rw [decide_eq_true c2.1, decide_eq_true (show zrun T zbl p - 1 < T.1 by omega), c2.2, Bool.and_true, Bool.and_true, if_neg (show ¬ zB true = 0 by decide), zb1_at (isWord9 hT hR1.1 (by omega) (by omega) hwl (by omega))]
      cases c3 : zisw T (zrun T zbl p) (zrun T zlet (zrun T zbl p)) 8 with
      | true =>
        rw [if_neg (show ¬ zB true = 0 by decide), if_pos ⟨⟨c2.1, rfl⟩, rfl⟩, zput_at]
        have hR2 := hR1.mv (zrun T zlet (zrun T zbl p))
        have g := by9 (T := T) (o := o) (mk := mk) (n := n) (r := r) hT hW hn 5 0 n 0 (zrun T zlet (zrun T zbl p)) _ _ L w rfl (by omega) hR2 (Or.inl rfl) ⟨by omega, hwl, zlet_nb hlast, by omega, p5, p6⟩ (Nat.two_pow_pos _) rfl
        have g' : YR9 _ T o r mk (zf_X4_readReach_L79 n (fun v61 M62 => some (v61, M62)) (fun v63 M64 => some (v63, M64)) n 0 0 (zwr (zwr M 42 2 (nI (zrun T zbl p))) 42 2 (nI (zrun T zlet (zrun T zbl p))))) _ := g
        have f2 : FR9 o M (zwr (zwr M 42 2 (nI (zrun T zbl p))) 42 2 (nI (zrun T zlet (zrun T zbl p)))) := fr9_trans f1 (fr9_42 (by omega) (by omega))
        revert g'
        cases zbyl T (r 1) 5 0 (zrun T zlet (zrun T zbl p)) L w with
        | ok z =>
          rintro ⟨M3, g1, g2, g3, g4, g5⟩
          exact ⟨M3, g1, g2, g3, g4, fr9_trans f2 g5⟩
        | error z =>
          rintro ⟨u, M3, g1, g2, g3⟩
          exact ⟨u, M3, g1, g2, fr9_trans f2 g3⟩
      | false =>
        rw [if_pos (show zB false = 0 by decide), if_neg (fun z => by cases z.2)]
        exact bad
    · have hB2 : (decide (0 < zrun T zbl p) && decide (zrun T zbl p - 1 < T.1) && zbl (T.2 (zrun T zbl p - 1))) = false := by
        cases hz : zbl (T.2 (zrun T zbl p - 1)) with
        | false => rw [Bool.and_false]
        | true => rw [decide_eq_false (fun z => c2 ⟨z, hz⟩)]; rfl
      rw [hB2, if_pos (show zB false = 0 by decide), if_neg (fun z => c2 z.1)]
      exact bad
  · have hD2 : (decide (zrun T zbl p < T.1) && zlet (T.2 (zrun T zbl p))) = false := by
      cases hz : zlet (T.2 (zrun T zbl p)) with
      | false => rw [Bool.and_false]
      | true => rw [decide_eq_false (fun z => c ⟨z, hz⟩)]; rfl
    rw [if_neg c, hD2, if_pos (show zB false = 0 by decide)]
    obtain ⟨q1, q2, q3, q4⟩ := hE
    exact ⟨_, rfl, hR1, ⟨hq1, by show 4 * L.1 + 2 * w ≤ zrun T zbl p + 1; omega, q3, q4⟩, Nat.two_pow_pos _, f1⟩
