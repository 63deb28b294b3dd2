/-! LAYER 2: the class reads a number -/
def RS9 (M : ZMem) (T : ZT) (o p : Nat) (r : ZRow) (L : ZL) (w mk : Nat) : Prop := TC9 M T ∧ M 42 6 = nI o ∧ (o = 1 ∨ o = 44) ∧ M 42 2 = nI p ∧ M 42 4 = -1 ∧ M 42 5 = nI mk ∧ TD M o r ∧ SDc M 55 r ∧ LR9 M o L w
def ES9 (M : ZMem) (e : Nat) : Prop := M 42 4 = nI e ∧ e ≤ 400
def zV2 (M : ZMem) : Prop := ∃ y, y ≤ 400 ∧ M 42 2 = nI y
def FR9 (o : Nat) (M M' : ZMem) : Prop := (∀ k, k ≠ 42 → k ≠ 55 → k ≠ 56 → (k < o ∨ o + 10 < k) → M' k = M k) ∧ M' 42 1 = M 42 1 ∧ M' 42 6 = M 42 6 ∧ (zV2 M → zV2 M')
theorem fr9_refl (o : Nat) (M : ZMem) : FR9 o M M := ⟨fun _ _ _ _ _ => rfl, rfl, rfl, id⟩
theorem fr9_trans {o : Nat} {A B C : ZMem} (h : FR9 o A B) (g : FR9 o B C) : FR9 o A C := ⟨fun k a b c d => (g.1 k a b c d).trans (h.1 k a b c d), g.2.1.trans h.2.1, g.2.2.1.trans h.2.2.1, fun z => g.2.2.2 (h.2.2.2 z)⟩
theorem fr9_42 {o : Nat} {M : ZMem} {j : Nat} {x : Int32} (h1 : j ≠ 1) (h6 : j ≠ 6) (h2 : j ≠ 2 ∨ ∃ q, q ≤ 400 ∧ x = nI q := by first | (left; omega) | (right; exact ⟨_, by omega, rfl⟩)) : FR9 o M (zwr M 42 j x) := ⟨fun k a b c d => wrn a, wrj (Ne.symm h1), wrj (Ne.symm h6), fun z => by
  by_cases e : j = 2
  · rcases h2 with h2 | ⟨q, q1, q2⟩
    · exact absurd e h2
    · exact ⟨q, q1, by rw [e, wre, q2]⟩
  · obtain ⟨y, y1, y2⟩ := z
    exact ⟨y, y1, by rw [wrj (Ne.symm e)]; exact y2⟩⟩
theorem RS9.dy {β : Type} {M : ZMem} {T : ZT} {o p w mk : Nat} {r : ZRow} {L : ZL} (h : RS9 M T o p r L w mk) {K : Nat → Option β} : zdy M 42 6 (7, 17) K = K o := by
  rcases h.2.2.1 with e | e
  · exact zdy_at h.2.1 (by omega) (by rw [e]; rfl)
  · exact zdy_at h.2.1 (by omega) (by rw [e]; rfl)
theorem dy6 {β : Type} {M : ZMem} {o : Nat} (h : M 42 6 = nI o) (ho : o = 1 ∨ o = 44) {K : Nat → Option β} : zdy M 42 6 (7, 17) K = K o := by
  rcases ho with e | e
  · exact zdy_at h (by omega) (by rw [e]; rfl)
  · exact zdy_at h (by omega) (by rw [e]; rfl)
/-- a reader that has moved -/
theorem RS9.mv {M : ZMem} {T : ZT} {o p w mk : Nat} {r : ZRow} {L : ZL} (h : RS9 M T o p r L w mk) (q : Nat) : RS9 (zwr M 42 2 (nI q)) T o q r L w mk := by
  obtain ⟨h1, h2, h3, h4, h5, h6, h7, h8, h9⟩ := h
  exact ⟨tc9_w h1 (by omega), by rw [wrj (by omega)]; exact h2, h3, wre, by rw [wrj (by omega)]; exact h5, by rw [wrj (by omega)]; exact h6, h7.congr (fun k a b => wrn (by omega)), h8.congr (wrn (by omega)) (wrn (by omega)), h9.congr (by rw [wrn (by omega)]) (by rw [wrn (by omega)]) (wrn (by omega)) (wrn (by omega)) (wrn (by omega)) (wrn (by omega))⟩
theorem RS9.w3 {M : ZMem} {T : ZT} {o p w mk : Nat} {r : ZRow} {L : ZL} (h : RS9 M T o p r L w mk) (x : Int32) : RS9 (zwr M 42 3 x) T o p r L w mk := by
  obtain ⟨h1, h2, h3, h4, h5, h6, h7, h8, h9⟩ := h
  exact ⟨tc9_w h1 (by omega), by rw [wrj (by omega)]; exact h2, h3, by rw [wrj (by omega)]; exact h4, by rw [wrj (by omega)]; exact h5, by rw [wrj (by omega)]; exact h6, h7.congr (fun k a b => wrn (by omega)), h8.congr (wrn (by omega)) (wrn (by omega)), h9.congr (by rw [wrn (by omega)]) (by rw [wrn (by omega)]) (wrn (by omega)) (wrn (by omega)) (wrn (by omega)) (wrn (by omega))⟩
theorem digits9 {T : ZT} (hT : TT T) {q : Nat} (K : Int32 → ZMem → Option (Int32 × ZMem)) : ∀ d x m (S : ZMem), T.1 - x = d → q ≤ x → x ≤ T.1 → d < m → TC9 S T → S 42 2 = nI x → S 42 3 = nI q → (∀ j, j < x - q → zdg (T.2 (q + j)) = true) → zf_X4_readNumber_L57 K m (nI (zvl T q (min 5 (x - q)))) S = K (nI (zvl T q (min 5 (zrun T zdg x - q)))) (zwr S 42 2 (nI (zrun T zdg x))) := by
  have hl := hT.1
  intro d
  induction d with
  | zero =>
    intro x m S hd hq hx hm h h2 h3 hdg
    obtain ⟨m, rfl⟩ : ∃ y, m = y + 1 := ⟨m - 1, by omega⟩
    rw [zf_X4_readNumber_L57, h.1, h2, zi_le (by omega) (by omega), if_pos (by omega), zrun_stop (Or.inl (by omega)), zwr_same h2]
  | succ d ih =>
    intro x m S hd hq hx hm h h2 h3 hdg
    obtain ⟨m, rfl⟩ : ∃ y, m = y + 1 := ⟨m - 1, by omega⟩
    have hb := hT.2 x (by omega)
    rw [zf_X4_readNumber_L57, h.1, h2, h3, zi_le (by omega) (by omega), if_neg (by omega), tc9_rd h hT (by omega), tc9_rd h hT (by omega), tc9_rd h hT (by omega), show (48 : Int32) = nI 48 from rfl, show (57 : Int32) = nI 57 from rfl, show (5 : Int32) = nI 5 from rfl, pk_sub hq, zi_lt (by omega) (by omega), zi_lt (by omega) (by omega), zi_le (by omega) (by omega)]
    have go : ∀ y, y = zvl T q (min 5 (x + 1 - q)) → zdg (T.2 x) = true → zf_X4_readNumber_j127 S (fun x0 x1 => zf_X4_readNumber_L57 K m x0 x1) (nI y) = K (nI (zvl T q (min 5 (zrun T zdg x - q)))) (zwr S 42 2 (nI (zrun T zdg x))) := by
      intro y hy hz
      unfold zf_X4_readNumber_j127
      rw [zput_at, h2, nI_1, hy, zrun_step (p := x) (by omega) hz]
      refine (ih (x + 1) m (zwr S 42 2 (nI (x + 1))) (by omega) (by omega) (by omega) (by omega) (tc9_w h (by omega)) wre (by rw [wrj (by omega)]; exact h3) (fun j hj => ?_)).trans ?_
      · by_cases e : j = x - q
        · rw [e, show q + (x - q) = x by omega]; exact hz
        · exact hdg j (by omega)
      · rw [zwr_zwr]
    by_cases e1 : T.2 x < 48
    · rw [if_pos e1, zrun_stop (Or.inr (by simp only [zdg, Bool.and_eq_false_iff, decide_eq_false_iff_not]; omega)), zwr_same h2]
    · rw [if_neg e1]
      by_cases e2 : 57 < T.2 x
      · rw [if_pos e2, zrun_stop (Or.inr (by simp only [zdg, Bool.and_eq_false_iff, decide_eq_false_iff_not]; omega)), zwr_same h2]
      · have hz : zdg (T.2 x) = true := by simp only [zdg, Bool.and_eq_true, decide_eq_true_eq]; omega
        rw [if_neg e2]
        by_cases e3 : 5 ≤ x - q
        · rw [if_pos e3]
          exact go _ (by rw [Nat.min_eq_left e3, Nat.min_eq_left (by omega)]) hz
        · have hv := zvl_lt (T := T) (q := q) (x - q) hdg
          have e4 : nI (zvl T q (min 5 (x - q))) * 10 + nI (T.2 x) - nI 48 = nI (zvl T q (x + 1 - q)) := by
            rw [Nat.min_eq_right (by omega), show (10 : Int32) = nI 10 from rfl, pk_mul, nI_add, pk_sub (by omega), show x + 1 - q = (x - q) + 1 by omega, zvl_s, show q + (x - q) = x by omega]
            congr 1
            omega
          rw [if_neg e3, e4]
          exact go _ (by rw [Nat.min_eq_right (by omega)]) hz
theorem zN_some {T : ZT} {p lo hi v e : Nat} (hp : p ≤ T.1) (h : zN T p lo hi = some (v, e)) : zrun T zbl p < T.1 ∧ zdg (T.2 (zrun T zbl p)) = true ∧ 0 < zrun T zbl p ∧ zbl (T.2 (zrun T zbl p - 1)) = true ∧ e = zrun T zdg (zrun T zbl p) ∧ zrun T zbl p + 1 ≤ e ∧ e ≤ zrun T zbl p + 5 ∧ e ≤ T.1 ∧ v = zvl T (zrun T zbl p) (e - zrun T zbl p) ∧ lo ≤ v ∧ v < hi ∧ v < 100000 ∧ zdg (T.2 (e - 1)) = true := by
  unfold zN at h
  split at h
  · rename_i hc
    obtain ⟨c1, c2, c3, c4, c5, c6, c7⟩ := hc
    have h' := Option.some.inj h
    have hv : zvl T (zrun T zbl p) (zrun T zdg (zrun T zbl p) - zrun T zbl p) = v := congrArg Prod.fst h'
    have he : zrun T zdg (zrun T zbl p) = e := congrArg Prod.snd h'
    rw [hv] at c6 c7
    rw [he] at c5 hv
    have g1 := zrun_in c1 c2
    rw [he] at g1
    have g2 := zrun_le (T := T) (f := zdg) (show zrun T zbl p ≤ T.1 by omega)
    rw [he] at g2
    have g3 : ∀ k, zrun T zbl p ≤ k → k < e → zdg (T.2 k) = true := fun k a b => zrun_mem a (by rw [he]; exact b)
    have g4 := zvl_lt (T := T) (q := zrun T zbl p) (e - zrun T zbl p) (fun j hj => g3 _ (by omega) (by omega))
    have g5 : 10 ^ (e - zrun T zbl p) ≤ 10 ^ 5 := Nat.pow_le_pow_right (by decide) c5
    exact ⟨c1, c2, c3, c4, he.symm, g1, by omega, g2, hv.symm, c6, c7, by omega, g3 _ (by omega) (by omega)⟩
  · cases h
theorem readN_err {M : ZMem} {e n : Nat} (h : ES9 M e) (a b : Int32) : zf_X4_readNumber n a b M = some (a, M) := by
  unfold zf_X4_readNumber
  rw [zb1_at (wrong9 h.1 h.2), if_pos rfl]
/-- up to the digits -/
theorem readN_go {M : ZMem} {T : ZT} {o p w mk n lo hi : Nat} {r : ZRow} {L : ZL} {x : Int32} (hR : RS9 M T o p r L w mk) (hT : TT T) (hp : p ≤ T.1) (hn : 400 < n) (hH : HI x hi) (hlo : lo ≤ 100000) (hl : L.1 ≤ 80) (hl0 : 0 < L.1) (hw : w < 200) :
    (∀ v e, zN T p lo hi = some (v, e) → ∃ M', zf_X4_readNumber n (nI lo) x M = some (nI v, M') ∧ RS9 M' T o e r (zadn L v) (w + 1) mk ∧ M' 42 3 = nI (zrun T zbl p) ∧ FR9 o M M')
    ∧ (zN T p lo hi = none → ∃ M', zf_X4_readNumber n (nI lo) x M = some (nI lo, M') ∧ ES9 M' (zrun T zbl p) ∧ FR9 o M M' ∧ ∃ y, y ≤ T.1 ∧ M' 42 2 = nI y) := by
  have hTl := hT.1
  have hq1 := zrun_le (T := T) (f := zbl) hp
  have hR1 := hR.mv (zrun T zbl p)
  have hs := skip9 (n := n) hT hR.1 hR.2.2.2.1 hp hn
  have hr := right9 hR.2.2.2.2.1
  have f1 : FR9 o M (zwr M 42 2 (nI (zrun T zbl p))) := fr9_42 (by omega) (by omega)
  have p2 : zwr M 42 2 (nI (zrun T zbl p)) 42 2 = nI (zrun T zbl p) := wre
  have hD := isDig9 hT hR1.1 (k := zrun T zbl p) (by omega)
  have hB := isBl9 hT hR1.1 (k := zrun T zbl p) (by omega)
  generalize zwr M 42 2 (nI (zrun T zbl p)) = M1 at *
  have bad : ∀ (S : ZMem) (y : Int32) (z : Nat), y = nI (zrun T zbl p) → S 42 4 = -1 → FR9 o M S → S 42 2 = nI z → z ≤ T.1 → ∃ M', zb1 (zf_X4_fail y S) (fun M37 => some (nI lo, M37)) = some (nI lo, M') ∧ ES9 M' (zrun T zbl p) ∧ FR9 o M M' ∧ ∃ y, y ≤ T.1 ∧ M' 42 2 = nI y := by
    intro S y z hy h4 hF hz hzT
    refine ⟨zwr S 42 4 y, by rw [zb1_at (fail9 y h4)], ⟨by rw [wre, hy], by omega⟩, fr9_trans hF (fr9_42 (by omega) (by omega)), z, hzT, by rw [wrj (by omega)]; exact hz⟩
  unfold zf_X4_readNumber
  rw [zb1_at hr, if_neg (show ¬ (1 : Int32) = 0 by decide), zb1_at hs, p2, zb1_at hD]
  by_cases c1 : zrun T zbl p < T.1 ∧ zdg (T.2 (zrun T zbl p)) = true
  · rw [decide_eq_true c1.1, c1.2, Bool.and_true, if_neg (show ¬ zB true = 0 by decide), zb1_at hB]
    by_cases c2 : 0 < zrun T zbl p ∧ zbl (T.2 (zrun T zbl p - 1)) = true
    · rw [decide_eq_true c2.1, decide_eq_true (show zrun T zbl p - 1 < T.1 by omega), c2.2, Bool.and_true, Bool.and_true, if_neg (show ¬ zB true = 0 by decide), zput_at]
      have hR2 := hR1.w3 (nI (zrun T zbl p))
      have f2 : FR9 o M (zwr M1 42 3 (nI (zrun T zbl p))) := fr9_trans f1 (fr9_42 (by omega) (by omega))
      have hd := digits9 hT (q := zrun T zbl p) (fun v49 M50 => (if (5 : Int32) < ((M50 42 2) - (M50 42 3)) then (zf_X4_readNumber_j163 M50 (nI lo)) else (if v49 < nI lo then (zf_X4_readNumber_j163 M50 (nI lo)) else (if v49 ≤ x then zdy M50 42 6 (7, 17) (fun o52 => zb1 (zf_X8_addNumber o52 v49 M50) (fun M53 => some (v49, M53))) else (zf_X4_readNumber_j163 M50 (nI lo)))))) _ (zrun T zbl p) n (zwr M1 42 3 (nI (zrun T zbl p))) rfl (Nat.le_refl _) hq1 (by omega) hR2.1 hR2.2.2.2.1 wre (fun j hj => by omega)
      rw [Nat.sub_self] at hd
      have e0 : (zrun T zbl p) ≤ zrun T zdg (zrun T zbl p) := zrun_ge _ _ _
      have e1 := zrun_le (T := T) (f := zdg) hq1
      have hR3 := hR2.mv (zrun T zdg (zrun T zbl p))
      have f3 : FR9 o M (zwr (zwr M1 42 3 (nI (zrun T zbl p))) 42 2 (nI (zrun T zdg (zrun T zbl p)))) := fr9_trans f2 (fr9_42 (by omega) (by omega))
      have q2 : zwr (zwr M1 42 3 (nI (zrun T zbl p))) 42 2 (nI (zrun T zdg (zrun T zbl p))) 42 2 = nI (zrun T zdg (zrun T zbl p)) := wre
      have q3 : zwr (zwr M1 42 3 (nI (zrun T zbl p))) 42 2 (nI (zrun T zdg (zrun T zbl p))) 42 3 = nI (zrun T zbl p) := by rw [wrj (by omega), wre]
      generalize zwr (zwr M1 42 3 (nI (zrun T zbl p))) 42 2 (nI (zrun T zdg (zrun T zbl p))) = M3 at *
      have hlast := bad M3 (M3 42 3) _ q3 hR3.2.2.2.2.1 f3 q2 e1
      have hd2 : zf_X4_readNumber_L57 (fun v49 M50 => (if (5 : Int32) < ((M50 42 2) - (M50 42 3)) then (zf_X4_readNumber_j163 M50 (nI lo)) else (if v49 < nI lo then (zf_X4_readNumber_j163 M50 (nI lo)) else (if v49 ≤ x then zdy M50 42 6 (7, 17) (fun o52 => zb1 (zf_X8_addNumber o52 v49 M50) (fun M53 => some (v49, M53))) else (zf_X4_readNumber_j163 M50 (nI lo)))))) n 0 (zwr M1 42 3 (nI (zrun T zbl p))) = _ := hd
      rw [hd2]
      show (∀ v e, _ → ∃ M', (if (5 : Int32) < ((M3 42 2) - (M3 42 3)) then _ else _) = _ ∧ _) ∧ (_ → ∃ M', (if (5 : Int32) < ((M3 42 2) - (M3 42 3)) then _ else _) = _ ∧ _)
      rw [q2, q3, pk_sub e0, show (5 : Int32) = nI 5 from rfl, zi_lt (by omega) (by omega)]
      rw [q3] at hlast
      unfold zf_X4_readNumber_j163
      rw [q3]
      by_cases c3 : zrun T zdg (zrun T zbl p) - zrun T zbl p ≤ 5
      · have g3 : ∀ k, zrun T zbl p ≤ k → k < zrun T zdg (zrun T zbl p) → zdg (T.2 k) = true := fun k a b => zrun_mem a b
        have g4 := zvl_lt (T := T) (q := zrun T zbl p) (zrun T zdg (zrun T zbl p) - zrun T zbl p) (fun j hj => g3 _ (by omega) (by omega))
        have g5 : 10 ^ (zrun T zdg (zrun T zbl p) - zrun T zbl p) ≤ 10 ^ 5 := Nat.pow_le_pow_right (by decide) c3
        rw [if_neg (by omega), Nat.min_eq_right c3, zi_lt (by omega) (by omega)]
        by_cases c4 : zvl T (zrun T zbl p) (zrun T zdg (zrun T zbl p) - zrun T zbl p) < lo
        · rw [if_pos c4]
          refine ⟨fun v e h => ?_, fun _ => hlast⟩
          obtain ⟨-, -, -, -, d1, -, -, -, d2, d3, -, -, -⟩ := zN_some hp h
          rw [← d1, ← d2] at c4
          omega
        · rw [if_neg c4]
          by_cases c5 : zvl T (zrun T zbl p) (zrun T zdg (zrun T zbl p) - zrun T zbl p) < hi
          · rw [if_pos ((hH _ (by omega)).mpr c5), hR3.dy]
            have hN : zN T p lo hi = some (zvl T (zrun T zbl p) (zrun T zdg (zrun T zbl p) - zrun T zbl p), zrun T zdg (zrun T zbl p)) := by
              unfold zN
              rw [if_pos ⟨c1.1, c1.2, c2.1, c2.2, c3, by omega, c5⟩]
            refine ⟨fun v e h => ?_, fun h => by rw [hN] at h; cases h⟩
            rw [hN] at h
            have h' := Option.some.inj h
            have hv : zvl T (zrun T zbl p) (zrun T zdg (zrun T zbl p) - zrun T zbl p) = v := congrArg Prod.fst h'
            have he : zrun T zdg (zrun T zbl p) = e := congrArg Prod.snd h'
            rw [hv]
            rw [he] at hR3
            obtain ⟨M4, a1, a2, a3, a4⟩ := addNumber9 (v := v) hR3.2.2.2.2.2.2.2.2 hl hl0 hw
            have ho := hR3.2.2.1
            refine ⟨M4, by rw [zb1_at a1], ⟨?_, ?_, ho, ?_, ?_, ?_, ?_, ?_, a2⟩, ?_, ?_⟩
            · exact hR3.1.congr (by rw [a3 42 (by omega) (by omega) (by omega)]) (a3 43 (by omega) (by omega) (by omega))
            · rw [a3 42 (by omega) (by omega) (by omega)]; exact hR3.2.1
            · rw [a3 42 (by omega) (by omega) (by omega)]; exact hR3.2.2.2.1
            · rw [a3 42 (by omega) (by omega) (by omega)]; exact hR3.2.2.2.2.1
            · rw [a3 42 (by omega) (by omega) (by omega)]; exact hR3.2.2.2.2.2.1
            · obtain ⟨t1, t2, t3, t4, t5, t6, t7⟩ := hR3.2.2.2.2.2.2.1
              refine ⟨by rw [a4 0 (by omega)]; exact t1, by rw [a4 1 (by omega)]; exact t2, by rw [a4 8 (by omega)]; exact t3, by rw [a4 9 (by omega)]; exact t4, by rw [a4 10 (by omega)]; exact t5, fun i hi => ?_, fun c hc => ?_⟩
              · rw [a3 _ (by omega) (by omega) (by omega), a3 _ (by omega) (by omega) (by omega), a3 _ (by omega) (by omega) (by omega), a3 _ (by omega) (by omega) (by omega)]
                exact t6 i hi
              · rw [a3 _ (by omega) (by omega) (by omega), a3 _ (by omega) (by omega) (by omega)]
                exact t7 c hc
            · exact hR3.2.2.2.2.2.2.2.1.congr (a3 55 (by omega) (by omega) (by omega)) (a3 56 (by omega) (by omega) (by omega))
            · rw [a3 42 (by omega) (by omega) (by omega)]; exact q3
            · exact fr9_trans f3 ⟨fun k b c d e => a3 k (by omega) (by omega) (by omega), by rw [a3 42 (by omega) (by omega) (by omega)], by rw [a3 42 (by omega) (by omega) (by omega)], fun ⟨y, y1, y2⟩ => ⟨y, y1, by rw [a3 42 (by omega) (by omega) (by omega)]; exact y2⟩⟩
          · rw [if_neg (fun z => c5 ((hH _ (by omega)).mp z))]
            refine ⟨fun v e h => ?_, fun _ => hlast⟩
            obtain ⟨-, -, -, -, d1, -, -, -, d2, -, d3, -, -⟩ := zN_some hp h
            rw [← d1, ← d2] at c5
            omega
      · rw [if_pos (by omega)]
        refine ⟨fun v e h => ?_, fun _ => hlast⟩
        obtain ⟨-, -, -, -, d1, -, d3, -, -, -, -, -, -⟩ := zN_some hp h
        omega
    · have hB2 : (decide (0 < zrun T zbl p) && decide (zrun T zbl p - 1 < T.1) && zbl (T.2 (zrun T zbl p - 1))) = false := by
        cases hz : zbl (T.2 (zrun T zbl p - 1)) with
        | false => rw [Bool.and_false]
        | true => rw [decide_eq_false (fun z => c2 ⟨z, hz⟩)]; rfl
      rw [hB2, if_pos (show zB false = 0 by decide)]
      unfold zf_X4_readNumber_j37
      rw [p2]
      refine ⟨fun v e h => ?_, fun _ => bad M1 _ _ rfl hR1.2.2.2.2.1 f1 p2 hq1⟩
      obtain ⟨-, -, d1, d2, -⟩ := zN_some hp h
      exact absurd ⟨d1, d2⟩ c2
  · have hD2 : (decide (zrun T zbl p < T.1) && zdg (T.2 (zrun T zbl p))) = false := by
      cases hz : zdg (T.2 (zrun T zbl p)) with
      | false => rw [Bool.and_false]
      | true => rw [decide_eq_false (fun z => c1 ⟨z, hz⟩)]; rfl
    rw [hD2, if_pos (show zB false = 0 by decide)]
    unfold zf_X4_readNumber_j37
    rw [p2]
    refine ⟨fun v e h => ?_, fun _ => bad M1 _ _ rfl hR1.2.2.2.2.1 f1 p2 hq1⟩
    obtain ⟨d1, d2, -⟩ := zN_some hp h
    exact absurd ⟨d1, d2⟩ c1
