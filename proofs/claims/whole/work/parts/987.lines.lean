/-! LAYER 2: more lines, as the class reads them -/
theorem TD.tb {M : ZMem} {t : Nat} {r q : ZRow} (h : TD M t r) (h0 : r 0 ≤ 10) (h1 : r 1 ≤ 4) (ht : TA r q) : TD M t q := by
  obtain ⟨t1, t2, t3, t4, t5, t6, t7⟩ := h
  have e0 := ht 0 (by unfold zto; omega)
  have e1 := ht 1 (by unfold zto; omega)
  refine ⟨by rw [e0]; exact t1, by rw [e1]; exact t2, by rw [ht 3 (by unfold zto; omega)]; exact t3, by rw [ht 4 (by unfold zto; omega)]; exact t4, by rw [ht 5 (by unfold zto; omega)]; exact t5, fun i hi => ?_, fun c hc => ?_⟩
  · rw [e0] at hi
    rw [ht (15 + i) (by unfold zto; omega), ht (25 + i) (by unfold zto; omega), ht (35 + i) (by unfold zto; omega), ht (45 + i) (by unfold zto; omega)]
    exact t6 i hi
  · rw [e1] at hc
    rw [ht (55 + c) (by unfold zto; omega), ht (59 + c) (by unfold zto; omega)]
    exact t7 c hc
theorem TD.put1 {M : ZMem} {o : Nat} {r : ZRow} (h : TD M o r) (a j v : Nat) (hp : (a = 8 ∧ j = 3) ∨ (a = 9 ∧ j = 4) ∨ (a = 10 ∧ j = 5)) : TD (zwr M o a (nI v)) o (zat r j v) := by
  obtain ⟨t1, t2, t3, t4, t5, t6, t7⟩ := h
  have hj : 3 ≤ j ∧ j ≤ 5 := by omega
  have ha : 8 ≤ a ∧ a ≤ 10 := by omega
  have e0 : zat r j v 0 = r 0 := zat_ne (by omega)
  have e1 : zat r j v 1 = r 1 := zat_ne (by omega)
  refine ⟨by rw [wrj (by omega), e0]; exact t1, by rw [wrj (by omega), e1]; exact t2, ?_, ?_, ?_, fun i hi => ?_, fun c hc => ?_⟩
  · rcases hp with ⟨rfl, rfl⟩ | ⟨rfl, rfl⟩ | ⟨rfl, rfl⟩
    · rw [wre, zat_eq]
    · rw [wrj (by omega), zat_ne (by omega)]; exact t3
    · rw [wrj (by omega), zat_ne (by omega)]; exact t3
  · rcases hp with ⟨rfl, rfl⟩ | ⟨rfl, rfl⟩ | ⟨rfl, rfl⟩
    · rw [wrj (by omega), zat_ne (by omega)]; exact t4
    · rw [wre, zat_eq]
    · rw [wrj (by omega), zat_ne (by omega)]; exact t4
  · rcases hp with ⟨rfl, rfl⟩ | ⟨rfl, rfl⟩ | ⟨rfl, rfl⟩
    · rw [wrj (by omega), zat_ne (by omega)]; exact t5
    · rw [wrj (by omega), zat_ne (by omega)]; exact t5
    · rw [wre, zat_eq]
  · clear hp
    rw [e0] at hi
    rw [wrn (by omega), wrn (by omega), wrn (by omega), wrn (by omega), zat_ne (by omega), zat_ne (by omega), zat_ne (by omega), zat_ne (by omega)]
    exact t6 i hi
  · clear hp
    rw [e1] at hc
    rw [wrn (by omega), wrn (by omega), zat_ne (by omega), zat_ne (by omega)]
    exact t7 c hc
theorem body9_b {M : ZMem} {T : ZT} {o p w mk n : Nat} {r : ZRow} {L : ZL} (hR : RS9 M T o p r L w mk) (hT : TT T) (hP : PIL T p L w) (hW : WR r) (hn : 400 < n) (m a j : Nat) (hm : m ≤ 999) (hp : (a = 8 ∧ j = 3) ∨ (a = 9 ∧ j = 4) ∨ (a = 10 ∧ j = 5)) :
    BR9 M T o mk (fun K => zdy M 42 6 (7, 17) (fun o63 => zb2 (zf_X4_readNumber n 0 (nI m) M) (fun v64 M65 => zput M65 o63 a v64 (fun M66 => K M66)))) (zq1 T p 0 (m + 1) L w (fun v e L w => .ok (e, zat r j v, L, w))) := by
  have ho := hR.2.2.1
  have ha : 8 ≤ a ∧ a ≤ 10 := by omega
  have hj : 3 ≤ j ∧ j ≤ 5 := by omega
  rcases num9 (n := n) hR hT hP (hi_lit (m := m) (by omega)) (show 0 ≤ 100000 by omega) hn with ⟨v, e, M1, a1, a2, a3, a4, a5, a6, a7, a8, a9, a10⟩ | ⟨M1, a1, a2, a3, a4⟩
  · rw [zq1_some a1]
    have ht := a3.2.2.2.2.2.2.1.put1 a j v hp
    clear hp
    have hs := (a3.2.2.2.2.2.2.2.1.congr (M' := zwr M1 o a (nI v)) (wrn (by omega)) (wrn (by omega))).rr (q := zat r j v) hW.2.2.2.2.1 (fun i hi => zat_ne (by omega))
    obtain ⟨b1, b2⟩ := a3.upd (M' := zwr M1 o a (nI v)) (fun k x y z => wrn (by omega)) (wrj (by omega)) (wrj (by omega)) ht hs
    exact ⟨_, fun K => by show zdy _ _ _ _ _ = _; rw [hR.dy, zb2_at (show zf_X4_readNumber n 0 (nI m) M = _ from a2)]; rfl, b1, a5, fr9_trans a7 b2⟩
  · rw [zq1_none a1]
    obtain ⟨b1, b2⟩ := es9_w (k := o) (j := a) (v := nI 0) ho a3 (by clear hp; omega)
    exact ⟨_, fun K => by show zdy _ _ _ _ _ = _; rw [hR.dy, zb2_at (show zf_X4_readNumber n 0 (nI m) M = _ from a2)]; rfl, b1, fr9_trans a4 b2⟩
theorem body9_4 {M : ZMem} {T : ZT} {o p w mk n : Nat} {r : ZRow} {L : ZL} (hR : RS9 M T o p r L w mk) (hT : TT T) (hP : PIL T p L w) (hW : WR r) (hn : 400 < n) :
    BR9 M T o mk (fun K => zb2 (zf_X4_readNumber n 0 (99) M) (fun v75 M76 => zput M76 55 9 v75 (fun M77 => zb2 (zf_X4_readNumber n (M77 55 9) (99) M77) (fun v78 M79 => zput M79 55 10 v78 (fun M80 => K M80))))) (zbody T 4 p r L w) := by
  have ho := hR.2.2.1
  have hb := hW.1.b
  show BR9 M T o mk _ (zq1 T p 0 100 L w (fun v e L w => zq1 T e v 100 L w (fun x e L w => .ok (e, zat (zat r 6 v) 7 x, L, w))))
  rcases num9 (n := n) hR hT hP (hi_lit (m := 99) (by omega)) (show 0 ≤ 100000 by omega) hn with ⟨v, e, M1, a1, a2, a3, a4, a5, a6, a7, a8, a9, a10⟩ | ⟨M1, a1, a2, a3, a4⟩
  · rw [zq1_some a1]
    have hs := a3.2.2.2.2.2.2.2.1.put hW.1.1 9 6 v (by omega)
    obtain ⟨b1, b2⟩ := a3.upd (M' := zwr M1 55 9 (nI v)) (fun k x y z => wrn x) (by rw [wrn (by omega)]) (by rw [wrn (by omega)]) ((a3.2.2.2.2.2.2.1.congr (fun k x y => wrn (by omega))).tb (by omega) (by omega) (TA.at r v (by unfold zto; omega))) hs
    have w9 : zwr M1 55 9 (nI v) 55 9 = nI v := wre
    rcases num9 (n := n) b1 hT a4 (hi_lit (m := 99) (by omega)) (show v ≤ 100000 by omega) hn with ⟨v', e', M2, c1, c2, c3, c4, c5, c6, c7, c8, c9, c10⟩ | ⟨M2, c1, c2, c3, c4⟩
    · rw [zq1_some c1]
      have hs2 := c3.2.2.2.2.2.2.2.1.put (show zat r 6 v 0 ≤ 10 by rw [zat_ne (by omega)]; omega) 10 7 v' (by omega)
      obtain ⟨d1, d2⟩ := c3.upd (M' := zwr M2 55 10 (nI v')) (fun k x y z => wrn x) (by rw [wrn (by omega)]) (by rw [wrn (by omega)]) ((c3.2.2.2.2.2.2.1.congr (fun k x y => wrn (by omega))).tb (by rw [zat_ne (by omega)]; omega) (by rw [zat_ne (by omega)]; omega) (TA.at (zat r 6 v) v' (by unfold zto; omega))) hs2
      exact ⟨_, fun K => by
        show zb2 _ _ = _
        rw [zb2_at (show zf_X4_readNumber n 0 99 M = _ from a2), zput_at, w9, zb2_at (show zf_X4_readNumber n (nI v) 99 _ = _ from c2)]
        rfl, d1, c5, fr9_trans a7 (fr9_trans b2 (fr9_trans c7 d2))⟩
    · rw [zq1_none c1]
      obtain ⟨d1, d2⟩ := es9_w (j := 10) (v := nI v) ho c3 (Or.inl rfl)
      exact ⟨_, fun K => by
        show zb2 _ _ = _
        rw [zb2_at (show zf_X4_readNumber n 0 99 M = _ from a2), zput_at, w9, zb2_at (show zf_X4_readNumber n (nI v) 99 _ = _ from c2)]
        rfl, d1, fr9_trans a7 (fr9_trans b2 (fr9_trans c4 d2))⟩
  · rw [zq1_none a1]
    obtain ⟨b1, b2⟩ := es9_w (j := 9) (v := nI 0) ho a3 (Or.inl rfl)
    obtain ⟨d1, d2⟩ := es9_w (j := 10) (v := nI 0) ho b1 (Or.inl rfl)
    have w9 : zwr M1 55 9 (nI 0) 55 9 = nI 0 := wre
    exact ⟨_, fun K => by
      show zb2 _ _ = _
      rw [zb2_at (show zf_X4_readNumber n 0 99 M = _ from a2), zput_at, w9, zb2_at (readN_err b1 _ _)]
      rfl, d1, fr9_trans a4 (fr9_trans b2 d2)⟩
