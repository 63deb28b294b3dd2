/-! LAYER 2: channels and conflicts, as the class reads them -/
theorem zchn_ne {r : ZRow} {a b j : Nat} (h1 : j ≠ 1) (h5 : j ≠ 55 + r 1) (h9 : j ≠ 59 + r 1) : zchn r a b j = r j := by
  unfold zchn
  rw [zat_ne h1, zat_ne h9, zat_ne h5]
theorem zchn_1 {r : ZRow} {a b : Nat} : zchn r a b 1 = r 1 + 1 := by
  unfold zchn
  rw [zat_eq]
theorem zchn_5 {r : ZRow} {a b : Nat} : zchn r a b (55 + r 1) = a := by
  unfold zchn
  rw [zat_ne (by omega), zat_ne (by omega), zat_eq]
theorem zchn_9 {r : ZRow} {a b : Nat} : zchn r a b (59 + r 1) = b := by
  unfold zchn
  rw [zat_ne (by omega), zat_eq]
theorem body9_5 {M : ZMem} {T : ZT} {o p w mk n : Nat} {r : ZRow} {L : ZL} (hR : RS9 M T o p r L w mk) (hT : TT T) (hP : PIL T p L w) (hW : WR r) (hn : 400 < n) (h4 : r 1 < 4) :
    BR9 M T o mk (fun K => zb1 (zf_X4_readChannel n M) (fun M81 => K M81)) (zbody T 5 p r L w) := by
  have ho := hR.2.2.1
  have hb := hW.1.b
  show BR9 M T o mk _ (zq1 T p 0 100 L w (fun v e L w => zq1 T e 1 31 L w (fun x e L w => .ok (e, zchn r v x, L, w))))
  rcases num9 (n := n) hR hT hP (hi_lit (m := 99) (by omega)) (show 0 ≤ 100000 by omega) hn with ⟨v, e, M1, a1, a2, a3, a4, a5, a6, a7, a8, a9, a10⟩ | ⟨M1, a1, a2, a3, a4⟩
  · rw [zq1_some a1]
    rcases num9 (n := n) a3 hT a4 (hi_lit (m := 30) (by omega)) (show 1 ≤ 100000 by omega) hn with ⟨v', e', M2, c1, c2, c3, c4, c5, c6, c7, c8, c9, c10⟩ | ⟨M2, c1, c2, c3, c4⟩
    · rw [zq1_some c1]
      obtain ⟨t1, t2, t3, t4, t5, t6, t7⟩ := id c3.2.2.2.2.2.2.1
      have d6 := c3.2.1
      have w1 : zwr M2 (o + 5) (r 1) (nI v) 42 6 = nI o := by rw [wrn (by omega)]; exact d6
      have w2 : zwr (zwr M2 (o + 5) (r 1) (nI v)) (o + 6) (r 1) (nI v') 42 6 = nI o := by rw [wrn (by omega)]; exact w1
      have x1 : zwr M2 (o + 5) (r 1) (nI v) o 1 = nI (r 1) := by rw [wrn (by omega)]; exact t2
      have x2 : zwr (zwr M2 (o + 5) (r 1) (nI v)) (o + 6) (r 1) (nI v') o 1 = nI (r 1) := by rw [wrn (by omega)]; exact x1
      have ht : TD (zwr (zwr (zwr M2 (o + 5) (r 1) (nI v)) (o + 6) (r 1) (nI v')) o 1 (nI (r 1 + 1))) o (zchn r v v') := by
        refine ⟨?_, ?_, ?_, ?_, ?_, fun i hi => ?_, fun c hc => ?_⟩
        · rw [wrj (by omega), wrn (by omega), wrn (by omega), zchn_ne (by omega) (by omega) (by omega)]; exact t1
        · rw [wre, zchn_1]
        · rw [wrj (by omega), wrn (by omega), wrn (by omega), zchn_ne (by omega) (by omega) (by omega)]; exact t3
        · rw [wrj (by omega), wrn (by omega), wrn (by omega), zchn_ne (by omega) (by omega) (by omega)]; exact t4
        · rw [wrj (by omega), wrn (by omega), wrn (by omega), zchn_ne (by omega) (by omega) (by omega)]; exact t5
        · rw [zchn_ne (by omega) (by omega) (by omega)] at hi
          have q : ∀ k, k ≠ o → k ≠ o + 5 → k ≠ o + 6 → zwr (zwr (zwr M2 (o + 5) (r 1) (nI v)) (o + 6) (r 1) (nI v')) o 1 (nI (r 1 + 1)) k = M2 k := fun k y1 y2 y3 => by rw [wrn y1, wrn y3, wrn y2]
          rw [q _ (by omega) (by omega) (by omega), q _ (by omega) (by omega) (by omega), q _ (by omega) (by omega) (by omega), q _ (by omega) (by omega) (by omega), zchn_ne (by omega) (by omega) (by omega), zchn_ne (by omega) (by omega) (by omega), zchn_ne (by omega) (by omega) (by omega), zchn_ne (by omega) (by omega) (by omega)]
          exact t6 i hi
        · rw [zchn_1] at hc
          rw [wrn (by omega), wrn (by omega), wrn (show o + 6 ≠ o by omega)]
          by_cases ec : c = r 1
          · subst ec
            rw [zchn_5, zchn_9]
            exact ⟨wre, wre⟩
          · rw [zchn_ne (by omega) (by omega) (by omega), zchn_ne (by omega) (by omega) (by omega), wrj ec, wrj ec, wrn (by omega)]
            exact t7 c (by omega)
      have hs := (c3.2.2.2.2.2.2.2.1.congr (M' := zwr (zwr (zwr M2 (o + 5) (r 1) (nI v)) (o + 6) (r 1) (nI v')) o 1 (nI (r 1 + 1))) (by rw [wrn (by omega), wrn (by omega), wrn (by omega)]) (by rw [wrn (by omega), wrn (by omega), wrn (by omega)])).rr (q := zchn r v v') hW.2.2.2.2.1 (fun i hi => zchn_ne (by omega) (by omega) (by omega))
      obtain ⟨b1, b2⟩ := c3.upd (M' := zwr (zwr (zwr M2 (o + 5) (r 1) (nI v)) (o + 6) (r 1) (nI v')) o 1 (nI (r 1 + 1))) (fun k x y z => by rw [wrn (by omega), wrn (by omega), wrn (by omega)]) (by rw [wrj (by omega), wrn (by omega), wrn (by omega)]) (by rw [wrj (by omega), wrn (by omega), wrn (by omega)]) ht hs
      have hc : zf_X4_readChannel n M = some (zwr (zwr (zwr M2 (o + 5) (r 1) (nI v)) (o + 6) (r 1) (nI v')) o 1 (nI (r 1 + 1))) := by
        unfold zf_X4_readChannel zf_X4_readChannel_j68
        rw [zb2_at (show zf_X4_readNumber n 0 99 M = _ from a2), zb2_at (show zf_X4_readNumber n 1 30 M1 = _ from c2), zb1_at (right9 c3.2.2.2.2.1), if_neg (by decide), dy6 d6 ho, dy6 d6 ho, zst_at (r 1) t2 (by omega), dy6 w1 ho, dy6 w1 ho, zst_at (r 1) x1 (by omega), dy6 w2 ho, zput_at, x2, nI_1]
      exact ⟨_, fun K => by show zb1 _ _ = _; rw [zb1_at hc], b1, c5, fr9_trans a7 (fr9_trans c7 b2)⟩
    · rw [zq1_none c1]
      have hc : zf_X4_readChannel n M = some M2 := by
        unfold zf_X4_readChannel zf_X4_readChannel_j68
        rw [zb2_at (show zf_X4_readNumber n 0 99 M = _ from a2), zb2_at (show zf_X4_readNumber n 1 30 M1 = _ from c2), zb1_at (wrong9 c3.1 c3.2), if_pos rfl]
      exact ⟨_, fun K => by show zb1 _ _ = _; rw [zb1_at hc], c3, fr9_trans a7 c4⟩
  · rw [zq1_none a1]
    have hc : zf_X4_readChannel n M = some M1 := by
      unfold zf_X4_readChannel zf_X4_readChannel_j68
      rw [zb2_at (show zf_X4_readNumber n 0 99 M = _ from a2), zb2_at (readN_err a3 _ _), zb1_at (wrong9 a3.1 a3.2), if_pos rfl]
    exact ⟨_, fun K => by show zb1 _ _ = _; rw [zb1_at hc], a3, a4⟩
theorem body9_7 {M : ZMem} {T : ZT} {o p w mk n : Nat} {r : ZRow} {L : ZL} (hR : RS9 M T o p r L w mk) (hT : TT T) (hP : PIL T p L w) (hW : WR r) (hn : 400 < n) :
    BR9 M T o mk (fun K => zb1 (zf_X4_readConflict n M) (fun M83 => K M83)) (zbody T 7 p r L w) := by
  have ho := hR.2.2.1
  have hb := hW.1.b
  have t0 := hR.2.2.2.2.2.2.1.1
  show BR9 M T o mk _ (zq1 T p 0 (r 0) L w (fun a e L w => zq1 T e 0 (r 0) L w (fun b e2 L w => if a = b ∨ (r (63 + a)).testBit b = true then .error (zrun T zbl e) else .ok (e2, ztog r a b, L, w))))
  rcases num9 (n := n) hR hT hP (hi_m1 (c := r 0) (by omega)) (show 0 ≤ 100000 by omega) hn with ⟨a, e, M1, a1, a2, a3, a4, a5, a6, a7, a8, a9, a10⟩ | ⟨M1, a1, a2, a3, a4⟩
  · rw [zq1_some a1]
    have t1 := a3.2.2.2.2.2.2.1.1
    rcases num9 (n := n) a3 hT a4 (hi_m1 (c := r 0) (by omega)) (show 0 ≤ 100000 by omega) hn with ⟨b, e', M2, c1, c2, c3, c4, c5, c6, c7, c8, c9, c10⟩ | ⟨M2, c1, c2, c3, c4⟩
    · rw [zq1_some c1]
      have hfa := hW.1.foe (show a < 10 by omega)
      have hfb := hW.1.foe (show b < 10 by omega)
      have f1 : M2 56 a = nI (r (63 + a)) := c3.2.2.2.2.2.2.2.1.1.2.2.2.2.2.2.2.2.2.2 a (by omega)
      have f2 : M2 56 b = nI (r (63 + b)) := c3.2.2.2.2.2.2.2.1.1.2.2.2.2.2.2.2.2.2.2 b (by omega)
      have hfail : zf_X4_readConflict_j59 M2 = some (zwr M2 42 4 (nI (zrun T zbl e))) := by
        unfold zf_X4_readConflict_j59
        rw [c6, zb1_at (fail9 _ c3.2.2.2.2.1)]
      have he : zrun T zbl e ≤ 400 := by
        have := zrun_le (T := T) (f := zbl) a4.2.1
        have := hT.1
        omega
      have hbad : ES9 (zwr M2 42 4 (nI (zrun T zbl e))) (zrun T zbl e) ∧ FR9 o M2 (zwr M2 42 4 (nI (zrun T zbl e))) := ⟨⟨wre, he⟩, fr9_42 (by omega) (by omega)⟩
      by_cases eab : a = b
      · rw [if_pos (Or.inl eab)]
        have hc : zf_X4_readConflict n M = some (zwr M2 42 4 (nI (zrun T zbl e))) := by
          unfold zf_X4_readConflict
          rw [hR.dy, t0, zb2_at (show zf_X4_readNumber n 0 _ M = _ from a2), a3.dy, t1, zb2_at (show zf_X4_readNumber n 0 _ M1 = _ from c2), zb1_at (right9 c3.2.2.2.2.1), if_neg (by decide), eab, if_pos rfl, hfail]
        exact ⟨_, fun K => by show zb1 _ _ = _; rw [zb1_at hc], hbad.1, fr9_trans a7 (fr9_trans c7 hbad.2)⟩
      · have go : zf_X4_readConflict n M = (if zB ((r (63 + a)).testBit b) = 0 then zb1 (zf_X7_toggleConflict 55 (nI a) (nI b) M2) (fun M42 => some M42) else zf_X4_readConflict_j59 M2) := by
          unfold zf_X4_readConflict
          rw [hR.dy, t0, zb2_at (show zf_X4_readNumber n 0 _ M = _ from a2), a3.dy, t1, zb2_at (show zf_X4_readNumber n 0 _ M1 = _ from c2), zb1_at (right9 c3.2.2.2.2.1), if_neg (by decide), zi_eq (by omega) (by omega), if_neg eab, zrd_at a rfl (by omega), f1, zb1_at (has9 hfa (by omega))]
        cases hz : (r (63 + a)).testBit b with
        | true =>
          rw [if_pos (Or.inr rfl)]
          rw [hz, if_neg (by decide), hfail] at go
          exact ⟨_, fun K => by show zb1 _ _ = _; rw [zb1_at go], hbad.1, fr9_trans a7 (fr9_trans c7 hbad.2)⟩
        | false =>
          rw [if_neg (fun z => by rcases z with z | z; exact eab z; cases z)]
          have x1 : zwr M2 56 a (nI (r (63 + a) ^^^ 2 ^ b)) 56 b = nI (r (63 + b)) := by rw [wrj (Ne.symm eab)]; exact f2
          have htog : zf_X7_toggleConflict 55 (nI a) (nI b) M2 = some (zwr (zwr M2 56 a (nI (r (63 + a) ^^^ 2 ^ b))) 56 b (nI (r (63 + b) ^^^ 2 ^ a))) := by
            simp (disch := (first | assumption | omega)) only [zf_X7_toggleConflict, zlp, ↓ev_ifB, ↓ev_iflt, ↓ev_ifle, ↓ev_ifeq, ↓ifp, ↓ifn, ↓ev_b1, ↓ev_b2, ↓ev_put, ↓ev_z0, ↓ev_z1, ↓ev_zB, ↓ev_has9, ↓ev_has10, ↓ev_shl, ↓ev_bit, ↓ev_in, ↓ev_inG, ↓ev_rd, ↓ev_st, decide_eq_true_eq, nI_add, ev_sub, pk_mul, nI_or, nI_xor, zBt, zBf, if_true, if_false, eq_self, Bool.false_eq_true, f1, x1]
          rw [hz, if_pos (by decide), zb1_at htog] at go
          have hs : SDc (zwr (zwr M2 56 a (nI (r (63 + a) ^^^ 2 ^ b))) 56 b (nI (r (63 + b) ^^^ 2 ^ a))) 55 (ztog r a b) := by
            obtain ⟨⟨s1, s2, s3, s4, s5, s6, s7, s8, s9, s10, s11⟩, s12⟩ := c3.2.2.2.2.2.2.2.1
            have e55 : zwr (zwr M2 56 a (nI (r (63 + a) ^^^ 2 ^ b))) 56 b (nI (r (63 + b) ^^^ 2 ^ a)) 55 = M2 55 := by rw [wrn (by omega), wrn (by omega)]
            rw [show ((55 : Nat) + 1) = 56 from rfl] at s11
            refine ⟨⟨?_, ?_, ?_, ?_, ?_, ?_, ?_, ?_, ?_, ?_, fun i hi => ?_⟩, ?_⟩
            · rw [e55, ztog_ne (by omega)]; exact s1
            · rw [e55, ztog_ne (by omega)]; exact s2
            · rw [e55, ztog_ne (by omega)]; exact s3
            · rw [e55, ztog_ne (by omega)]; exact s4
            · rw [e55, ztog_ne (by omega)]; exact s5
            · rw [e55, ztog_ne (by omega)]; exact s6
            · rw [e55, ztog_ne (by omega)]; exact s7
            · rw [e55, ztog_ne (by omega)]; exact s8
            · rw [e55, ztog_ne (by omega)]; exact s9
            · rw [e55, ztog_ne (by omega)]; exact s10
            · show zwr (zwr M2 56 a (nI (r (63 + a) ^^^ 2 ^ b))) 56 b (nI (r (63 + b) ^^^ 2 ^ a)) 56 i = _
              by_cases y1 : i = b
              · rw [y1, wre, ztog_2]
              · by_cases y2 : i = a
                · rw [y2, wrj eab, wre, ztog_1 eab]
                · rw [wrj y1, wrj y2, ztog_3 y2 y1]; exact s11 i hi
            · rw [e55, s12]
              unfold zcostN
              rw [if_pos hW.2.2.2.2.1, if_pos (by rw [ztog_ne (by omega)]; exact hW.2.2.2.2.1)]
          obtain ⟨b1, b2⟩ := c3.upd (M' := zwr (zwr M2 56 a (nI (r (63 + a) ^^^ 2 ^ b))) 56 b (nI (r (63 + b) ^^^ 2 ^ a))) (fun k x y z => by rw [wrn y, wrn y]) (by rw [wrn (by omega), wrn (by omega)]) (by rw [wrn (by omega), wrn (by omega)]) ((c3.2.2.2.2.2.2.1.congr (fun k x y => by rw [wrn (by omega), wrn (by omega)])).tb (by omega) (by omega) ztog_ta) hs
          exact ⟨_, fun K => by show zb1 _ _ = _; rw [zb1_at go], b1, c5, fr9_trans a7 (fr9_trans c7 b2)⟩
    · rw [zq1_none c1]
      have hc : zf_X4_readConflict n M = some M2 := by
        unfold zf_X4_readConflict
        rw [hR.dy, t0, zb2_at (show zf_X4_readNumber n 0 _ M = _ from a2), a3.dy, t1, zb2_at (show zf_X4_readNumber n 0 _ M1 = _ from c2), zb1_at (wrong9 c3.1 c3.2), if_pos rfl]
      exact ⟨_, fun K => by show zb1 _ _ = _; rw [zb1_at hc], c3, fr9_trans a7 c4⟩
  · rw [zq1_none a1]
    have hc : zf_X4_readConflict n M = some M1 := by
      unfold zf_X4_readConflict
      rw [hR.dy, t0, zb2_at (show zf_X4_readNumber n 0 _ M = _ from a2), dy6 (a4.2.2.1.trans hR.2.1) ho, zb2_at (readN_err a3 _ _), zb1_at (wrong9 a3.1 a3.2), if_pos rfl]
    exact ⟨_, fun K => by show zb1 _ _ = _; rw [zb1_at hc], a3, a4⟩
