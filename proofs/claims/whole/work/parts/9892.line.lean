/-! LAYER 2: a line, as the class reads it -/
def PB (T : ZT) (p : Nat) (L : ZL) (w : Nat) : Prop := p ≤ T.1 ∧ 4 * L.1 + 2 * w ≤ p ∧ L.1 ≤ w
theorem RS9.w5 {M : ZMem} {T : ZT} {o p w mk : Nat} {r : ZRow} {L : ZL} (h : RS9 M T o p r L w mk) (m : Nat) : RS9 (zwr M 42 5 (nI m)) T o p r L w m := by
  obtain ⟨h1, h2, h3, h4, h5, h6, h7, h8, h9⟩ := h
  exact ⟨tc9_w h1 (by omega), by rw [wrj (by omega)]; exact h2, h3, by rw [wrj (by omega)]; exact h4, by rw [wrj (by omega)]; exact h5, wre, h7.congr (fun k a b => wrn (by omega)), h8.congr (wrn (by omega)) (wrn (by omega)), h9.congr (by rw [wrn (by omega)]) (by rw [wrn (by omega)]) (wrn (by omega)) (wrn (by omega)) (wrn (by omega)) (wrn (by omega))⟩
theorem open9 {M : ZMem} {T : ZT} {o p w mk s : Nat} {r : ZRow} {L : ZL} (hR : RS9 M T o p r L w mk) (hl : L.1 < 80) (hw : w ≤ 200) : ∃ M', zf_X8_openLine o (nI s) M = some M' ∧ RS9 M' T o p r (zopn L s) w mk ∧ FR9 o M M' := by
  have ho := hR.2.2.1
  obtain ⟨M', a1, a2, a3, a4⟩ := openLine9 (s := s) hR.2.2.2.2.2.2.2.2 hl hw
  refine ⟨M', a1, ⟨?_, ?_, ho, ?_, ?_, ?_, ?_, ?_, a2⟩, ?_⟩
  · exact hR.1.congr (by rw [a3 42 (by omega) (by omega) (by omega) (by omega)]) (a3 43 (by omega) (by omega) (by omega) (by omega))
  · rw [a3 42 (by omega) (by omega) (by omega) (by omega)]; exact hR.2.1
  · rw [a3 42 (by omega) (by omega) (by omega) (by omega)]; exact hR.2.2.2.1
  · rw [a3 42 (by omega) (by omega) (by omega) (by omega)]; exact hR.2.2.2.2.1
  · rw [a3 42 (by omega) (by omega) (by omega) (by omega)]; exact hR.2.2.2.2.2.1
  · obtain ⟨t1, t2, t3, t4, t5, t6, t7⟩ := hR.2.2.2.2.2.2.1
    refine ⟨by rw [a4 0 (by omega)]; exact t1, by rw [a4 1 (by omega)]; exact t2, by rw [a4 8 (by omega)]; exact t3, by rw [a4 9 (by omega)]; exact t4, by rw [a4 10 (by omega)]; exact t5, fun i hi => ?_, fun c hc => ?_⟩
    · rw [a3 _ (by omega) (by omega) (by omega) (by omega), a3 _ (by omega) (by omega) (by omega) (by omega), a3 _ (by omega) (by omega) (by omega) (by omega), a3 _ (by omega) (by omega) (by omega) (by omega)]
      exact t6 i hi
    · rw [a3 _ (by omega) (by omega) (by omega) (by omega), a3 _ (by omega) (by omega) (by omega) (by omega)]
      exact t7 c hc
  · exact hR.2.2.2.2.2.2.2.1.congr (a3 55 (by omega) (by omega) (by omega) (by omega)) (a3 56 (by omega) (by omega) (by omega) (by omega))
  · exact ⟨fun k b c d e => a3 k (by omega) (by omega) (by omega) (by omega), by rw [a3 42 (by omega) (by omega) (by omega) (by omega)], by rw [a3 42 (by omega) (by omega) (by omega) (by omega)], fun ⟨y, y1, y2⟩ => ⟨y, y1, by rw [a3 42 (by omega) (by omega) (by omega) (by omega)]; exact y2⟩⟩
theorem zwd_3 : ∀ s, s < 8 → 3 ≤ (zwd s).length ∧ (zwd s).length ≤ 8 := by decide
/-- what follows the sort of a line -/
def zrest9 (n : Nat) (s : Int32) (M57 : ZMem) : Option ZMem := (if s = (0 : Int32) then zb2 (zf_X4_readNumber n (0 : Int32) (99999 : Int32) M57) (fun v60 M61 => zput M61 55 7 v60 (fun M62 => (zf_X4_readLine_j200 n M62))) else (if s = (1 : Int32) then zdy M57 42 6 (7, 17) (fun o63 => zb2 (zf_X4_readNumber n (0 : Int32) (50 : Int32) M57) (fun v64 M65 => zput M65 o63 8 v64 (fun M66 => (zf_X4_readLine_j200 n M66)))) else (if s = (2 : Int32) then zdy M57 42 6 (7, 17) (fun o67 => zb2 (zf_X4_readNumber n (0 : Int32) (999 : Int32) M57) (fun v68 M69 => zput M69 o67 9 v68 (fun M70 => (zf_X4_readLine_j200 n M70)))) else (if s = (3 : Int32) then zdy M57 42 6 (7, 17) (fun o71 => zb2 (zf_X4_readNumber n (0 : Int32) (99 : Int32) M57) (fun v72 M73 => zput M73 o71 10 v72 (fun M74 => (zf_X4_readLine_j200 n M74)))) else (if s = (4 : Int32) then zb2 (zf_X4_readNumber n (0 : Int32) (99 : Int32) M57) (fun v75 M76 => zput M76 55 9 v75 (fun M77 => zb2 (zf_X4_readNumber n (M77 55 9) (99 : Int32) M77) (fun v78 M79 => zput M79 55 10 v78 (fun M80 => (zf_X4_readLine_j200 n M80))))) else (if s = (5 : Int32) then zb1 (zf_X4_readChannel n M57) (fun M81 => (zf_X4_readLine_j200 n M81)) else (if s = (6 : Int32) then zb1 (zf_X4_readMember n M57) (fun M82 => (zf_X4_readLine_j200 n M82)) else zb1 (zf_X4_readConflict n M57) (fun M83 => (zf_X4_readLine_j200 n M83)))))))))
theorem rest9 {M : ZMem} {T : ZT} {o p w mk n s : Nat} {r : ZRow} {L : ZL} (hR : RS9 M T o p r L w mk) (hT : TT T) (hP : PIL T p L w) (hW : WR r) (hn : 400 < n) (hs : s < 8) (h5 : s = 5 → r 1 < 4) (h6 : s = 6 → r 0 < 10) : ∃ c, zrest9 n (nI s) M = c (zf_X4_readLine_j200 n) ∧ BR9 M T o mk c (zbody T s p r L w) := by
  unfold zrest9
  rcases (show s = 0 ∨ s = 1 ∨ s = 2 ∨ s = 3 ∨ s = 4 ∨ s = 5 ∨ s = 6 ∨ s = 7 by omega) with rfl | rfl | rfl | rfl | rfl | rfl | rfl | rfl
  · rw [if_pos (by decide)]
    exact ⟨_, rfl, body9_0 hR hT hP hW hn⟩
  · rw [if_neg (by decide), if_pos (by decide)]
    exact ⟨fun K => zdy M 42 6 (7, 17) (fun o63 => zb2 (zf_X4_readNumber n 0 (nI 50) M) (fun v64 M65 => zput M65 o63 8 v64 (fun M66 => K M66))), rfl, body9_b hR hT hP hW hn 50 8 3 (by omega) (by omega)⟩
  · rw [if_neg (by decide), if_neg (by decide), if_pos (by decide)]
    exact ⟨fun K => zdy M 42 6 (7, 17) (fun o63 => zb2 (zf_X4_readNumber n 0 (nI 999) M) (fun v64 M65 => zput M65 o63 9 v64 (fun M66 => K M66))), rfl, body9_b hR hT hP hW hn 999 9 4 (by omega) (by omega)⟩
  · rw [if_neg (by decide), if_neg (by decide), if_neg (by decide), if_pos (by decide)]
    exact ⟨fun K => zdy M 42 6 (7, 17) (fun o63 => zb2 (zf_X4_readNumber n 0 (nI 99) M) (fun v64 M65 => zput M65 o63 10 v64 (fun M66 => K M66))), rfl, body9_b hR hT hP hW hn 99 10 5 (by omega) (by omega)⟩
  · rw [if_neg (by decide), if_neg (by decide), if_neg (by decide), if_neg (by decide), if_pos (by decide)]
    exact ⟨_, rfl, body9_4 hR hT hP hW hn⟩
  · rw [if_neg (by decide), if_neg (by decide), if_neg (by decide), if_neg (by decide), if_neg (by decide), if_pos (by decide)]
    exact ⟨fun K => zb1 (zf_X4_readChannel n M) (fun M81 => K M81), rfl, body9_5 hR hT hP hW hn (h5 rfl)⟩
  · rw [if_neg (by decide), if_neg (by decide), if_neg (by decide), if_neg (by decide), if_neg (by decide), if_neg (by decide), if_pos (by decide)]
    exact ⟨fun K => zb1 (zf_X4_readMember n M) (fun M81 => K M81), rfl, body9_6 hR hT hP hW hn (h6 rfl)⟩
  · rw [if_neg (by decide), if_neg (by decide), if_neg (by decide), if_neg (by decide), if_neg (by decide), if_neg (by decide), if_neg (by decide)]
    exact ⟨fun K => zb1 (zf_X4_readConflict n M) (fun M81 => K M81), rfl, body9_7 hR hT hP hW hn⟩
def LR (M : ZMem) (T : ZT) (o : Nat) (y : Option ZMem) : Except Nat (Nat × ZRow × ZL × Nat × Nat) → Prop
  | .ok z => ∃ M', y = some M' ∧ RS9 M' T o z.1 z.2.1 z.2.2.1 z.2.2.2.1 z.2.2.2.2 ∧ PB T z.1 z.2.2.1 z.2.2.2.1 ∧ FR9 o M M'
  | .error e => ∃ M', y = some M' ∧ ES9 M' e ∧ FR9 o M M'
theorem readLine9 {M : ZMem} {T : ZT} {o p w mk n : Nat} {r : ZRow} {L : ZL} (hR : RS9 M T o p r L w mk) (hT : TT T) (hP : PB T p L w) (hW : WR r) (hm : mk < 256) (hn : 400 < n) : LR M T o (zf_X4_readLine n M) (zline T p r L w mk) := by
  have hl := hT.1
  obtain ⟨p1, p2, p3⟩ := hP
  obtain ⟨g1, g2⟩ := readSort9 (n := n) hR hT hW.1 hm p1 hn
  unfold zf_X4_readLine zline
  cases hz : zsrt T p r mk with
  | none =>
    rw [zb2_at (g2 hz), zb1_at (wrong9 (e := p) wre (by omega)), if_pos rfl]
    exact ⟨_, rfl, ⟨wre, by omega⟩, fr9_42 (by omega) (by omega)⟩
  | some s =>
    obtain ⟨s1, -, s2⟩ := zfnd_some _ _ hz
    rw [Bool.and_eq_true] at s1
    have s3 := of_decide_eq_true s1.1
    have s4 := zwd_3 s (by omega)
    have he := zrun_le (T := T) (f := zlet) p1
    have hlast : zlet (T.2 (zrun T zlet p - 1)) = true := zrun_mem (p := p) (by omega) (by omega)
    have hR1 := hR.mv (zrun T zlet p)
    have f1 : FR9 o M (zwr M 42 2 (nI (zrun T zlet p))) := fr9_42 (by omega) (by omega)
    have q5 : zwr M 42 2 (nI (zrun T zlet p)) 42 5 = nI mk := hR1.2.2.2.2.2.1
    have hR2 := hR1.w5 (mk ||| 2 ^ s)
    have f2 : FR9 o M (zwr (zwr M 42 2 (nI (zrun T zlet p))) 42 5 (nI (mk ||| 2 ^ s))) := fr9_trans f1 (fr9_42 (by omega) (by omega))
    obtain ⟨M3, a1, a2, a3⟩ := open9 (s := s) hR2 (by omega) (by omega)
    have m5 : s = 5 → r 1 < 4 := fun z => by
      have := s1.2
      rw [z] at this
      exact of_decide_eq_true this
    have m6 : s = 6 → r 0 < 10 := fun z => by
      have := s1.2
      rw [z] at this
      exact of_decide_eq_true this
    obtain ⟨c, b1, b2⟩ := rest9 (n := n) a2 hT ⟨by omega, he, zlet_nb hlast, show 4 * (L.1 + 1) + 2 * w ≤ zrun T zlet p + 1 by omega, Nat.succ_pos _, show L.1 + 1 ≤ w + 1 by omega⟩ hW hn (by omega) m5 m6
    rw [zb2_at (g1 s hz), zb1_at (right9 hR1.2.2.2.2.1), if_neg (show ¬ (1 : Int32) = 0 by decide), zput_at, q5, or_bit (by omega), hR2.dy, zb1_at a1]
    show LR M T o (zrest9 n (nI s) M3) _
    rw [b1]
    revert b2
    show BR9 _ _ _ _ _ (zbody T s (zrun T zlet p) r (zopn L s) w) → LR M T o _ (match zbody T s (zrun T zlet p) r (zopn L s) w with
    | .error e => .error e
    | .ok (p1, r1, L1, w1) => match zEnd T p1 with
      | none => .error (zrun T zbl p1)
      | some p2 => .ok (p2, r1, L1, w1, mk ||| 2 ^ s))
    cases zbody T s (zrun T zlet p) r (zopn L s) w with
    | error e =>
      rintro ⟨M4, d1, d2, d3⟩
      rw [d1]
      unfold zf_X4_readLine_j200
      rw [zb1_at (readEnd9e d2)]
      exact ⟨_, rfl, d2, fr9_trans f2 (fr9_trans a3 d3)⟩
    | ok z =>
      obtain ⟨p', r', L', w'⟩ := z
      rintro ⟨M4, d1, d2, d3, d4⟩
      rw [d1]
      obtain ⟨e1, e2, e3, e4⟩ := d3
      obtain ⟨u1, u2⟩ := readEnd9 (n := n) d2 hT e1 hn
      unfold zf_X4_readLine_j200
      show LR M T o _ (match zEnd T p' with
      | none => .error (zrun T zbl p')
      | some p2 => .ok (p2, r', L', w', mk ||| 2 ^ s))
      cases hq : zEnd T p' with
      | none =>
        obtain ⟨M5, v1, v2, v3⟩ := u2 hq
        rw [zb1_at v1]
        exact ⟨_, rfl, v2, fr9_trans f2 (fr9_trans a3 (fr9_trans d4 v3))⟩
      | some x =>
        obtain ⟨M5, v1, v2, v3⟩ := u1 x hq
        rw [zb1_at v1]
        have hx : x = zrun T zbl p' + 1 ∧ zrun T zbl p' < T.1 := by
          unfold zEnd at hq
          split at hq
          · rename_i hh
            exact ⟨(Option.some.inj hq).symm, hh.1⟩
          · cases hq
        have hg := zrun_ge T zbl p'
        exact ⟨_, rfl, v2, ⟨by show x ≤ T.1; omega, by show 4 * L'.1 + 2 * w' ≤ x; have : 4 * L'.1 + 2 * w' ≤ p' + 1 := e2; omega, e4⟩, fr9_trans f2 (fr9_trans a3 (fr9_trans d4 v3))⟩
