/-! LAYER 2: the bounds of the places in a text; a line, as the reference reads it -/
theorem pe_run {T : ZT} {p w : Nat} {L : ZL} (h : PE T p L w) : PE T (zrun T zbl p) L w := by
  obtain ⟨a, b, c, d⟩ := h
  have := zrun_ge T zbl p
  exact ⟨zrun_le a, by omega, c, d⟩
theorem zbyl_pe {T : ZT} {c : Nat} : ∀ d m p (L : ZL) w z, zbyl T c d m p L w = .ok z → PIL T p L w → PE T z.2.1 z.2.2.1 z.2.2.2 := by
  intro d
  induction d with
  | zero => intro m p L w z h; cases h
  | succ d ih =>
    intro m p L w z h hP
    obtain ⟨v, e, h1, h2⟩ := zq1_ok h
    obtain ⟨b1, b2⟩ := ps_num hP h1
    split at h2
    · cases h2
    · split at h2
      · exact ih (m ||| 2 ^ v) e (zadn L v) (w + 1) z h2 b1
      · cases h2
        exact pe_run b2
theorem zreach_pe {T : ZT} {c p w : Nat} {L : ZL} {z : Nat × Nat × ZL × Nat} (h : zreach T c p L w = .ok z) (hP : PIL T p L w) (hE : PE T p L w) : PE T z.2.1 z.2.2.1 z.2.2.2 := by
  obtain ⟨p1, p2, p3, p4, p5, p6⟩ := hP
  unfold zreach at h
  split at h
  · rename_i c1
    have hq0 := zrun_ge T zbl p
    have hwe := zrun_in c1.1 c1.2
    have hwl := zrun_le (T := T) (f := zlet) (zrun_le (T := T) (f := zbl) p2)
    have hlast : zlet (T.2 (zrun T zlet (zrun T zbl p) - 1)) = true := zrun_mem (p := zrun T zbl p) (by omega) (by omega)
    split at h
    · exact zbyl_pe 5 0 _ L w z h ⟨by omega, hwl, zlet_nb hlast, by omega, p5, p6⟩
    · cases h
  · cases h
    exact pe_run hE
theorem zbody_pe {T : ZT} {s p w : Nat} {r : ZRow} {L : ZL} {z : ZY} (h : zbody T s p r L w = .ok z) (hs : s < 8) (hP : PIL T p L w) : PE T z.1 z.2.2.1 z.2.2.2 := by
  have one : ∀ (j hi : Nat), zq1 T p 0 hi L w (fun v e L w => (.ok (e, zat r j v, L, w) : Except Nat ZY)) = .ok z → PE T z.1 z.2.2.1 z.2.2.2 := by
    intro j hi h
    obtain ⟨v, e, h1, h2⟩ := zq1_ok h
    obtain ⟨b1, b2⟩ := ps_num hP h1
    cases h2
    exact b2
  rcases (show s = 0 ∨ s = 1 ∨ s = 2 ∨ s = 3 ∨ s = 4 ∨ s = 5 ∨ s = 6 ∨ s = 7 by omega) with rfl | rfl | rfl | rfl | rfl | rfl | rfl | rfl
  · exact one 2 100000 h
  · exact one 3 51 h
  · exact one 4 1000 h
  · exact one 5 100 h
  · rw [zbody_4] at h
    obtain ⟨v, e, h1, h2⟩ := zq1_ok h
    obtain ⟨b1, b2⟩ := ps_num hP h1
    obtain ⟨v', e', h3, h4⟩ := zq1_ok h2
    obtain ⟨d1, d2⟩ := ps_num b1 h3
    cases h4
    exact d2
  · rw [zbody_5] at h
    obtain ⟨v, e, h1, h2⟩ := zq1_ok h
    obtain ⟨b1, b2⟩ := ps_num hP h1
    obtain ⟨v', e', h3, h4⟩ := zq1_ok h2
    obtain ⟨d1, d2⟩ := ps_num b1 h3
    cases h4
    exact d2
  · rw [zbody_6] at h
    obtain ⟨v, e, h1, h2⟩ := zq1_ok h
    obtain ⟨b1, b2⟩ := ps_num hP h1
    obtain ⟨v', e', h3, h4⟩ := zq1_ok h2
    obtain ⟨d1, d2⟩ := ps_num b1 h3
    obtain ⟨u, e2, h5', h6'⟩ := zq1_ok h4
    obtain ⟨f1, f2⟩ := ps_num d1 h5'
    revert h6'
    cases hz : zreach T (r 1) e2 (zadn (zadn (zadn L v) v') u) (w + 1 + 1 + 1) with
    | error x => intro h6'; cases h6'
    | ok x =>
      intro h6'
      have g := zreach_pe hz f1 f2
      obtain ⟨d, e3, L4, w4⟩ := x
      cases h6'
      exact g
  · rw [zbody_7] at h
    obtain ⟨v, e, h1, h2⟩ := zq1_ok h
    obtain ⟨b1, b2⟩ := ps_num hP h1
    obtain ⟨v', e', h3, h4⟩ := zq1_ok h2
    obtain ⟨d1, d2⟩ := ps_num b1 h3
    split at h4
    · cases h4
    · cases h4
      exact d2
theorem zline_pb {T : ZT} {p w mk : Nat} {r : ZRow} {L : ZL} {z : Nat × ZRow × ZL × Nat × Nat} (h : zline T p r L w mk = .ok z) (hP : PB T p L w) : PB T z.1 z.2.2.1 z.2.2.2.1 := by
  obtain ⟨p1, p2, p3⟩ := hP
  cases hz : zsrt T p r mk with
  | none => rw [zline_n hz] at h; cases h
  | some s =>
    rw [zline_s hz] at h
    obtain ⟨s1, -, s2⟩ := zfnd_some _ _ hz
    rw [Bool.and_eq_true] at s1
    have s3 := of_decide_eq_true s1.1
    have s4 := zwd_3 s (by omega)
    have he := zrun_le (T := T) (f := zlet) p1
    have hlast : zlet (T.2 (zrun T zlet p - 1)) = true := zrun_mem (p := p) (by omega) (by omega)
    cases hy : zbody T s (zrun T zlet p) r (zopn L s) w with
    | error e => rw [hy] at h; cases h
    | ok y =>
      obtain ⟨p', r', L', w'⟩ := y
      obtain ⟨e1, e2, e3, e4⟩ := zbody_pe hy (by omega) ⟨by omega, he, zlet_nb hlast, show 4 * (L.1 + 1) + 2 * w ≤ zrun T zlet p + 1 by omega, Nat.succ_pos _, show L.1 + 1 ≤ w + 1 by omega⟩
      have e2' : 4 * L'.1 + 2 * w' ≤ p' + 1 := e2
      rw [hy] at h
      cases hq : zEnd T p' with
      | none => rw [zfin_n hq] at h; cases h
      | some x =>
        rw [zfin_s hq] at h
        cases h
        have hx : x = zrun T zbl p' + 1 ∧ zrun T zbl p' < T.1 := by
          unfold zEnd at hq
          split at hq
          · rename_i hh
            exact ⟨(Option.some.inj hq).symm, hh.1⟩
          · cases hq
        have hg := zrun_ge T zbl p'
        exact ⟨by show x ≤ T.1; omega, by show 4 * L'.1 + 2 * w' ≤ x; omega, e4⟩
theorem km_or {M : ZMem} {mk s : Nat} (h : KM M mk) (hs : 5 ≤ s) : KM M (mk ||| 2 ^ s) := by
  obtain ⟨km, a, b, c⟩ := h
  refine ⟨km, a, b, fun j hj => ?_⟩
  rw [Nat.testBit_or, Nat.testBit_two_pow_of_ne (by omega), Bool.or_false]
  exact c j hj
theorem RB10.k {M : ZMem} {T : ZT} {p mk s : Nat} {r : ZRow} {L : ZL} (h : RB10 M T p r L mk) (hs : 5 ≤ s) : RB10 M T p r L (mk ||| 2 ^ s) := by
  obtain ⟨⟨h1, h2, h3, h4, h5⟩, h6⟩ := h
  exact ⟨⟨h1, h2, h3, km_or h4 hs, h5⟩, h6⟩
theorem RB10.told {M : ZMem} {T : ZT} {p mk s : Nat} {r : ZRow} {L : ZL} (h : RB10 M T p r L mk) (hs : s < 5) : RB10 (zwr M 77 18 ((M 77 18) ||| ((1 : Int32) <<< (nI s &&& 31)))) T p r L (mk ||| 2 ^ s) := by
  obtain ⟨⟨h1, h2, h3, ⟨km, k1, k2, k3⟩, h5⟩, h6, ⟨h7, h8, h9, h10⟩, h11⟩ := h
  refine ⟨⟨tc7_w h1 (by omega), h2.congr (wrn (by omega)), by rw [wrj (by omega)]; exact h3, ⟨km ||| 2 ^ s, by rw [wre, k1, or_bit (by omega)], Nat.or_lt_two_pow (n := 5) k2 (Nat.pow_lt_pow_right (by decide) hs), fun j hj => ?_⟩, fun k hk => by rw [wrn (by omega), wrn (by omega), wrn (by omega)]; exact h5 k hk⟩, by rw [wrj (by omega)]; exact h6, ⟨by rw [wrj (by omega)]; exact h7, by rw [wrj (by omega)]; exact h8, by rw [wrj (by omega)]; exact h9, by rw [wrj (by omega)]; exact h10⟩, h11⟩
  rw [Nat.testBit_or, Nat.testBit_or, k3 j hj]
theorem once10 {M : ZMem} {T : ZT} {p s n mk : Nat} {r : ZRow} {L : ZL} (hR : RB10 M T p r L mk) (hT : TT T) (hs : s < 5) (h70 : L.1 < 70) (hc : zrun T zbl p < T.1 ∧ zlet (T.2 (zrun T zbl p)) = true) (hn : 400 < n) :
    (mk.testBit s = false → ∃ M', zf_X10_once n (nI s) M = some M' ∧ QS10 M' T (zrun T zlet (zrun T zbl p)) r (zopn L s) (mk ||| 2 ^ s) ∧ FR10 M M') ∧ (mk.testBit s = true → ∃ M', zf_X10_once n (nI s) M = some M' ∧ EE M' (zrun T zbl p) ∧ FR10 M M') := by
  have hl := hT.1
  have hq := zrun_le (T := T) (f := zbl) hR.2.2.2
  obtain ⟨km, k1, k2, k3⟩ := hR.1.2.2.2.1
  unfold zf_X10_once zf_X10_once_j19
  rw [k1, zb1_at (has10 (a := km) (j := s) (by omega) (by omega)), zB0, k3 s hs]
  refine ⟨fun h => ?_, fun h => ?_⟩
  · rw [h, if_neg (by decide), zput_at, ← k1]
    obtain ⟨M', a1, a2, a3⟩ := beg10 (s := s) (n := n) (hR.told hs) hT h70 hc hn
    exact ⟨M', by rw [zb1_at a1], a2, fr10_trans (fr10_w (by omega) (by omega)) a3⟩
  · have hE : EE (zwr M 77 12 (nI (zrun T zbl p))) (zrun T zbl p) := ⟨wre, by omega⟩
    rw [h, if_pos rfl, hR.2.2.1.2.1, zb1_at (wrong10 _ hR.2.1), zput_at]
    have hE2 : EE (zwr (zwr M 77 12 (nI (zrun T zbl p))) 77 18 ((zwr M 77 12 (nI (zrun T zbl p)) 77 18) ||| ((1 : Int32) <<< (nI s &&& 31)))) (zrun T zbl p) := ⟨by rw [wrj (by omega)]; exact hE.1, hE.2⟩
    rw [zb1_at (beg10e hE2)]
    exact ⟨_, rfl, hE2, fr10_trans (fr10_w (by omega) (by omega)) (fr10_w (by omega) (by omega))⟩
theorem zmay_lo {r : ZRow} {mk s : Nat} (hs : s < 5) : zmay r mk s = !(mk.testBit s) := by
  unfold zmay
  rw [if_neg (by omega)]
theorem line10_1 {M : ZMem} {T : ZT} {p w n mk : Nat} {r : ZRow} {L : ZL} (hR : RB10 M T p r L mk) (hT : TT T) (hL : LX L) (h70 : L.1 < 70) (hc : zrun T zbl p < T.1 ∧ zlet (T.2 (zrun T zbl p)) = true) (hn : 400 < n) (s m pl : Nat) (hs : s < 4) (hm : m ≤ 99999) (hpl : pl < 11) (hw : zisw T (zrun T zbl p) (zrun T zlet (zrun T zbl p)) s = true) (hb : ∀ p r L w, zbody T s p r L w = zq1 T p 0 (m + 1) L w (fun v e L w => .ok (e, zat r pl v, L, w))) :
    LR10 M T (zf_X10_readOne n (nI s) (nI pl) (nI m) M) (zline T (zrun T zbl p) r L w mk) := by
  obtain ⟨o1, o2⟩ := once10 (n := n) hR hT (show s < 5 by omega) h70 hc hn
  have hz := zsrt_of (r := r) (mk := mk) (show s < 8 by omega) hw
  rw [zmay_lo (by omega)] at hz
  obtain ⟨l1, l2, l3⟩ := lx_opn (s := s) hL (by omega)
  unfold zf_X10_readOne
  cases ht : mk.testBit s with
  | false =>
    rw [ht] at hz
    obtain ⟨M1, a1, a2, a3⟩ := o1 ht
    rw [zb1_at a1, zline_s hz, hb]
    exact (body10_1 a2 hT l1 l2 hn m pl hm hpl).fr a3
  | true =>
    rw [ht] at hz
    obtain ⟨M1, a1, a2, a3⟩ := o2 ht
    rw [zb1_at a1, zline_n hz, zb2_at (num10e a2 _ _), zb1_at (clo10e a2), zst_at pl rfl (by omega)]
    exact ⟨_, rfl, a2.w (by omega), fr10_trans a3 fr10_78⟩
theorem line10_4 {M : ZMem} {T : ZT} {p w n mk : Nat} {r : ZRow} {L : ZL} (hR : RB10 M T p r L mk) (hT : TT T) (hL : LX L) (h70 : L.1 < 70) (hc : zrun T zbl p < T.1 ∧ zlet (T.2 (zrun T zbl p)) = true) (hn : 400 < n) (hw : zisw T (zrun T zbl p) (zrun T zlet (zrun T zbl p)) 4 = true) :
    LR10 M T (zf_X10_readPeriod n M) (zline T (zrun T zbl p) r L w mk) := by
  obtain ⟨o1, o2⟩ := once10 (n := n) (s := 4) hR hT (by omega) h70 hc hn
  have hz := zsrt_of (r := r) (mk := mk) (show 4 < 8 by omega) hw
  rw [zmay_lo (by omega)] at hz
  obtain ⟨l1, l2, l3⟩ := lx_opn (s := 4) hL (by omega)
  unfold zf_X10_readPeriod
  cases ht : mk.testBit 4 with
  | false =>
    rw [ht] at hz
    obtain ⟨M1, a1, a2, a3⟩ := o1 ht
    rw [zb1_at (show zf_X10_once n 4 M = _ from a1), zline_s hz]
    exact (body10_4 a2 hT l1 l2 hn).fr a3
  | true =>
    rw [ht] at hz
    obtain ⟨M1, a1, a2, a3⟩ := o2 ht
    rw [zb1_at (show zf_X10_once n 4 M = _ from a1), zline_n hz, zb2_at (num10e a2 _ _), zb2_at (num10e a2 _ _), zb1_at (clo10e a2), zst_at (i := (6 : Int32)) 6 rfl (by omega), zst_at (i := (7 : Int32)) 7 rfl (by omega)]
    exact ⟨_, rfl, (a2.w (by omega)).w (by omega), fr10_trans a3 (fr10_trans fr10_78 fr10_78)⟩
theorem line10_5 {M : ZMem} {T : ZT} {p w n mk : Nat} {r : ZRow} {L : ZL} (hR : RB10 M T p r L mk) (hT : TT T) (hL : LX L) (hW : WR r) (h70 : L.1 < 70) (hc : zrun T zbl p < T.1 ∧ zlet (T.2 (zrun T zbl p)) = true) (hn : 400 < n) (hw : zisw T (zrun T zbl p) (zrun T zlet (zrun T zbl p)) 5 = true) :
    LR10 M T (zf_X10_readChannel n M) (zline T (zrun T zbl p) r L w mk) := by
  have hl := hT.1
  have hq := zrun_le (T := T) (f := zbl) hR.2.2.2
  have hb := hW.1.b
  have hz := zsrt_of (r := r) (mk := mk) (show 5 < 8 by omega) hw
  have hm5 : zmay r mk 5 = decide (r 1 < 4) := rfl
  rw [hm5] at hz
  obtain ⟨l1, l2, l3⟩ := lx_opn (s := 5) hL (by omega)
  unfold zf_X10_readChannel zf_X10_readChannel_j18
  rw [zrd_at (i := (1 : Int32)) 1 rfl (by omega), hR.row (by omega) (by omega), show (4 : Int32) = nI 4 from rfl, zi_eq (by omega) (by omega)]
  by_cases c4 : r 1 = 4
  · rw [decide_eq_false (by omega)] at hz
    have hE : EE (zwr M 77 12 (nI (zrun T zbl p))) (zrun T zbl p) := ⟨wre, by omega⟩
    rw [if_pos c4, hR.2.2.1.2.1, zb1_at (wrong10 _ hR.2.1), zb1_at (beg10e hE), zline_n hz, zb2_at (num10e hE _ _), zb2_at (num10e hE _ _), zb1_at (clo10e hE), if_neg hE.ne]
    exact ⟨_, rfl, hE, fr10_w (by omega) (by omega)⟩
  · rw [decide_eq_true (show r 1 < 4 by omega)] at hz
    obtain ⟨M1, a1, a2, a3⟩ := beg10 (s := 5) (n := n) (hR.k (s := 5) (by omega)) hT h70 hc hn
    rw [if_neg c4, zb1_at (show zf_X10_begins n 5 M = _ from a1), zline_s hz]
    exact LR10.fr (y := zchk10 n M1) (body10_5 a2 hT l1 l2 (by omega) hn) a3
theorem line10_6 {M : ZMem} {T : ZT} {p w n mk : Nat} {r : ZRow} {L : ZL} (hR : RB10 M T p r L mk) (hT : TT T) (hL : LX L) (hW : WR r) (h70 : L.1 < 70) (hc : zrun T zbl p < T.1 ∧ zlet (T.2 (zrun T zbl p)) = true) (hn : 400 < n) (hw : zisw T (zrun T zbl p) (zrun T zlet (zrun T zbl p)) 6 = true) :
    LR10 M T (zf_X10_readMember n M) (zline T (zrun T zbl p) r L w mk) := by
  have hl := hT.1
  have hq := zrun_le (T := T) (f := zbl) hR.2.2.2
  have hb := hW.1.b
  have hz := zsrt_of (r := r) (mk := mk) (show 6 < 8 by omega) hw
  have hm6 : zmay r mk 6 = decide (r 0 < 10) := rfl
  rw [hm6] at hz
  obtain ⟨l1, l2, l3⟩ := lx_opn (s := 6) hL (by omega)
  unfold zf_X10_readMember zf_X10_readMember_j19
  rw [zrd_at (i := (0 : Int32)) 0 rfl (by omega), hR.row (by omega) (by omega), show (10 : Int32) = nI 10 from rfl, zi_eq (by omega) (by omega)]
  by_cases c4 : r 0 = 10
  · rw [decide_eq_false (by omega)] at hz
    have hE : EE (zwr M 77 12 (nI (zrun T zbl p))) (zrun T zbl p) := ⟨wre, by omega⟩
    rw [if_pos c4, hR.2.2.1.2.1, zb1_at (wrong10 _ hR.2.1), zb1_at (beg10e hE), zline_n hz, zb2_at (num10e hE _ _), zb2_at (num10e hE _ _), zb2_at (num10e hE _ _), if_neg hE.ne, j178e hE]
    exact ⟨_, rfl, hE, fr10_w (by omega) (by omega)⟩
  · rw [decide_eq_true (show r 0 < 10 by omega)] at hz
    obtain ⟨M1, a1, a2, a3⟩ := beg10 (s := 6) (n := n) (hR.k (s := 6) (by omega)) hT h70 hc hn
    rw [if_neg c4, zb1_at (show zf_X10_begins n 6 M = _ from a1), zline_s hz]
    exact LR10.fr (y := zmbd10 n M1) (body10_6 a2 hT l1 l2 hW (by omega) hn) a3
theorem line10_7 {M : ZMem} {T : ZT} {p w n mk : Nat} {r : ZRow} {L : ZL} (hR : RB10 M T p r L mk) (hT : TT T) (hL : LX L) (hW : WR r) (h70 : L.1 < 70) (hc : zrun T zbl p < T.1 ∧ zlet (T.2 (zrun T zbl p)) = true) (hn : 400 < n) (hw : zisw T (zrun T zbl p) (zrun T zlet (zrun T zbl p)) 7 = true) :
    LR10 M T (zf_X10_readConflict n M) (zline T (zrun T zbl p) r L w mk) := by
  have hz := zsrt_of (r := r) (mk := mk) (show 7 < 8 by omega) hw
  have hm7 : zmay r mk 7 = true := rfl
  rw [hm7] at hz
  obtain ⟨l1, l2, l3⟩ := lx_opn (s := 7) hL (by omega)
  obtain ⟨M1, a1, a2, a3⟩ := beg10 (s := 7) (n := n) (hR.k (s := 7) (by omega)) hT h70 hc hn
  unfold zf_X10_readConflict
  rw [zb1_at (show zf_X10_begins n 7 M = _ from a1), zline_s hz]
  exact LR10.fr (y := zcfl10 n M1) (body10_7 a2 hT l1 l2 hW hn) a3
theorem lr10_b1 {M : ZMem} {T : ZT} {y : Option ZMem} {z : Except Nat (Nat × ZRow × ZL × Nat × Nat)} (h : LR10 M T y z) : LR10 M T (zb1 y (fun M39 => zf_X10_readLine_j161 M39)) z := by
  cases z with
  | error e =>
    obtain ⟨M', a, b, c⟩ := h
    exact ⟨M', by rw [zb1_at a]; rfl, b, c⟩
  | ok z =>
    obtain ⟨M', a, b, c⟩ := h
    exact ⟨M', by rw [zb1_at a]; rfl, b, c⟩
theorem readLine10 {M : ZMem} {T : ZT} {p w n mk : Nat} {r : ZRow} {L : ZL} (hR : RB10 M T p r L mk) (hT : TT T) (hL : LX L) (hW : WR r) (h70 : L.1 < 70) (hn : 400 < n) : LR10 M T (zf_X10_readLine n M) (zline T (zrun T zbl p) r L w mk) := by
  have hl := hT.1
  have hq := zrun_le (T := T) (f := zbl) hR.2.2.2
  have hw : ∀ s, s < 9 → zf_X10_isWord n (lN (zwn s)) M = some (zB ((decide (zrun T zbl p < T.1) && zlet (T.2 (zrun T zbl p))) && zisw T (zrun T zbl p) (zrun T zlet (zrun T zbl p)) s)) := fun s hs => isWord10 hT hR.1.1 hR.2.2.1 hq hs hn
  have sp : ∀ s, ((decide (zrun T zbl p < T.1) && zlet (T.2 (zrun T zbl p))) && zisw T (zrun T zbl p) (zrun T zlet (zrun T zbl p)) s) = true → (zrun T zbl p < T.1 ∧ zlet (T.2 (zrun T zbl p)) = true) ∧ zisw T (zrun T zbl p) (zrun T zlet (zrun T zbl p)) s = true := fun s h => by
    rw [Bool.and_eq_true, Bool.and_eq_true, decide_eq_true_eq] at h
    exact h
  unfold zf_X10_readLine
  rw [zb1_at (show zf_X10_isWord n (133789 : Int64) M = _ from hw 0 (by omega)), zB0]
  by_cases c0 : ((decide (zrun T zbl p < T.1) && zlet (T.2 (zrun T zbl p))) && zisw T (zrun T zbl p) (zrun T zlet (zrun T zbl p)) 0) = true
  · rw [if_pos c0]
    exact lr10_b1 (line10_1 hR hT hL h70 (sp 0 c0).1 hn 0 99999 2 (by omega) (by omega) (by omega) (sp 0 c0).2 (fun _ _ _ _ => rfl))
  rw [if_neg c0, zb1_at (show zf_X10_isWord n (4514 : Int64) M = _ from hw 1 (by omega)), zB0]
  by_cases c1 : ((decide (zrun T zbl p < T.1) && zlet (T.2 (zrun T zbl p))) && zisw T (zrun T zbl p) (zrun T zlet (zrun T zbl p)) 1) = true
  · rw [if_pos c1]
    exact lr10_b1 (line10_1 hR hT hL h70 (sp 1 c1).1 hn 1 50 3 (by omega) (by omega) (by omega) (sp 1 c1).2 (fun _ _ _ _ => rfl))
  rw [if_neg c1, zb1_at (show zf_X10_isWord n (6476969 : Int64) M = _ from hw 2 (by omega)), zB0]
  by_cases c2 : ((decide (zrun T zbl p < T.1) && zlet (T.2 (zrun T zbl p))) && zisw T (zrun T zbl p) (zrun T zlet (zrun T zbl p)) 2) = true
  · rw [if_pos c2]
    exact lr10_b1 (line10_1 hR hT hL h70 (sp 2 c2).1 hn 2 999 4 (by omega) (by omega) (by omega) (sp 2 c2).2 (fun _ _ _ _ => rfl))
  rw [if_neg c2, zb1_at (show zf_X10_isWord n (400557 : Int64) M = _ from hw 3 (by omega)), zB0]
  by_cases c3 : ((decide (zrun T zbl p < T.1) && zlet (T.2 (zrun T zbl p))) && zisw T (zrun T zbl p) (zrun T zlet (zrun T zbl p)) 3) = true
  · rw [if_pos c3]
    exact lr10_b1 (line10_1 hR hT hL h70 (sp 3 c3).1 hn 3 99 5 (by omega) (by omega) (by omega) (sp 3 c3).2 (fun _ _ _ _ => rfl))
  rw [if_neg c3, zb1_at (show zf_X10_isWord n (232600981 : Int64) M = _ from hw 4 (by omega)), zB0]
  by_cases c4 : ((decide (zrun T zbl p < T.1) && zlet (T.2 (zrun T zbl p))) && zisw T (zrun T zbl p) (zrun T zlet (zrun T zbl p)) 4) = true
  · rw [if_pos c4]
    exact lr10_b1 (line10_4 hR hT hL h70 (sp 4 c4).1 hn (sp 4 c4).2)
  rw [if_neg c4, zb1_at (show zf_X10_isWord n (1277870079 : Int64) M = _ from hw 5 (by omega)), zB0]
  by_cases c5 : ((decide (zrun T zbl p < T.1) && zlet (T.2 (zrun T zbl p))) && zisw T (zrun T zbl p) (zrun T zlet (zrun T zbl p)) 5) = true
  · rw [if_pos c5]
    exact lr10_b1 (line10_5 hR hT hL hW h70 (sp 5 c5).1 hn (sp 5 c5).2)
  rw [if_neg c5, zb1_at (show zf_X10_isWord n (189450486 : Int64) M = _ from hw 6 (by omega)), zB0]
  by_cases c6 : ((decide (zrun T zbl p < T.1) && zlet (T.2 (zrun T zbl p))) && zisw T (zrun T zbl p) (zrun T zlet (zrun T zbl p)) 6) = true
  · rw [if_pos c6]
    exact lr10_b1 (line10_6 hR hT hL hW h70 (sp 6 c6).1 hn (sp 6 c6).2)
  rw [if_neg c6, zb1_at (show zf_X10_isWord n (37396683146 : Int64) M = _ from hw 7 (by omega)), zB0]
  by_cases c7 : ((decide (zrun T zbl p < T.1) && zlet (T.2 (zrun T zbl p))) && zisw T (zrun T zbl p) (zrun T zlet (zrun T zbl p)) 7) = true
  · rw [if_pos c7]
    exact lr10_b1 (line10_7 hR hT hL hW h70 (sp 7 c7).1 hn (sp 7 c7).2)
  have hE : EE (zwr M 77 12 (nI (zrun T zbl p))) (zrun T zbl p) := ⟨wre, by omega⟩
  rw [if_neg c7, hR.2.2.1.2.1, zb1_at (wrong10 _ hR.2.1), zline_n]
  · exact ⟨_, rfl, hE, fr10_w (by omega) (by omega)⟩
  · refine zsrt_no (fun s hs => ?_)
    by_cases hD : (decide (zrun T zbl p < T.1) && zlet (T.2 (zrun T zbl p))) = true
    · rw [hD, Bool.true_and] at c0 c1 c2 c3 c4 c5 c6 c7
      rcases (show s = 0 ∨ s = 1 ∨ s = 2 ∨ s = 3 ∨ s = 4 ∨ s = 5 ∨ s = 6 ∨ s = 7 by omega) with rfl | rfl | rfl | rfl | rfl | rfl | rfl | rfl
      · simpa using c0
      · simpa using c1
      · simpa using c2
      · simpa using c3
      · simpa using c4
      · simpa using c5
      · simpa using c6
      · simpa using c7
    · have h3 := zwd_3 s hs
      have hz : zrun T zlet (zrun T zbl p) = zrun T zbl p := by
        by_cases g : T.1 ≤ zrun T zbl p
        · exact zrun_stop (Or.inl g)
        · refine zrun_stop (Or.inr ?_)
          rw [decide_eq_true (show zrun T zbl p < T.1 by omega), Bool.true_and] at hD
          simpa using hD
      unfold zisw
      exact decide_eq_false (fun z => by have := z.1; omega)
