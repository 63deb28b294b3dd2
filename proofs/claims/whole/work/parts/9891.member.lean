/-! LAYER 2: members, as the class reads them, and the line -/
theorem zmbr_ne {r : ZRow} {a b c d j : Nat} (h0 : j ≠ 0) (h1 : j ≠ 15 + r 0) (h2 : j ≠ 25 + r 0) (h3 : j ≠ 35 + r 0) (h4 : j ≠ 45 + r 0) : zmbr r a b c d j = r j := by
  unfold zmbr
  rw [zat_ne h0, zat_ne h4, zat_ne h3, zat_ne h2, zat_ne h1]
theorem zmbr_0 {r : ZRow} {a b c d : Nat} : zmbr r a b c d 0 = r 0 + 1 := by
  unfold zmbr
  rw [zat_eq]
theorem zmbr_1 {r : ZRow} {a b c d : Nat} : zmbr r a b c d (15 + r 0) = a := by
  unfold zmbr
  rw [zat_ne (by omega), zat_ne (by omega), zat_ne (by omega), zat_ne (by omega), zat_eq]
theorem zmbr_2 {r : ZRow} {a b c d : Nat} : zmbr r a b c d (25 + r 0) = b := by
  unfold zmbr
  rw [zat_ne (by omega), zat_ne (by omega), zat_ne (by omega), zat_eq]
theorem zmbr_3 {r : ZRow} {a b c d : Nat} : zmbr r a b c d (35 + r 0) = c := by
  unfold zmbr
  rw [zat_ne (by omega), zat_ne (by omega), zat_eq]
theorem zmbr_4 {r : ZRow} {a b c d : Nat} : zmbr r a b c d (45 + r 0) = d := by
  unfold zmbr
  rw [zat_ne (by omega), zat_eq]
/-- a member's cells -/
def zMB (M : ZMem) (o i a b c d : Nat) : ZMem := zwr (zwr (zwr (zwr (zwr M (o + 1) i (nI a)) (o + 2) i (nI b)) (o + 3) i (nI c)) (o + 4) i (nI d)) o 0 (nI (i + 1))
theorem zMB_ne {M : ZMem} {o i a b c d k : Nat} (h : k < o ∨ o + 4 < k) : zMB M o i a b c d k = M k := by
  unfold zMB
  rw [wrn (by omega), wrn (by omega), wrn (by omega), wrn (by omega), wrn (by omega)]
theorem zMB_o {M : ZMem} {o i a b c d j : Nat} (h : j ≠ 0) : zMB M o i a b c d o j = M o j := by
  unfold zMB
  rw [wrj h, wrn (by omega), wrn (by omega), wrn (by omega), wrn (by omega)]
theorem zMB_0 {M : ZMem} {o i a b c d : Nat} : zMB M o i a b c d o 0 = nI (i + 1) := wre
theorem zMB_i {M : ZMem} {o i a b c d : Nat} : zMB M o i a b c d (o + 1) i = nI a ∧ zMB M o i a b c d (o + 2) i = nI b ∧ zMB M o i a b c d (o + 3) i = nI c ∧ zMB M o i a b c d (o + 4) i = nI d := by
  unfold zMB
  refine ⟨?_, ?_, ?_, ?_⟩
  · rw [wrn (by omega), wrn (by omega), wrn (by omega), wrn (by omega), wre]
  · rw [wrn (by omega), wrn (by omega), wrn (by omega), wre]
  · rw [wrn (by omega), wrn (by omega), wre]
  · rw [wrn (by omega), wre]
theorem zMB_j {M : ZMem} {o i a b c d k j : Nat} (hj : j ≠ i) (hk : k ≠ o) : zMB M o i a b c d k j = M k j := by
  unfold zMB
  rw [wrn hk, wrj hj, wrj hj, wrj hj, wrj hj]
theorem TD.mb {M : ZMem} {o a b c d : Nat} {r : ZRow} (h : TD M o r) (h0 : r 0 < 10) (h1 : r 1 ≤ 4) : TD (zMB M o (r 0) a b c d) o (zmbr r a b c d) := by
  obtain ⟨t1, t2, t3, t4, t5, t6, t7⟩ := h
  refine ⟨by rw [zMB_0, zmbr_0], ?_, ?_, ?_, ?_, fun i hi => ?_, fun k hk => ?_⟩
  · rw [zMB_o (by omega), zmbr_ne (by omega) (by omega) (by omega) (by omega) (by omega)]; exact t2
  · rw [zMB_o (by omega), zmbr_ne (by omega) (by omega) (by omega) (by omega) (by omega)]; exact t3
  · rw [zMB_o (by omega), zmbr_ne (by omega) (by omega) (by omega) (by omega) (by omega)]; exact t4
  · rw [zMB_o (by omega), zmbr_ne (by omega) (by omega) (by omega) (by omega) (by omega)]; exact t5
  · rw [zmbr_0] at hi
    by_cases e : i = r 0
    · subst e
      rw [zmbr_1, zmbr_2, zmbr_3, zmbr_4]
      exact zMB_i
    · rw [zmbr_ne (by omega) (by omega) (by omega) (by omega) (by omega), zmbr_ne (by omega) (by omega) (by omega) (by omega) (by omega), zmbr_ne (by omega) (by omega) (by omega) (by omega) (by omega), zmbr_ne (by omega) (by omega) (by omega) (by omega) (by omega), zMB_j e (by omega), zMB_j e (by omega), zMB_j e (by omega), zMB_j e (by omega)]
      exact t6 i (by omega)
  · rw [zmbr_ne (by omega) (by omega) (by omega) (by omega) (by omega)] at hk
    rw [zmbr_ne (by omega) (by omega) (by omega) (by omega) (by omega), zmbr_ne (by omega) (by omega) (by omega) (by omega) (by omega), zMB_ne (by omega), zMB_ne (by omega)]
    exact t7 k hk
theorem reachE {M : ZMem} {T : ZT} {q y n : Nat} (hT : TT T) (hE : ES9 M q) (hC : TC9 M T) (hy : M 42 2 = nI y) (hyT : y ≤ T.1) (hn : 400 < n) : zf_X4_readReach n M = some (0, zwr M 42 2 (nI (zrun T zbl y))) := by
  unfold zf_X4_readReach zf_X4_readReach_j22
  rw [zb1_at (skip9 hT hC hy hyT hn), zb1_at (wrong9 (e := q) (by rw [wrj (by omega)]; exact hE.1) hE.2), if_pos rfl]
theorem body9_6 {M : ZMem} {T : ZT} {o p w mk n : Nat} {r : ZRow} {L : ZL} (hR : RS9 M T o p r L w mk) (hT : TT T) (hP : PIL T p L w) (hW : WR r) (hn : 400 < n) (h4 : r 0 < 10) :
    BR9 M T o mk (fun K => zb1 (zf_X4_readMember n M) (fun M82 => K M82)) (zbody T 6 p r L w) := by
  have ho := hR.2.2.1
  have hb := hW.1.b
  show BR9 M T o mk _ (zq1 T p 0 100 L w (fun a e L w => zq1 T e a 100 L w (fun b e L w => zq1 T e 1 100 L w (fun c e L w => match zreach T (r 1) e L w with
    | .ok (d, e, L, w) => .ok (e, zmbr r a b c d, L, w)
    | .error x => .error x))))
  rcases num9x (n := n) hR (Or.inl rfl) hT hP (hi_lit (m := 99) (by omega)) (show 0 ≤ 100000 by omega) hn with ⟨a, e1, M1, a1, a2, a3, a4, a5, a6, a7, a8, a9, a10⟩ | ⟨M1, a1, a2, a3, a4, y, a5, a6⟩
  · rw [zq1_some a1]
    rcases num9x (n := n) a3 (Or.inl rfl) hT a4 (hi_lit (m := 99) (by omega)) (show a ≤ 100000 by omega) hn with ⟨b, e2, M2, b1, b2, b3, b4, b5, b6, b7, b8, b9, b10⟩ | ⟨M2, b1, b2, b3, b4, y, b5, b6⟩
    · rw [zq1_some b1]
      rcases num9x (n := n) b3 (Or.inl rfl) hT b4 (hi_lit (m := 99) (by omega)) (show 1 ≤ 100000 by omega) hn with ⟨c, e3, M3, c1, c2, c3, c4, c5, c6, c7, c8, c9, c10⟩ | ⟨M3, c1, c2, c3, c4, y, c5, c6⟩
      · rw [zq1_some c1]
        have hY := reach9 (n := n) c3 hT c4 c5 hW hn
        revert hY
        cases zreach T (r 1) e3 (zadn (zadn (zadn L a) b) c) (w + 1 + 1 + 1) with
        | error z =>
          rintro ⟨u, M4, d1, d2, d3⟩
          have hc : zf_X4_readMember n M = some M4 := by
            unfold zf_X4_readMember zf_X4_readMember_j115
            rw [zb2_at (show zf_X4_readNumber n 0 99 M = _ from a2), zb2_at (show zf_X4_readNumber n (nI a) 99 M1 = _ from b2), zb2_at (show zf_X4_readNumber n 1 99 M2 = _ from c2), zb2_at d1, zb1_at (wrong9 d2.1 d2.2), if_pos rfl]
          exact ⟨_, fun K => by show zb1 _ _ = _; rw [zb1_at hc], d2, fr9_trans a7 (fr9_trans b7 (fr9_trans c7 d3))⟩
        | ok z =>
          obtain ⟨d, e4, L4, w4⟩ := z
          rintro ⟨M4, d1, d2, d3, d4, d5⟩
          have d2' : RS9 M4 T o e4 r L4 w4 mk := d2
          have t0 := d2'.2.2.2.2.2.2.1.1
          have q6 := d2'.2.1
          have hs := (d2'.2.2.2.2.2.2.2.1.congr (M' := zMB M4 o (r 0) a b c d) (zMB_ne (by omega)) (zMB_ne (by omega))).rr (q := zmbr r a b c d) hW.2.2.2.2.1 (fun i hi => zmbr_ne (by omega) (by omega) (by omega) (by omega) (by omega))
          obtain ⟨f1, f2⟩ := d2'.upd (M' := zMB M4 o (r 0) a b c d) (fun k x y z => zMB_ne (by omega)) (zMB_o (by omega)) (zMB_o (by omega)) (d2'.2.2.2.2.2.2.1.mb h4 (by omega)) hs
          have hc : zf_X4_readMember n M = some (zMB M4 o (r 0) a b c d) := by
            have y1 : ∀ k, (k < o ∨ o + 4 < k) → k ≠ o → ∀ x1, zwr M4 (o + 1) (r 0) x1 k = M4 k := fun k g g' x1 => wrn (by omega)
            have u1 : ∀ x1, zwr M4 (o + 1) (r 0) x1 42 6 = nI o := fun x1 => by rw [wrn (by omega)]; exact q6
            have u2 : ∀ x1 x2, zwr (zwr M4 (o + 1) (r 0) x1) (o + 2) (r 0) x2 42 6 = nI o := fun x1 x2 => by rw [wrn (by omega)]; exact u1 x1
            have u3 : ∀ x1 x2 x3, zwr (zwr (zwr M4 (o + 1) (r 0) x1) (o + 2) (r 0) x2) (o + 3) (r 0) x3 42 6 = nI o := fun x1 x2 x3 => by rw [wrn (by omega)]; exact u2 x1 x2
            have u4 : ∀ x1 x2 x3 x4, zwr (zwr (zwr (zwr M4 (o + 1) (r 0) x1) (o + 2) (r 0) x2) (o + 3) (r 0) x3) (o + 4) (r 0) x4 42 6 = nI o := fun x1 x2 x3 x4 => by rw [wrn (by omega)]; exact u3 x1 x2 x3
            have v1 : ∀ x1, zwr M4 (o + 1) (r 0) x1 o 0 = nI (r 0) := fun x1 => by rw [wrn (by omega)]; exact t0
            have v2 : ∀ x1 x2, zwr (zwr M4 (o + 1) (r 0) x1) (o + 2) (r 0) x2 o 0 = nI (r 0) := fun x1 x2 => by rw [wrn (by omega)]; exact v1 x1
            have v3 : ∀ x1 x2 x3, zwr (zwr (zwr M4 (o + 1) (r 0) x1) (o + 2) (r 0) x2) (o + 3) (r 0) x3 o 0 = nI (r 0) := fun x1 x2 x3 => by rw [wrn (by omega)]; exact v2 x1 x2
            have v4 : ∀ x1 x2 x3 x4, zwr (zwr (zwr (zwr M4 (o + 1) (r 0) x1) (o + 2) (r 0) x2) (o + 3) (r 0) x3) (o + 4) (r 0) x4 o 0 = nI (r 0) := fun x1 x2 x3 x4 => by rw [wrn (by omega)]; exact v3 x1 x2 x3
            unfold zf_X4_readMember zf_X4_readMember_j115
            rw [zb2_at (show zf_X4_readNumber n 0 99 M = _ from a2), zb2_at (show zf_X4_readNumber n (nI a) 99 M1 = _ from b2), zb2_at (show zf_X4_readNumber n 1 99 M2 = _ from c2), zb2_at d1, zb1_at (right9 d2'.2.2.2.2.1), if_neg (by decide), dy6 q6 ho, dy6 q6 ho, zst_at (r 0) t0 (by omega), dy6 (u1 _) ho, dy6 (u1 _) ho, zst_at (r 0) (v1 _) (by omega), dy6 (u2 _ _) ho, dy6 (u2 _ _) ho, zst_at (r 0) (v2 _ _) (by omega), dy6 (u3 _ _ _) ho, dy6 (u3 _ _ _) ho, zst_at (r 0) (v3 _ _ _) (by omega), dy6 (u4 _ _ _ _) ho, zput_at, v4, nI_1]
            rfl
          exact ⟨_, fun K => by show zb1 _ _ = _; rw [zb1_at hc], f1, d3, fr9_trans a7 (fr9_trans b7 (fr9_trans c7 (fr9_trans d5 f2)))⟩
      · rw [zq1_none c1]
        have f3 := fr9_trans a7 (fr9_trans b7 c4)
        have hC : TC9 M3 T := hR.1.congr f3.2.1 (f3.1 43 (by omega) (by omega) (by omega) (by omega))
        obtain ⟨d1, d2⟩ := es9_2 (o := o) (x := zrun T zbl y) c3 (Nat.le_trans (zrun_le c5) hT.1)
        have hc : zf_X4_readMember n M = some (zwr M3 42 2 (nI (zrun T zbl y))) := by
          unfold zf_X4_readMember zf_X4_readMember_j115
          rw [zb2_at (show zf_X4_readNumber n 0 99 M = _ from a2), zb2_at (show zf_X4_readNumber n (nI a) 99 M1 = _ from b2), zb2_at (show zf_X4_readNumber n 1 99 M2 = _ from c2), zb2_at (reachE hT c3 hC c6 c5 hn), zb1_at (wrong9 d1.1 d1.2), if_pos rfl]
        exact ⟨_, fun K => by show zb1 _ _ = _; rw [zb1_at hc], d1, fr9_trans f3 d2⟩
    · rw [zq1_none b1]
      have f3 := fr9_trans a7 b4
      have hC : TC9 M2 T := hR.1.congr f3.2.1 (f3.1 43 (by omega) (by omega) (by omega) (by omega))
      obtain ⟨d1, d2⟩ := es9_2 (o := o) (x := zrun T zbl y) b3 (Nat.le_trans (zrun_le b5) hT.1)
      have hc : zf_X4_readMember n M = some (zwr M2 42 2 (nI (zrun T zbl y))) := by
        unfold zf_X4_readMember zf_X4_readMember_j115
        rw [zb2_at (show zf_X4_readNumber n 0 99 M = _ from a2), zb2_at (show zf_X4_readNumber n (nI a) 99 M1 = _ from b2), zb2_at (readN_err b3 _ _), zb2_at (reachE hT b3 hC b6 b5 hn), zb1_at (wrong9 d1.1 d1.2), if_pos rfl]
      exact ⟨_, fun K => by show zb1 _ _ = _; rw [zb1_at hc], d1, fr9_trans f3 d2⟩
  · rw [zq1_none a1]
    have hC : TC9 M1 T := hR.1.congr a4.2.1 (a4.1 43 (by omega) (by omega) (by omega) (by omega))
    obtain ⟨d1, d2⟩ := es9_2 (o := o) (x := zrun T zbl y) a3 (Nat.le_trans (zrun_le a5) hT.1)
    have hc : zf_X4_readMember n M = some (zwr M1 42 2 (nI (zrun T zbl y))) := by
      unfold zf_X4_readMember zf_X4_readMember_j115
      rw [zb2_at (show zf_X4_readNumber n 0 99 M = _ from a2), zb2_at (readN_err a3 _ _), zb2_at (readN_err a3 _ _), zb2_at (reachE hT a3 hC a6 a5 hn), zb1_at (wrong9 d1.1 d1.2), if_pos rfl]
    exact ⟨_, fun K => by show zb1 _ _ = _; rw [zb1_at hc], d1, fr9_trans a4 d2⟩
