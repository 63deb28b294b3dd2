/-! LAYER 2: the class reads a text -/
theorem zbyl_L {T : ZT} {c : Nat} : ∀ d m p (L : ZL) w z, zbyl T c d m p L w = .ok z → z.2.2.1.1 = L.1 := by
  intro d
  induction d with
  | zero => intro m p L w z h; cases h
  | succ d ih =>
    intro m p L w z h
    obtain ⟨v, e, h1, h2⟩ := zq1_ok h
    split at h2
    · cases h2
    · split at h2
      · exact ih (m ||| 2 ^ v) e (zadn L v) (w + 1) z h2
      · cases h2
        rfl
theorem zreach_L {T : ZT} {c p w : Nat} {L : ZL} {z : Nat × Nat × ZL × Nat} (h : zreach T c p L w = .ok z) : z.2.2.1.1 = L.1 := by
  unfold zreach at h
  split at h
  · split at h
    · exact zbyl_L 5 0 _ L w z h
    · cases h
  · cases h
    rfl
theorem zbody_L {T : ZT} {s p w : Nat} {r : ZRow} {L : ZL} {z : ZY} (h : zbody T s p r L w = .ok z) (hs : s < 8) : z.2.2.1.1 = L.1 := by
  have one : ∀ (j hi : Nat), zq1 T p 0 hi L w (fun v e L w => (.ok (e, zat r j v, L, w) : Except Nat ZY)) = .ok z → z.2.2.1.1 = L.1 := by
    intro j hi h
    obtain ⟨v, e, h1, h2⟩ := zq1_ok h
    cases h2
    rfl
  rcases (show s = 0 ∨ s = 1 ∨ s = 2 ∨ s = 3 ∨ s = 4 ∨ s = 5 ∨ s = 6 ∨ s = 7 by omega) with rfl | rfl | rfl | rfl | rfl | rfl | rfl | rfl
  · exact one 2 100000 h
  · exact one 3 51 h
  · exact one 4 1000 h
  · exact one 5 100 h
  · rw [zbody_4] at h
    obtain ⟨v, e, h1, h2⟩ := zq1_ok h
    obtain ⟨v', e', h3, h4⟩ := zq1_ok h2
    cases h4
    rfl
  · rw [zbody_5] at h
    obtain ⟨v, e, h1, h2⟩ := zq1_ok h
    obtain ⟨v', e', h3, h4⟩ := zq1_ok h2
    cases h4
    rfl
  · rw [zbody_6] at h
    obtain ⟨v, e, h1, h2⟩ := zq1_ok h
    obtain ⟨v', e', h3, h4⟩ := zq1_ok h2
    obtain ⟨u, e2, h5', h6'⟩ := zq1_ok h4
    revert h6'
    cases hz : zreach T (r 1) e2 (zadn (zadn (zadn L v) v') u) (w + 1 + 1 + 1) with
    | error x => intro h6'; cases h6'
    | ok x =>
      intro h6'
      have g := zreach_L hz
      obtain ⟨d, e3, L4, w4⟩ := x
      cases h6'
      exact g
  · rw [zbody_7] at h
    obtain ⟨v, e, h1, h2⟩ := zq1_ok h
    obtain ⟨v', e', h3, h4⟩ := zq1_ok h2
    split at h4
    · cases h4
    · cases h4
      rfl
theorem zline_L {T : ZT} {p w mk : Nat} {r : ZRow} {L : ZL} {z : Nat × ZRow × ZL × Nat × Nat} (h : zline T p r L w mk = .ok z) : z.2.2.1.1 = L.1 + 1 := by
  unfold zline at h
  cases hz : zsrt T p r mk with
  | none => rw [hz] at h; cases h
  | some s =>
    rw [hz] at h
    obtain ⟨s1, -, s2⟩ := zfnd_some _ _ hz
    have h' : (match zbody T s (zrun T zlet p) r (zopn L s) w with
      | .error e => .error e
      | .ok (p1, r1, L1, w1) => match zEnd T p1 with
        | none => .error (zrun T zbl p1)
        | some p2 => .ok (p2, r1, L1, w1, mk ||| 2 ^ s) : Except Nat (Nat × ZRow × ZL × Nat × Nat)) = .ok z := h
    revert h'
    cases hy : zbody T s (zrun T zlet p) r (zopn L s) w with
    | error e => intro h'; cases h'
    | ok y =>
      have g := zbody_L hy (by omega)
      obtain ⟨p1, r1, L1, w1⟩ := y
      intro h'
      have h2 : (match zEnd T p1 with
        | none => .error (zrun T zbl p1)
        | some p2 => .ok (p2, r1, L1, w1, mk ||| 2 ^ s) : Except Nat (Nat × ZRow × ZL × Nat × Nat)) = .ok z := h'
      revert h2
      cases zEnd T p1 with
      | none => intro h2; cases h2
      | some x =>
        intro h2
        cases h2
        exact g
/-- a text from p on -/
def zread (T : ZT) : Nat → Nat → ZRow → ZL → Nat → Nat → Except Nat (ZRow × ZL × Nat)
  | 0, p, _, _, _, _ => .error p
  | d + 1, p, r, L, w, k => if T.1 ≤ p then .ok (r, L, w) else match zline T p r L w k with
    | .error e => .error e
    | .ok (p2, r2, L2, w2, k2) => zread T d (zrun T zbl p2) r2 L2 w2 k2
def TR9 (M : ZMem) (T : ZT) (o : Nat) (c : Option (Int32 × ZMem)) (K : ZMem → Option (Int32 × ZMem)) : Except Nat (ZRow × ZL × Nat) → Prop
  | .ok z => ∃ M' p mk, c = K M' ∧ RS9 M' T o p z.1 z.2.1 z.2.2 mk ∧ PB T p z.2.1 z.2.2 ∧ WR z.1 ∧ LX z.2.1 ∧ FR9 o M M'
  | .error e => ∃ M', c = K M' ∧ ES9 M' e ∧ FR9 o M M'
theorem skip9e {M : ZMem} {T : ZT} (hT : TT T) {p n : Nat} (h : TC9 M T) (hp : M 42 2 = nI p) (hp4 : p ≤ 400) (hn : 400 < n) : zf_X4_skipBlanks n M = some (zwr M 42 2 (nI (zrun T zbl p))) := by
  have hl := hT.1
  by_cases g : p ≤ T.1
  · exact skip9 hT h hp g hn
  · obtain ⟨n, rfl⟩ : ∃ y, n = y + 1 := ⟨n - 1, by omega⟩
    unfold zf_X4_skipBlanks
    rw [zf_X4_skipBlanks_L0, h.1, hp, zi_le (by omega) (by omega), if_pos (by omega), zrun_stop (Or.inl (by omega)), zwr_same hp]
theorem reads9 {T : ZT} {o n : Nat} (hT : TT T) (hn : 400 < n) (K : ZMem → Option (Int32 × ZMem)) : ∀ d m p r (L : ZL) w mk (M : ZMem), d + L.1 = 80 → d < m → RS9 M T o p r L w mk → PB T p L w → WR r → LX L → mk < 256 → TR9 M T o (zf_X4_read_L35 n K m (nI L.1) M) K (zread T d p r L w mk) := by
  have hl := hT.1
  intro d
  induction d with
  | zero =>
    intro m p r L w mk M hd hm hR hP hW hL hmk
    obtain ⟨p1, p2, p3⟩ := hP
    omega
  | succ d ih =>
    intro m p r L w mk M hd hm hR hP hW hL hmk
    obtain ⟨m, rfl⟩ : ∃ y, m = y + 1 := ⟨m - 1, by omega⟩
    obtain ⟨p1, p2, p3⟩ := id hP
    rw [zf_X4_read_L35, show (80 : Int32) = nI 80 from rfl, zi_le (by omega) (by omega), if_neg (by omega), hR.1.1, hR.2.2.2.1, zi_le (by omega) (by omega)]
    show TR9 M T o _ K (if T.1 ≤ p then .ok (r, L, w) else match zline T p r L w mk with
    | .error e => .error e
    | .ok (p2, r2, L2, w2, mk2) => zread T d (zrun T zbl p2) r2 L2 w2 mk2)
    by_cases c : T.1 ≤ p
    · rw [if_pos c, if_pos c]
      exact ⟨M, p, mk, rfl, hR, hP, hW, hL, fr9_refl o M⟩
    · rw [if_neg c, if_neg c, zb1_at (right9 hR.2.2.2.2.1), if_neg (show ¬ (1 : Int32) = 0 by decide)]
      have hY := readLine9 (n := n) hR hT hP hW hmk hn
      revert hY
      cases hz : zline T p r L w mk with
      | error e =>
        rintro ⟨M1, a1, a2, a3⟩
        have ho := hR.2.2.1
        obtain ⟨m, rfl⟩ : ∃ y, m = y + 1 := ⟨m - 1, by omega⟩
        obtain ⟨y, y1, y2⟩ := a3.2.2.2 ⟨p, by omega, hR.2.2.2.1⟩
        have hC : TC9 M1 T := hR.1.congr a3.2.1 (a3.1 43 (by omega) (by omega) (by omega) (by omega))
        have hge := zrun_ge T zbl y
        have hle : zrun T zbl y ≤ 400 := by
          by_cases g : y ≤ T.1
          · exact Nat.le_trans (zrun_le g) hl
          · rw [zrun_stop (Or.inl (by omega))]; exact y1
        have hC2 : TC9 (zwr M1 42 2 (nI (zrun T zbl y))) T := tc9_w hC (by omega)
        have h2 : zwr M1 42 2 (nI (zrun T zbl y)) 42 2 = nI (zrun T zbl y) := wre
        have h4 : zwr M1 42 2 (nI (zrun T zbl y)) 42 4 = nI e := by rw [wrj (by omega)]; exact a2.1
        refine ⟨zwr M1 42 2 (nI (zrun T zbl y)), ?_, ⟨h4, a2.2⟩, fr9_trans a3 (fr9_42 (by omega) (by omega))⟩
        rw [zb1_at a1, zb1_at (skip9e hT hC y2 y1 hn), nI_1, zf_X4_read_L35, show (80 : Int32) = nI 80 from rfl, zi_le (by omega) (by omega), if_neg (by omega), hC2.1, h2, zi_le (by omega) (by omega), zb1_at (wrong9 h4 a2.2), if_pos rfl]
        split <;> rfl
      | ok z =>
        have g1 := zline_ok hz p1 hW hL hmk
        have g2 := zline_L hz
        obtain ⟨q, r2, L2, w2, mk2⟩ := z
        rintro ⟨M1, a1, a2, a3, a4⟩
        have a2' : RS9 M1 T o q r2 L2 w2 mk2 := a2
        obtain ⟨b1, b2, b3⟩ := id a3
        have b1' : q ≤ T.1 := b1
        have b2' : 4 * L2.1 + 2 * w2 ≤ q := b2
        have g2' : L2.1 = L.1 + 1 := g2
        have hge := zrun_ge T zbl q
        have hle := zrun_le (T := T) (f := zbl) b1'
        rw [zb1_at a1, zb1_at (skip9 hT a2'.1 a2'.2.2.2.1 b1' hn), nI_1, ← g2']
        have h := ih m (zrun T zbl q) r2 L2 w2 mk2 _ (by omega) (by omega) (a2'.mv _) ⟨zrun_le b1', by omega, b3⟩ g1.1 g1.2.1 g1.2.2
        have f : FR9 o M (zwr M1 42 2 (nI (zrun T zbl q))) := fr9_trans a4 (fr9_42 (by omega) (by omega))
        show TR9 M T o _ K (zread T d (zrun T zbl q) r2 L2 w2 mk2)
        revert h
        cases zread T d (zrun T zbl q) r2 L2 w2 mk2 with
        | error e =>
          rintro ⟨M2, c1, c2, c3⟩
          exact ⟨M2, c1, c2, fr9_trans f c3⟩
        | ok y =>
          rintro ⟨M2, p', mk', c1, c2, c3, c4, c5, c6⟩
          exact ⟨M2, p', mk', c1, c2, c3, c4, c5, fr9_trans f c6⟩
