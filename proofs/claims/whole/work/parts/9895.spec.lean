/-! LAYER 2: a line that is read keeps the bounds -/
theorem zbyl_ok {T : ZT} {c : Nat} : ∀ d m p (L : ZL) w z, zbyl T c d m p L w = .ok z → p ≤ T.1 → m < 2 ^ c → LX L → 0 < L.1 → zcn L + d ≤ 8 → z.1 < 2 ^ c ∧ LX z.2.2.1 := by
  intro d
  induction d with
  | zero => intro m p L w z h; cases h
  | succ d ih =>
    intro m p L w z h hp hm hL h0 h8
    obtain ⟨v, e, h1, h2⟩ := zq1_ok h
    obtain ⟨-, -, -, -, -, -, -, a8, -, -, a11, a12, -⟩ := zN_some hp h1
    obtain ⟨l1, l2, l3⟩ := lx_adn (v := v) hL h0 (by omega) a12
    have hm2 : m ||| 2 ^ v < 2 ^ c := Nat.or_lt_two_pow hm (Nat.pow_lt_pow_right (by decide) a11)
    split at h2
    · cases h2
    · split at h2
      · exact ih _ _ _ _ z h2 a8 hm2 l1 l3 (by omega)
      · cases h2
        exact ⟨hm2, l1⟩
theorem zreach_ok {T : ZT} {c p w : Nat} {L : ZL} {z : Nat × Nat × ZL × Nat} (h : zreach T c p L w = .ok z) (hp : p ≤ T.1) (hL : LX L) (h0 : 0 < L.1) (h8 : zcn L + 5 ≤ 8) : z.1 < 2 ^ c ∧ LX z.2.2.1 := by
  unfold zreach at h
  split at h
  · split at h
    · exact zbyl_ok 5 0 _ L w z h (zrun_le (zrun_le hp)) (Nat.two_pow_pos _) hL h0 h8
    · cases h
  · cases h
    exact ⟨Nat.two_pow_pos _, hL⟩
theorem zbody_4 (T : ZT) (p : Nat) (r : ZRow) (L : ZL) (w : Nat) : zbody T 4 p r L w = zq1 T p 0 100 L w (fun v e L w => zq1 T e v 100 L w (fun x e L w => .ok (e, zat (zat r 6 v) 7 x, L, w))) := rfl
theorem zbody_5 (T : ZT) (p : Nat) (r : ZRow) (L : ZL) (w : Nat) : zbody T 5 p r L w = zq1 T p 0 100 L w (fun v e L w => zq1 T e 1 31 L w (fun x e L w => .ok (e, zchn r v x, L, w))) := rfl
theorem zbody_6 (T : ZT) (p : Nat) (r : ZRow) (L : ZL) (w : Nat) : zbody T 6 p r L w = zq1 T p 0 100 L w (fun a e L w => zq1 T e a 100 L w (fun b e L w => zq1 T e 1 100 L w (fun c e L w => match zreach T (r 1) e L w with
    | .ok (d, e, L, w) => .ok (e, zmbr r a b c d, L, w)
    | .error x => .error x))) := rfl
theorem zbody_7 (T : ZT) (p : Nat) (r : ZRow) (L : ZL) (w : Nat) : zbody T 7 p r L w = zq1 T p 0 (r 0) L w (fun a e L w => zq1 T e 0 (r 0) L w (fun b e2 L w => if a = b ∨ (r (63 + a)).testBit b = true then .error (zrun T zbl e) else .ok (e2, ztog r a b, L, w))) := rfl
theorem zbody_ok {T : ZT} {s p w : Nat} {r : ZRow} {L : ZL} {z : ZY} (h : zbody T s p r L w = .ok z) (hp : p ≤ T.1) (hW : WR r) (hL : LX L) (h0 : 0 < L.1) (hc : zcn L = 0) (hs : s < 8) (h5 : s = 5 → r 1 < 4) (h6 : s = 6 → r 0 < 10) : WR z.2.1 ∧ LX z.2.2.1 := by
  have hb := hW.1.b
  have one : ∀ (j hi : Nat), hi ≤ 100000 → (∀ v, v < hi → WR (zat r j v)) → zq1 T p 0 hi L w (fun v e L w => (.ok (e, zat r j v, L, w) : Except Nat ZY)) = .ok z → WR z.2.1 ∧ LX z.2.2.1 := by
    intro j hi hh hv h
    obtain ⟨v, e, h1, h2⟩ := zq1_ok h
    obtain ⟨-, -, -, -, -, -, -, a8, -, -, a11, a12, -⟩ := zN_some hp h1
    obtain ⟨l1, l2, l3⟩ := lx_adn (v := v) hL h0 (by omega) a12
    cases h2
    exact ⟨hv v a11, l1⟩
  rcases (show s = 0 ∨ s = 1 ∨ s = 2 ∨ s = 3 ∨ s = 4 ∨ s = 5 ∨ s = 6 ∨ s = 7 by omega) with rfl | rfl | rfl | rfl | rfl | rfl | rfl | rfl
  · exact one 2 100000 (by omega) (fun v hv => wr_one hW 2 v (by omega)) h
  · exact one 3 51 (by omega) (fun v hv => wr_one hW 3 v (by omega)) h
  · exact one 4 1000 (by omega) (fun v hv => wr_one hW 4 v (by omega)) h
  · exact one 5 100 (by omega) (fun v hv => wr_one hW 5 v (by omega)) h
  · rw [zbody_4] at h
    obtain ⟨v, e, h1, h2⟩ := zq1_ok h
    obtain ⟨-, -, -, -, -, -, -, a8, -, a10, a11, a12, -⟩ := zN_some hp h1
    obtain ⟨l1, l2, l3⟩ := lx_adn (v := v) hL h0 (by omega) a12
    obtain ⟨v', e', h3, h4⟩ := zq1_ok h2
    obtain ⟨-, -, -, -, -, -, -, b8, -, b10, b11, b12, -⟩ := zN_some a8 h3
    obtain ⟨m1, m2, m3⟩ := lx_adn (v := v') l1 l3 (by omega) b12
    cases h4
    exact ⟨wr_per hW b10 (by omega), m1⟩
  · rw [zbody_5] at h
    obtain ⟨v, e, h1, h2⟩ := zq1_ok h
    obtain ⟨-, -, -, -, -, -, -, a8, -, a10, a11, a12, -⟩ := zN_some hp h1
    obtain ⟨l1, l2, l3⟩ := lx_adn (v := v) hL h0 (by omega) a12
    obtain ⟨v', e', h3, h4⟩ := zq1_ok h2
    obtain ⟨-, -, -, -, -, -, -, b8, -, b10, b11, b12, -⟩ := zN_some a8 h3
    obtain ⟨m1, m2, m3⟩ := lx_adn (v := v') l1 l3 (by omega) b12
    cases h4
    exact ⟨wr_chn hW (h5 rfl) (by omega) b10 (by omega), m1⟩
  · rw [zbody_6] at h
    obtain ⟨v, e, h1, h2⟩ := zq1_ok h
    obtain ⟨-, -, -, -, -, -, -, a8, -, a10, a11, a12, -⟩ := zN_some hp h1
    obtain ⟨l1, l2, l3⟩ := lx_adn (v := v) hL h0 (by omega) a12
    obtain ⟨v', e', h3, h4⟩ := zq1_ok h2
    obtain ⟨-, -, -, -, -, -, -, b8, -, b10, b11, b12, -⟩ := zN_some a8 h3
    obtain ⟨m1, m2, m3⟩ := lx_adn (v := v') l1 l3 (by omega) b12
    obtain ⟨u, e2, h5', h6'⟩ := zq1_ok h4
    obtain ⟨-, -, -, -, -, -, -, c8, -, c10, c11, c12, -⟩ := zN_some b8 h5'
    obtain ⟨n1, n2, n3⟩ := lx_adn (v := u) m1 m3 (by omega) c12
    revert h6'
    cases hz : zreach T (r 1) e2 (zadn (zadn (zadn L v) v') u) (w + 1 + 1 + 1) with
    | error x => intro h6'; cases h6'
    | ok x =>
      intro h6'
      obtain ⟨g1, g2⟩ := zreach_ok hz c8 n1 n3 (by omega)
      obtain ⟨d, e3, L4, w4⟩ := x
      cases h6'
      exact ⟨wr_mbr hW (h6 rfl) b10 (by omega) c10 (by omega) g1, g2⟩
  · rw [zbody_7] at h
    obtain ⟨v, e, h1, h2⟩ := zq1_ok h
    obtain ⟨-, -, -, -, -, -, -, a8, -, a10, a11, a12, -⟩ := zN_some hp h1
    obtain ⟨l1, l2, l3⟩ := lx_adn (v := v) hL h0 (by omega) a12
    obtain ⟨v', e', h3, h4⟩ := zq1_ok h2
    obtain ⟨-, -, -, -, -, -, -, b8, -, b10, b11, b12, -⟩ := zN_some a8 h3
    obtain ⟨m1, m2, m3⟩ := lx_adn (v := v') l1 l3 (by omega) b12
    split at h4
    · cases h4
    · rename_i hn
      cases h4
      exact ⟨wr_tog hW a11 b11 (fun z => hn (Or.inl z)), m1⟩
theorem zline_ok {T : ZT} {p w mk : Nat} {r : ZRow} {L : ZL} {z : Nat × ZRow × ZL × Nat × Nat} (h : zline T p r L w mk = .ok z) (hp : p ≤ T.1) (hW : WR r) (hL : LX L) (hm : mk < 256) : WR z.2.1 ∧ LX z.2.2.1 ∧ z.2.2.2.2 < 256 := by
  unfold zline at h
  cases hz : zsrt T p r mk with
  | none => rw [hz] at h; cases h
  | some s =>
    rw [hz] at h
    obtain ⟨s1, -, s2⟩ := zfnd_some _ _ hz
    rw [Bool.and_eq_true] at s1
    have m5 : s = 5 → r 1 < 4 := fun z => by
      have := s1.2
      rw [z] at this
      exact of_decide_eq_true this
    have m6 : s = 6 → r 0 < 10 := fun z => by
      have := s1.2
      rw [z] at this
      exact of_decide_eq_true this
    obtain ⟨l1, l2, l3⟩ := lx_opn (s := s) hL (by omega)
    have h' : (match zbody T s (zrun T zlet p) r (zopn L s) w with
      | .error e => .error e
      | .ok (p1, r1, L1, w1) => match zEnd T p1 with
        | none => .error (zrun T zbl p1)
        | some p2 => .ok (p2, r1, L1, w1, mk ||| 2 ^ s) : Except Nat (Nat × ZRow × ZL × Nat × Nat)) = .ok z := h
    revert h'
    cases hy : zbody T s (zrun T zlet p) r (zopn L s) w with
    | error e => intro h'; cases h'
    | ok y =>
      obtain ⟨g1, g2⟩ := zbody_ok hy (zrun_le hp) hW l1 l3 l2 (by omega) m5 m6
      obtain ⟨p1, r1, L1, w1⟩ := y
      intro h'
      have h2 : (match zEnd T p1 with
        | none => .error (zrun T zbl p1)
        | some p2 => .ok (p2, r1, L1, w1, mk ||| 2 ^ s) : Except Nat (Nat × ZRow × ZL × Nat × Nat)) = .ok z := h'
      revert h2
      cases zEnd T p1 with
      | none => intro h2; cases h2
      | some x =>
        intro h2
        cases h2
        exact ⟨g1, g2, Nat.or_lt_two_pow (n := 8) hm (Nat.pow_lt_pow_right (by decide) (by omega))⟩
