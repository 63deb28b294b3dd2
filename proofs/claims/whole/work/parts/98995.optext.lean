/-! LAYER 2: the reference reads a text, and takes it -/
def XR10 (M : ZMem) (T : ZT) (y : Option (Int32 × ZMem)) (K : ZMem → Option (Int32 × ZMem)) : Except Nat (ZRow × ZL × Nat) → Prop
  | .ok z => ∃ M' p mk, y = K M' ∧ RB10 M' T p z.1 z.2.1 mk ∧ FR10 M M'
  | .error e => ∃ M', y = K M' ∧ EE M' e ∧ FR10 M M'
theorem reads10 {T : ZT} {n : Nat} (hT : TT T) (hn : 400 < n) (K : ZMem → Option (Int32 × ZMem)) : ∀ d m p r (L : ZL) w mk (M : ZMem), d + L.1 = 80 → d < m → RB10 M T p r L mk → PB T (zrun T zbl p) L w → WR r → LX L → mk < 256 → XR10 M T (zf_X10_text_L67 n K m M) K (zread T d (zrun T zbl p) r L w mk) := by
  have hl := hT.1
  intro d
  induction d with
  | zero =>
    intro m p r L w mk M hd hm hR hP hW hL hmk
    obtain ⟨p1, p2, p3⟩ := hP
    omega
  | succ d ih =>
    intro m p r L w mk M hd hm hR hP hW hL hmk
    obtain ⟨m, rfl⟩ : ∃ y, m = y + 1 := ⟨m - 1, by omega⟩
    obtain ⟨p1, p2, p3⟩ := id hP
    obtain ⟨k1, k2, k3, k4⟩ := hR.2.2.1
    rw [zf_X10_text_L67, if_pos hR.2.1, k1]
    show XR10 M T _ K (if T.1 ≤ zrun T zbl p then .ok (r, L, w) else match zline T (zrun T zbl p) r L w mk with
    | .error e => .error e
    | .ok (p2, r2, L2, w2, mk2) => zread T d (zrun T zbl p2) r2 L2 w2 mk2)
    by_cases c : T.1 ≤ zrun T zbl p
    · have e1 : zkS T (zrun T zbl p) = 0 := by unfold zkS; rw [if_pos c]
      rw [e1, if_pos (show nI 0 = 0 from rfl), if_pos c]
      exact ⟨M, p, mk, rfl, hR, fr10_refl M⟩
    · have e1 : ¬ nI (zkS T (zrun T zbl p)) = 0 := fun z => by
        have hb4 : zkS T (zrun T zbl p) < 4 := by
          unfold zkS
          split
          · omega
          · split
            · omega
            · split <;> omega
        have hk2 := (nI_eq (by omega) (by omega)).mp (show nI (zkS T (zrun T zbl p)) = nI 0 from z)
        unfold zkS at hk2
        rw [if_neg c] at hk2
        split at hk2
        · omega
        · split at hk2 <;> omega
      rw [if_neg e1, if_neg c]
      have hY := readLine10 (w := w) (n := n) hR hT hL hW (by omega) hn
      revert hY
      cases hz : zline T (zrun T zbl p) r L w mk with
      | error e =>
        rintro ⟨M1, a1, a2, a3⟩
        obtain ⟨m, rfl⟩ : ∃ y, m = y + 1 := ⟨m - 1, by omega⟩
        refine ⟨M1, ?_, a2, a3⟩
        rw [zb1_at a1, zf_X10_text_L67, if_neg a2.ne]
      | ok z =>
        have g1 := zline_ok hz p1 hW hL hmk
        have g2 := zline_L hz
        have g3 := zline_pb hz hP
        obtain ⟨q, r2, L2, w2, mk2⟩ := z
        rintro ⟨M1, a1, a2, a3⟩
        have a2' : RB10 M1 T q r2 L2 mk2 := a2
        obtain ⟨b1, b2, b3⟩ := id g3
        have b1' : q ≤ T.1 := b1
        have b2' : 4 * L2.1 + 2 * w2 ≤ q := b2
        have g2' : L2.1 = L.1 + 1 := g2
        have hge := zrun_ge T zbl q
        rw [zb1_at a1]
        have h := ih m q r2 L2 w2 mk2 M1 (by omega) (by omega) a2' ⟨zrun_le b1', by omega, b3⟩ g1.1 g1.2.1 g1.2.2
        show XR10 M T _ K (zread T d (zrun T zbl q) r2 L2 w2 mk2)
        revert h
        cases zread T d (zrun T zbl q) r2 L2 w2 mk2 with
        | error e =>
          rintro ⟨M2, c1, c2, c3⟩
          exact ⟨M2, c1, c2, fr10_trans a3 c3⟩
        | ok y =>
          rintro ⟨M2, p', mk', c1, c2, c3⟩
          exact ⟨M2, p', mk', c1, c2, fr10_trans a3 c3⟩
theorem fo10 {M : ZMem} {c n : Nat} (h : M 78 1 = nI c) (hc : c ≤ 4) (hn : 10 < n) : zf_X10_firstOrder n M = some (nI (zfo c)) := by
  unfold zf_X10_firstOrder
  refine zloop (fun n i (s : Nat) => zf_X10_firstOrder_L4 M (fun v => some v) n (nI s) (nI i)) zfo (some (nI (zfo c))) c ?_ ?_ n 0 (Nat.zero_le _) (by omega)
  · intro n i hi
    show zf_X10_firstOrder_L4 M _ (n + 1) (nI _) (nI i) = zf_X10_firstOrder_L4 M _ n (nI _) (nI (i + 1))
    rw [zf_X10_firstOrder_L4, zrd_at (i := (1 : Int32)) 1 rfl (by omega), h, zi_le (by omega) (by omega), if_neg (by omega), show (4 : Int32) = nI 4 from rfl, pk_mul, nI_add, nI_1, zfo_s, Nat.mul_comm 4]
  · intro n
    show zf_X10_firstOrder_L4 M _ (n + 1) (nI _) (nI c) = _
    rw [zf_X10_firstOrder_L4, zrd_at (i := (1 : Int32)) 1 rfl (by omega), h, zi_le (by omega) (by omega), if_pos (Nat.le_refl _)]
/-- a row copied from the front -/
def zcpA (M : ZMem) (a b i : Nat) : ZMem := fun k p => if k = b ∧ p < i then M a p else M k p
theorem zcpA_0 (M : ZMem) (a b : Nat) : zcpA M a b 0 = M := by
  funext k p
  unfold zcpA
  rw [if_neg (by omega)]
theorem zcpA_ne {M : ZMem} {a b i k : Nat} (h : k ≠ b) : zcpA M a b i k = M k := by
  funext p
  unfold zcpA
  rw [if_neg (fun z => h z.1)]
theorem zcpA_s (M : ZMem) (a b i : Nat) : zwr (zcpA M a b i) b i (M a i) = zcpA M a b (i + 1) := by
  funext k p
  rw [zwr_get]
  unfold zcpA
  by_cases h : k = b
  · subst h
    by_cases h2 : p = i
    · subst h2
      rw [if_pos ⟨rfl, rfl⟩, if_pos ⟨rfl, by omega⟩]
    · rw [if_neg (fun z => h2 z.2)]
      by_cases h3 : p < i
      · rw [if_pos ⟨rfl, h3⟩, if_pos ⟨rfl, by omega⟩]
      · rw [if_neg (fun z => h3 z.2), if_neg (fun z => absurd z.2 (by omega))]
  · rw [if_neg (fun z => h z.1), if_neg (fun z => h z.1), if_neg (fun z => h z.1)]
theorem zcpA_at {M : ZMem} {a b i p : Nat} (h : p < i) : zcpA M a b i b p = M a p := if_pos ⟨rfl, h⟩
theorem text_35 {M : ZMem} {n : Nat} (K : ZMem → Option (Int32 × ZMem)) (hn : 73 < n) : zf_X10_text_L35 K n 0 M = K (zcpA M 78 79 73) := by
  have key := zloop (fun k i (S : ZMem) => zf_X10_text_L35 K k (nI i) S) (zcpA M 78 79) (K (zcpA M 78 79 73)) 73 (fun k i hi => by
      show zf_X10_text_L35 K (k + 1) (nI i) _ = zf_X10_text_L35 K k (nI (i + 1)) _
      rw [zf_X10_text_L35, show (73 : Int32) = nI 73 from rfl, zi_le (by omega) (by omega), if_neg (by omega), zrd_at i rfl hi, zcpA_ne (show (78 : Nat) ≠ 79 by omega), zst_at i rfl hi, zcpA_s, nI_1]) (fun k => by
      show zf_X10_text_L35 K (k + 1) (nI 73) _ = _
      rw [zf_X10_text_L35, show (73 : Int32) = nI 73 from rfl, zi_le (by omega) (by omega), if_pos (by omega)]) n 0 (by omega) (by omega)
  rw [zcpA_0] at key
  exact key
theorem text_99 {M : ZMem} {n : Nat} (K : ZMem → Option (Int32 × ZMem)) (hn : 73 < n) : zf_X10_text_L99 K n 0 M = K (zcpA M 79 78 73) := by
  have key := zloop (fun k i (S : ZMem) => zf_X10_text_L99 K k (nI i) S) (zcpA M 79 78) (K (zcpA M 79 78 73)) 73 (fun k i hi => by
      show zf_X10_text_L99 K (k + 1) (nI i) _ = zf_X10_text_L99 K k (nI (i + 1)) _
      rw [zf_X10_text_L99, show (73 : Int32) = nI 73 from rfl, zi_le (by omega) (by omega), if_neg (by omega), zrd_at i rfl hi, zcpA_ne (show (79 : Nat) ≠ 78 by omega), zst_at i rfl hi, zcpA_s, nI_1]) (fun k => by
      show zf_X10_text_L99 K (k + 1) (nI 73) _ = _
      rw [zf_X10_text_L99, show (73 : Int32) = nI 73 from rfl, zi_le (by omega) (by omega), if_pos (by omega)]) n 0 (by omega) (by omega)
  rw [zcpA_0] at key
  exact key
def zanw (M : ZMem) : ZMem := zwr (zwr (zwr (zfl M 78 0 73) 78 5 99) 78 7 99) 78 11 (-1)
theorem anew10 {M : ZMem} {n : Nat} (hn : 73 < n) : zf_X10_anew n M = some (zanw M) := by
  unfold zf_X10_anew
  have key := zloop (fun k i (S : ZMem) => zf_X10_anew_L2 (fun M29 => zst M29 78 73 (5 : Int32) (99 : Int32) (fun M30 => zst M30 78 73 (7 : Int32) (99 : Int32) (fun M31 => zst M31 78 73 (11 : Int32) (-1 : Int32) (fun M32 => some M32)))) k (nI i) S) (zfl M 78 0) (some (zanw M)) 73 (fun k i hi => by
      show zf_X10_anew_L2 _ (k + 1) (nI i) _ = zf_X10_anew_L2 _ k (nI (i + 1)) _
      rw [zf_X10_anew_L2, show (73 : Int32) = nI 73 from rfl, zi_le (by omega) (by omega), if_neg (by omega), zst_at i rfl hi, zfl_s, nI_1]) (fun k => by
      show zf_X10_anew_L2 _ (k + 1) (nI 73) _ = _
      rw [zf_X10_anew_L2, show (73 : Int32) = nI 73 from rfl, zi_le (by omega) (by omega), if_pos (by omega), zst_at (i := (5 : Int32)) 5 rfl (by omega), zst_at (i := (7 : Int32)) 7 rfl (by omega), zst_at (i := (11 : Int32)) 11 rfl (by omega)]
      rfl) n 0 (by omega) (by omega)
  rw [zfl_0] at key
  exact key
theorem zanw_ne {M : ZMem} {k : Nat} (h : k ≠ 78) : zanw M k = M k := by
  unfold zanw
  rw [wrn h, wrn h, wrn h, zfl_ne h]
theorem zanw_ir (M : ZMem) : IR (zanw M) zr0 := fun j hj => by
  unfold zanw
  by_cases h11 : j = 11
  · subst h11
    rw [wre]; rfl
  · rw [wrj h11]
    by_cases h7 : j = 7
    · subst h7
      rw [wre]; rfl
    · rw [wrj h7]
      by_cases h5 : j = 5
      · subst h5
        rw [wre]; rfl
      · rw [wrj h5, zfl_at hj, rI_ne h11]
        unfold zr0
        rw [if_neg (by omega)]
        rfl
def zcpL (M : ZMem) (i : Nat) : ZMem := fun k p => if (k = 82 ∨ k = 83) ∧ p < i then M k (70 + p) else M k p
theorem zcpL_0 (M : ZMem) : zcpL M 0 = M := by
  funext k p
  unfold zcpL
  rw [if_neg (by omega)]
theorem zcpL_ne {M : ZMem} {i k : Nat} (h : k ≠ 82) (h3 : k ≠ 83) : zcpL M i k = M k := by
  funext p
  unfold zcpL
  rw [if_neg (fun z => by rcases z.1 with z | z; exact h z; exact h3 z)]
theorem zcpL_s (M : ZMem) (i : Nat) : zwr (zwr (zcpL M i) 82 i (M 82 (70 + i))) 83 i (M 83 (70 + i)) = zcpL M (i + 1) := by
  funext k p
  rw [zwr_get, zwr_get]
  unfold zcpL
  by_cases h3 : k = 83
  · subst h3
    by_cases h2 : p = i
    · subst h2
      rw [if_pos ⟨rfl, rfl⟩, if_pos ⟨Or.inr rfl, by omega⟩]
    · rw [if_neg (fun z => h2 z.2), if_neg (by omega)]
      by_cases hp : p < i
      · rw [if_pos ⟨Or.inr rfl, hp⟩, if_pos ⟨Or.inr rfl, by omega⟩]
      · rw [if_neg (fun z => hp z.2), if_neg (fun z => absurd z.2 (by omega))]
  · rw [if_neg (fun z => h3 z.1)]
    by_cases h : k = 82
    · subst h
      by_cases h2 : p = i
      · subst h2
        rw [if_pos ⟨rfl, rfl⟩, if_pos ⟨Or.inl rfl, by omega⟩]
      · rw [if_neg (fun z => h2 z.2)]
        by_cases hp : p < i
        · rw [if_pos ⟨Or.inl rfl, hp⟩, if_pos ⟨Or.inl rfl, by omega⟩]
        · rw [if_neg (fun z => hp z.2), if_neg (fun z => absurd z.2 (by omega))]
    · rw [if_neg (fun z => h z.1), if_neg (fun z => by rcases z.1 with z | z; exact h z; exact h3 z), if_neg (fun z => by rcases z.1 with z | z; exact h z; exact h3 z)]
theorem zcpL_hi {M : ZMem} {i k p : Nat} (h : i ≤ p) : zcpL M i k p = M k p := if_neg (by omega)
theorem zcpL_lo {M : ZMem} {i k p : Nat} (hk : k = 82 ∨ k = 83) (h : p < i) : zcpL M i k p = M k (70 + p) := if_pos ⟨hk, h⟩
theorem text_152 {M : ZMem} {n : Nat} (K : ZMem → Option (Int32 × ZMem)) (hn : 73 < n) : zf_X10_text_L152 K n 0 M = K (zcpL M 70) := by
  have key := zloop (fun k i (S : ZMem) => zf_X10_text_L152 K k (nI i) S) (zcpL M) (K (zcpL M 70)) 70 (fun k i hi => by
      show zf_X10_text_L152 K (k + 1) (nI i) _ = zf_X10_text_L152 K k (nI (i + 1)) _
      have e2 : ∀ x, zwr (zcpL M i) 82 i x 83 (70 + i) = M 83 (70 + i) := fun x => by rw [wrn (by omega)]; exact zcpL_hi (by omega)
      rw [zf_X10_text_L152, show (70 : Int32) = nI 70 from rfl, zi_le (by omega) (by omega), if_neg (by omega), nI_add, zrd_at (70 + i) rfl (by omega), zcpL_hi (by omega), zst_at i rfl (by omega), zrd_at (70 + i) rfl (by omega), e2, zst_at i rfl (by omega), zcpL_s, nI_1]) (fun k => by
      show zf_X10_text_L152 K (k + 1) (nI 70) _ = _
      rw [zf_X10_text_L152, show (70 : Int32) = nI 70 from rfl, zi_le (by omega) (by omega), if_pos (by omega)]) n 0 (by omega) (by omega)
  rw [zcpL_0] at key
  exact key
def zcpN (M : ZMem) (i : Nat) : ZMem := fun k p => if k = 84 ∧ p < i then M 84 (560 + p) else M k p
theorem zcpN_0 (M : ZMem) : zcpN M 0 = M := by
  funext k p
  unfold zcpN
  rw [if_neg (by omega)]
theorem zcpN_ne {M : ZMem} {i k : Nat} (h : k ≠ 84) : zcpN M i k = M k := by
  funext p
  unfold zcpN
  rw [if_neg (fun z => h z.1)]
theorem zcpN_s (M : ZMem) (i : Nat) : zwr (zcpN M i) 84 i (M 84 (560 + i)) = zcpN M (i + 1) := by
  funext k p
  rw [zwr_get]
  unfold zcpN
  by_cases h : k = 84
  · subst h
    by_cases h2 : p = i
    · subst h2
      rw [if_pos ⟨rfl, rfl⟩, if_pos ⟨rfl, by omega⟩]
    · rw [if_neg (fun z => h2 z.2)]
      by_cases h3 : p < i
      · rw [if_pos ⟨rfl, h3⟩, if_pos ⟨rfl, by omega⟩]
      · rw [if_neg (fun z => h3 z.2), if_neg (fun z => absurd z.2 (by omega))]
  · rw [if_neg (fun z => h z.1), if_neg (fun z => h z.1), if_neg (fun z => h z.1)]
theorem zcpN_hi {M : ZMem} {i p : Nat} (h : i ≤ p) : zcpN M i 84 p = M 84 p := if_neg (by omega)
theorem zcpN_lo {M : ZMem} {i p : Nat} (h : p < i) : zcpN M i 84 p = M 84 (560 + p) := if_pos ⟨rfl, h⟩
theorem text_196 {M : ZMem} {n : Nat} (K : ZMem → Option (Int32 × ZMem)) (hn : 560 < n) : zf_X10_text_L196 K n 0 M = K (zcpN M 560) := by
  have key := zloop (fun k i (S : ZMem) => zf_X10_text_L196 K k (nI i) S) (zcpN M) (K (zcpN M 560)) 560 (fun k i hi => by
      show zf_X10_text_L196 K (k + 1) (nI i) _ = zf_X10_text_L196 K k (nI (i + 1)) _
      rw [zf_X10_text_L196, show (560 : Int32) = nI 560 from rfl, zi_le (by omega) (by omega), if_neg (by omega), nI_add, zrd_at (560 + i) rfl (by omega), zcpN_hi (by omega), zst_at i rfl (by omega), zcpN_s, nI_1]) (fun k => by
      show zf_X10_text_L196 K (k + 1) (nI 560) _ = _
      rw [zf_X10_text_L196, show (560 : Int32) = nI 560 from rfl, zi_le (by omega) (by omega), if_pos (by omega)]) n 0 (by omega) (by omega)
  rw [zcpN_0] at key
  exact key
def XT10 (M : ZMem) (r : ZRow) (u : Nat) (U : Nat → ZRow) (T : ZT) (L : ZL) (c : Option (Int32 × ZMem)) : Except Nat (ZRow × ZL × Nat) → Prop
  | .ok z => WR z.1 → LX z.2.1 → z.2.1.1 ≤ 66 → C10 M c (nI (z.1 0)) (fun M1 => IM M1 (zrT z.1) 0 U (0, T.2) z.2.1)
  | .error e => C10 M c (-4 - nI e) (fun M1 => IM M1 r u U (0, T.2) L)
theorem text10 {M : ZMem} {u n : Nat} {r : ZRow} {U : Nat → ZRow} {T : ZT} {L : ZL} (hM : IM M r u U T L) (hT : TT T) (hLL : LL L) (hn : 803 < n) : XT10 M r u U T L (zf_X10_text n M) (zread T 80 (zrun T zbl 0) zr0 zL0 0 0) := by
  have hl := hT.1
  obtain ⟨hI, hU, hC, hLC⟩ := hM
  have hq := zrun_le (T := T) (f := zbl) (Nat.zero_le T.1)
  unfold zf_X10_text
  simp only [zput_at]
  rw [text_35 _ (by omega)]
  generalize hA : zwr (zwr (zwr (zwr (zwr (zwr M 77 7 (M 77 6)) 77 6 0) 77 8 0) 77 12 (-1)) 77 17 0) 77 18 0 = A
  have a7 : A 77 7 = nI T.1 := by rw [← hA, wrj (by omega), wrj (by omega), wrj (by omega), wrj (by omega), wrj (by omega), wre]; exact hC.1
  have a6 : A 77 6 = 0 := by rw [← hA, wrj (by omega), wrj (by omega), wrj (by omega), wrj (by omega), wre]
  have a8 : A 77 8 = nI 0 := by rw [← hA, wrj (by omega), wrj (by omega), wrj (by omega), wre]; rfl
  have a12 : A 77 12 = -1 := by rw [← hA, wrj (by omega), wrj (by omega), wre]
  have a17 : A 77 17 = nI 0 := by rw [← hA, wrj (by omega), wre]; rfl
  have a18 : A 77 18 = nI 0 := by rw [← hA, wre]; rfl
  have aj : ∀ j, j ≠ 6 → j ≠ 7 → j ≠ 8 → j ≠ 12 → j ≠ 17 → j ≠ 18 → A 77 j = M 77 j := fun j q1 q2 q3 q4 q5 q6 => by rw [← hA, wrj q6, wrj q5, wrj q4, wrj q3, wrj q1, wrj q2]
  have ak : ∀ k, k ≠ 77 → A k = M k := fun k hk => by rw [← hA, wrn hk, wrn hk, wrn hk, wrn hk, wrn hk, wrn hk]
  clear hA
  rw [zb1_at (anew10 (by omega))]
  have bk : ∀ k, k ≠ 78 → k ≠ 79 → zanw (zcpA A 78 79 73) k = A k := fun k q1 q2 => by rw [zanw_ne q1, zcpA_ne q2]
  have b79 : ∀ j, j < 73 → zanw (zcpA A 78 79 73) 79 j = M 78 j := fun j hj => by rw [zanw_ne (by omega), zcpA_at hj, ak 78 (by omega)]
  have bi : IR (zanw (zcpA A 78 79 73)) zr0 := zanw_ir _
  generalize zanw (zcpA A 78 79 73) = B at *
  have bC : TC7 B T := ⟨by rw [bk 77 (by omega) (by omega)]; exact a7, fun k hk => by rw [bk 81 (by omega) (by omega), ak 81 (by omega)]; exact hC.2 k hk⟩
  obtain ⟨C, c1, c2, c3, c4, c5⟩ := next10 (n := n) (p := 0) hT bC (by rw [bk 77 (by omega) (by omega)]; exact a8) (Nat.zero_le _) (by rw [bk 77 (by omega) (by omega)]; exact a12) (by omega)
  have hB0 : BS10 B T zr0 zL0 0 0 := ⟨bC, bi, by rw [bk 77 (by omega) (by omega)]; exact a17, ⟨0, by rw [bk 77 (by omega) (by omega)]; exact a18, by omega, fun _ _ => rfl⟩, fun k hk => absurd hk (Nat.not_lt_zero _)⟩
  have hR : RB10 C T 0 zr0 zL0 0 := ⟨hB0.mv c4 c5, by
    rcases c3 with c3 | c3
    · have := c3.1.2.1; omega
    · exact c3.2, c2, Nat.zero_le _⟩
  rw [zb1_at c1]
  have g := reads10 (n := n) hT (by omega) (fun M62 => (if (M62 77 12) = (-1 : Int32) then zb1 (zf_X10_firstOrder n M62) (fun v63 => zst M62 78 73 (10 : Int32) v63 (fun M64 => zput M64 77 16 (M64 77 17) (fun M65 => (zf_X10_text_L152 (fun M73 => (zf_X10_text_L196 (fun M79 => zput M79 77 4 (0 : Int32) (fun M80 => zrd M80 78 73 (0 : Int32) (fun v81 => some (v81, M80)))) n (0 : Int32) M73)) n (0 : Int32) M65)))) else (zf_X10_text_L99 (fun M87 => some (((-4 : Int32) - (M87 77 12)), M87)) n (0 : Int32) M62))) 80 n 0 zr0 zL0 0 0 C rfl (by omega) hR ⟨hq, by show 4 * 0 + 2 * 0 ≤ _; omega, Nat.le_refl _⟩ zr0_wr (fun k hk => absurd hk (Nat.not_lt_zero _)) (by omega)
  simp only [zput_at] at g
  revert g
  cases zread T 80 (zrun T zbl 0) zr0 zL0 0 0 with
  | error e =>
    rintro ⟨D, d1, d2, d3⟩
    have dk : ∀ k, k ≠ 77 → k ≠ 78 → k ≠ 79 → k ≠ 82 → k ≠ 83 → k ≠ 84 → D k = M k := fun k q1 q2 q3 q4 q5 q6 => by rw [d3.1 k q1 q2 q4 q5 q6, c4 k q1, bk k q2 q3, ak k q1]
    have d79 : ∀ j, j < 73 → D 79 j = M 78 j := fun j hj => by rw [d3.1 79 (by omega) (by omega) (by omega) (by omega) (by omega), c4 79 (by omega)]; exact b79 j hj
    have dj : ∀ j, (j < 6 ∨ j = 16) → D 77 j = M 77 j := fun j hj => by rw [d3.2.1 j (by omega), c5 j (by omega), bk 77 (by omega) (by omega), aj j (by omega) (by omega) (by omega) (by omega) (by omega) (by omega)]
    have d6 : D 77 6 = 0 := by rw [d3.2.1 6 (by omega), c5 6 (by omega), bk 77 (by omega) (by omega)]; exact a6
    have d82 : ∀ j, j < 70 → D 82 j = M 82 j ∧ D 83 j = M 83 j := fun j hj => ⟨by rw [(d3.2.2.1 j hj).1, c4 82 (by omega), bk 82 (by omega) (by omega), ak 82 (by omega)], by rw [(d3.2.2.1 j hj).2, c4 83 (by omega), bk 83 (by omega) (by omega), ak 83 (by omega)]⟩
    have d84 : ∀ j, j < 560 → D 84 j = M 84 j := fun j hj => by rw [d3.2.2.2 j hj, c4 84 (by omega), bk 84 (by omega) (by omega), ak 84 (by omega)]
    refine ⟨zcpA D 79 78 73, ?_, ⟨?_, ?_, ?_, ?_⟩, fun k hk => ?_⟩
    · refine d1.trans ?_
      show (if D 77 12 = -1 then _ else _) = _
      rw [if_neg d2.ne, text_99 _ (by omega), zcpA_ne (by omega), d2.1]
    · intro j hj
      rw [zcpA_at hj, d79 j hj]
      exact hI j hj
    · exact hU.congr (by rw [zcpA_ne (by omega), dj 4 (by omega)]) (by rw [zcpA_ne (by omega), dk 80 (by omega) (by omega) (by omega) (by omega) (by omega) (by omega)])
    · exact ⟨by rw [zcpA_ne (by omega)]; exact d6, fun k hk => absurd hk (Nat.not_lt_zero _)⟩
    · obtain ⟨l1, l2⟩ := hLC
      refine ⟨by rw [zcpA_ne (by omega), dj 16 (by omega)]; exact l1, fun k hk => ?_⟩
      obtain ⟨y1, y2⟩ := hLL
      obtain ⟨z1, z2, z3⟩ := y2 k hk
      rw [zcpA_ne (by omega), zcpA_ne (by omega), zcpA_ne (by omega), (d82 k (by omega)).1, (d82 k (by omega)).2]
      obtain ⟨w1, w2, w3⟩ := l2 k hk
      exact ⟨w1, w2, fun j hj => by rw [d84 _ (by omega)]; exact w3 j hj⟩
    · rw [zcpA_ne (by omega)]
      exact dk k (by omega) (by omega) (by omega) (by omega) (by omega) (by omega)
  | ok z =>
    obtain ⟨r', L', w'⟩ := z
    rintro ⟨D, p, mk, d1, d2', d3⟩ hW' hX' h66'
    have hW : WR r' := hW'
    have hX : LX L' := hX'
    have h66 : L'.1 ≤ 66 := h66'
    have d2 : RB10 D T p r' L' mk := d2'
    have hb := hW.1.b
    have dk : ∀ k, k ≠ 77 → k ≠ 78 → k ≠ 79 → k ≠ 82 → k ≠ 83 → k ≠ 84 → D k = M k := fun k q1 q2 q3 q4 q5 q6 => by rw [d3.1 k q1 q2 q4 q5 q6, c4 k q1, bk k q2 q3, ak k q1]
    have d6 : D 77 6 = 0 := by rw [d3.2.1 6 (by omega), c5 6 (by omega), bk 77 (by omega) (by omega)]; exact a6
    have hS := d2.1.2.2.2.2
    have hI2 : IR (zwr D 78 10 (nI (zfo (r' 1)))) (zrT r') := d2.1.2.1.wr (by omega)
    have e17 : zwr D 78 10 (nI (zfo (r' 1))) 77 17 = nI L'.1 := by rw [wrn (by omega)]; exact d2.1.2.2.1
    have ek : ∀ k, k ≠ 78 → k ≠ 77 → zwr (zwr D 78 10 (nI (zfo (r' 1)))) 77 16 (nI L'.1) k = D k := fun k q1 q2 => by rw [wrn q2, wrn q1]
    have e78 : zwr (zwr D 78 10 (nI (zfo (r' 1)))) 77 16 (nI L'.1) 78 = zwr D 78 10 (nI (zfo (r' 1))) 78 := wrn (by omega)
    have e16 : zwr (zwr D 78 10 (nI (zfo (r' 1)))) 77 16 (nI L'.1) 77 16 = nI L'.1 := wre
    have e6 : zwr (zwr D 78 10 (nI (zfo (r' 1)))) 77 16 (nI L'.1) 77 6 = 0 := by rw [wrj (by omega), wrn (by omega)]; exact d6
    generalize hE : zwr (zwr D 78 10 (nI (zfo (r' 1)))) 77 16 (nI L'.1) = E at *
    have r0 : zwr (zcpN (zcpL E 70) 560) 77 4 0 78 0 = nI (r' 0) := by
      rw [wrn (by omega), zcpN_ne (by omega), zcpL_ne (by omega) (by omega), e78, hI2 0 (by omega), rI_ne (by omega)]
      show nI (zat r' 10 _ 0) = _
      rw [zat_ne (by omega)]
    refine ⟨zwr (zcpN (zcpL E 70) 560) 77 4 0, ?_, ⟨?_, ?_, ?_, ?_⟩, fun k hk => ?_⟩
    · refine d1.trans ?_
      show (if D 77 12 = -1 then _ else _) = _
      rw [if_pos d2.2.1, zb1_at (fo10 (d2.row (by omega) (by omega)) (by omega) (by omega)), zst_at (i := (10 : Int32)) 10 rfl (by omega), e17, hE, text_152 _ (by omega), text_196 _ (by omega), zrd_at (i := (0 : Int32)) 0 rfl (by omega), r0]
    · exact hI2.congr (by rw [wrn (by omega), zcpN_ne (by omega), zcpL_ne (by omega) (by omega), e78])
    · exact ⟨by rw [wre]; rfl, by omega, fun k hk => absurd hk (Nat.not_lt_zero _)⟩
    · exact ⟨by rw [wrj (by omega), zcpN_ne (by omega), zcpL_ne (by omega) (by omega)]; exact e6, fun k hk => absurd hk (Nat.not_lt_zero _)⟩
    · refine ⟨by rw [wrj (by omega), zcpN_ne (by omega), zcpL_ne (by omega) (by omega)]; exact e16, fun k hk => ?_⟩
      have hk2 : k < L'.1 := hk
      obtain ⟨w1, w2, w3⟩ := hS k hk2
      obtain ⟨z1, z2, z3⟩ := hX k hk2
      rw [wrn (by omega), wrn (show (83 : Nat) ≠ 77 by omega), wrn (show (84 : Nat) ≠ 77 by omega), zcpN_ne (by omega), zcpN_ne (show (83 : Nat) ≠ 84 by omega), zcpL_lo (Or.inl rfl) (by omega), zcpL_lo (Or.inr rfl) (by omega), ek 82 (by omega) (by omega), ek 83 (by omega) (by omega)]
      refine ⟨w1, w2, fun j hj' => ?_⟩
      have hj : j < L'.2.2.1 k := hj'
      rw [zcpN_lo (by omega), zcpL_ne (by omega) (by omega), ek 84 (by omega) (by omega), show 560 + (8 * k + j) = 8 * (70 + k) + j by omega]
      exact w3 j hj
    · rw [wrn (by omega), zcpN_ne (by omega), zcpL_ne (by omega) (by omega), ek k (by omega) (by omega)]
      exact dk k (by omega) (by omega) (by omega) (by omega) (by omega) (by omega)
theorem op_text {n : Nat} (hn : 2147483648 < n) {M : ZMem} (hI : INV M) : OPW (zf_X9_text n) (zf_X10_text n) M := by
  obtain ⟨t, nx, r, u, U, T, L, hS, hC, hM⟩ := hI
  have g9 := text9 (n := n) hC hS.2.2.1 hn
  have g10 : ∀ M1, IM M1 r u U T L → XT10 M1 r u U T L (zf_X10_text n M1) (zread T 80 (zrun T zbl 0) zr0 zL0 0 0) := fun M1 h => text10 h hS.2.2.1 hS.2.2.2 (by omega)
  revert g9 g10
  cases zread T 80 (zrun T zbl 0) zr0 zL0 0 0 with
  | error e =>
    intro g9 g10
    exact OPW.of (t := t) (nx := nx) hM ⟨hS.1, hS.2.1, ⟨Nat.zero_le _, fun k hk => absurd hk (Nat.not_lt_zero _)⟩, hS.2.2.2⟩ g9.1 (fun M1 h => g10 M1 h)
  | ok z =>
    intro g9 g10
    obtain ⟨b1, b2, b3, b4⟩ := g9
    exact OPW.of (t := t) (nx := nx) hM ⟨zrT_gd b2, fun k hk => absurd hk (Nat.not_lt_zero _), ⟨Nat.zero_le _, fun k hk => absurd hk (Nat.not_lt_zero _)⟩, ⟨by omega, b3⟩⟩ b1 (fun M1 h => g10 M1 h b2 b3 b4)
