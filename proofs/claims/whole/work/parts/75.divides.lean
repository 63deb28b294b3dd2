/-! LAYER 2: the reference parts its members -/
/-- the reference's row of parts -/
def zpI (s : Nat) (f : Nat → Nat) (m j : Nat) : Int32 := if j < m ∧ s.testBit j = true then nI (f j) else -nI 1
def SPt (M : ZMem) (s : Nat) (f : Nat → Nat) (m : Nat) : Prop := ∀ j, j < 10 → M 85 j = zpI s f m j
/-- the one before i that is in, or none -/
def zback (s : Nat) : Nat → Int32
  | 0 => -nI 1
  | i + 1 => if s.testBit i then nI i else zback s i
def zstp : Nat → Nat
  | 0 => 0
  | d + 1 => 11 * (zstp d + 1)
theorem zallF_range (f : Nat → Bool) : ∀ d i, zallF f d i = (List.range' i d).all f
  | 0, i => rfl
  | d + 1, i => by rw [zallF_s, zallF_range f d (i + 1), List.range'_succ, List.all_cons]
def zfp (q : ZRow) (s : Nat) (f : Nat → Nat) (i k j : Nat) : Bool := !(s.testBit j && (f j == k) && (q (63 + i)).testBit j)
theorem zfree_all {q : ZRow} {s : Nat} {f : Nat → Nat} {i k : Nat} : zfree q s f i k = zallF (zfp q s f i k) i 0 := by
  rw [zallF_range, ← List.range_eq_range']
  rfl
theorem isFree10 {q : ZRow} {s i k n : Nat} {f : Nat → Nat} {M : ZMem} (hs : s < 1024) (hi : i < 10) (hfi : q (63 + i) < 1024) (h63 : M 78 (63 + i) = nI (q (63 + i))) (hk : k < 2147483648) (hp : ∀ j, j < i → s.testBit j = true → M 85 j = nI (f j) ∧ f j < 2147483648) (hpi : M 85 i = nI k) (hn : 10 < n) : zf_X10_isFree n (nI i) (nI s) M = some (zB (zfree q s f i k)) := by
  rw [zfree_all]
  have key : ∀ d j m, j + d = i → d < m → zf_X10_isFree_L2 (nI i) (nI s) M (some (nI 1)) m (nI j) = some (zB (zallF (zfp q s f i k) d j)) := by
    intro d
    induction d with
    | zero =>
      intro j m hj hm
      obtain ⟨m, rfl⟩ : ∃ x, m = x + 1 := ⟨m - 1, by omega⟩
      rw [zf_X10_isFree_L2, zi_le (by omega) (by omega), if_pos (by omega)]
      rfl
    | succ d ih =>
      intro j m hj hm
      obtain ⟨m, rfl⟩ : ∃ x, m = x + 1 := ⟨m - 1, by omega⟩
      have e := ih (j + 1) m (by omega) (by omega)
      rw [zallF_s]
      by_cases h1 : s.testBit j = true
      · obtain ⟨a1, a2⟩ := hp j (by omega) h1
        by_cases h2 : f j = k
        · by_cases h3 : (q (63 + i)).testBit j = true
          · have e2 : zfp q s f i k j = false := by simp [zfp, h1, h2, h3]
            rw [e2, Bool.false_and]
            simp (disch := (first | assumption | omega)) only [zf_X10_isFree_L2, zf_X10_isFree_j48, zlp, ↓ev_ifB, ↓ev_iflt, ↓ev_ifle, ↓ev_ifeq, ↓ifp, ↓ifn, ↓ev_b1, ↓ev_b2, ↓ev_put, ↓ev_z0, ↓ev_z1, ↓ev_zB, ↓ev_has9, ↓ev_has10, ↓ev_shl, ↓ev_bit, ↓ev_in, ↓ev_inG, ↓ev_rd, ↓ev_st, decide_eq_true_eq, nI_add, ev_sub, pk_mul, nI_or, nI_xor, zBt, zBf, if_true, if_false, eq_self, Bool.false_eq_true, a1, hpi, h63]
          · have e2 : zfp q s f i k j = true := by simp [zfp, h3]
            rw [e2, Bool.true_and, ← e]
            simp (disch := (first | assumption | omega)) only [zf_X10_isFree_L2, zf_X10_isFree_j48, zlp, ↓ev_ifB, ↓ev_iflt, ↓ev_ifle, ↓ev_ifeq, ↓ifp, ↓ifn, ↓ev_b1, ↓ev_b2, ↓ev_put, ↓ev_z0, ↓ev_z1, ↓ev_zB, ↓ev_has9, ↓ev_has10, ↓ev_shl, ↓ev_bit, ↓ev_in, ↓ev_inG, ↓ev_rd, ↓ev_st, decide_eq_true_eq, nI_add, ev_sub, pk_mul, nI_or, nI_xor, zBt, zBf, if_true, if_false, eq_self, Bool.false_eq_true, a1, hpi, h63]
        · have e2 : zfp q s f i k j = true := by simp [zfp, h2]
          rw [e2, Bool.true_and, ← e]
          simp (disch := (first | assumption | omega)) only [zf_X10_isFree_L2, zf_X10_isFree_j48, zlp, ↓ev_ifB, ↓ev_iflt, ↓ev_ifle, ↓ev_ifeq, ↓ifp, ↓ifn, ↓ev_b1, ↓ev_b2, ↓ev_put, ↓ev_z0, ↓ev_z1, ↓ev_zB, ↓ev_has9, ↓ev_has10, ↓ev_shl, ↓ev_bit, ↓ev_in, ↓ev_inG, ↓ev_rd, ↓ev_st, decide_eq_true_eq, nI_add, ev_sub, pk_mul, nI_or, nI_xor, zBt, zBf, if_true, if_false, eq_self, Bool.false_eq_true, a1, hpi, h63]
      · have e2 : zfp q s f i k j = true := by simp [zfp, h1]
        rw [e2, Bool.true_and, ← e]
        simp (disch := (first | assumption | omega)) only [zf_X10_isFree_L2, zf_X10_isFree_j48, zlp, ↓ev_ifB, ↓ev_iflt, ↓ev_ifle, ↓ev_ifeq, ↓ifp, ↓ifn, ↓ev_b1, ↓ev_b2, ↓ev_put, ↓ev_z0, ↓ev_z1, ↓ev_zB, ↓ev_has9, ↓ev_has10, ↓ev_shl, ↓ev_bit, ↓ev_in, ↓ev_inG, ↓ev_rd, ↓ev_st, decide_eq_true_eq, nI_add, ev_sub, pk_mul, nI_or, nI_xor, zBt, zBf, if_true, if_false, eq_self, Bool.false_eq_true]
  exact key i 0 n (by omega) (by omega)
theorem back10 {s : Nat} (hs : s < 1024) (K : Int32 → Option (Int32 × ZMem)) : ∀ i m, i ≤ 10 → i < m → zf_X10_fits_L81 (nI s) K m (nI i + -1) = K (zback s i)
  | 0, m, hi, hm => by
    obtain ⟨m, rfl⟩ : ∃ x, m = x + 1 := ⟨m - 1, by omega⟩
    rw [zf_X10_fits_L81, if_pos (by decide)]
    rfl
  | i + 1, m, hi, hm => by
    obtain ⟨m, rfl⟩ : ∃ x, m = x + 1 := ⟨m - 1, by omega⟩
    rw [pk_m1, zf_X10_fits_L81, if_neg (nI_pos (by omega)), zb1_at (has10 hs (by omega)), back10 hs K i m (by omega) (by omega)]
    have e : zback s (i + 1) = if s.testBit i = true then nI i else zback s i := rfl
    rw [e]
    cases s.testBit i <;> rfl
theorem nI_k1 : ∀ k : Nat, nI k - 1 + 1 = nI k
  | 0 => rfl
  | k + 1 => by rw [nI_pred, nI_1]
theorem zsr_s (q : ZRow) (s many d i : Nat) (f : Nat → Nat) : zsr q s many (d + 1) i f = if s.testBit i then zfirst (fun k => if zfree q s f i k then zsr q s many d (i + 1) (zupf f i k) else none) many 0 else zsr q s many d (i + 1) f := rfl
/-- the loop goes from one state to another in at most b steps -/
def Zgo (L : Nat → Int32 → ZMem → Option (Int32 × ZMem)) (b : Nat) (i : Int32) (M : ZMem) (i' : Int32) (M' : ZMem) : Prop := ∃ c, c ≤ b ∧ ∀ e, L (e + c) i M = L e i' M'
theorem zgo_refl (L : Nat → Int32 → ZMem → Option (Int32 × ZMem)) (i : Int32) (M : ZMem) : Zgo L 0 i M i M := ⟨0, Nat.le_refl _, fun _ => rfl⟩
theorem Zgo.trans {L : Nat → Int32 → ZMem → Option (Int32 × ZMem)} {a b : Nat} {i j k : Int32} {A B C : ZMem} (h : Zgo L a i A j B) (g : Zgo L b j B k C) : Zgo L (a + b) i A k C := by
  obtain ⟨c, h1, h2⟩ := h
  obtain ⟨d, g1, g2⟩ := g
  exact ⟨c + d, by omega, fun e => by rw [show e + (c + d) = (e + d) + c by omega, h2, g2]⟩
theorem zgo_step {L : Nat → Int32 → ZMem → Option (Int32 × ZMem)} {i j : Int32} {A B : ZMem} (h : ∀ e, L (e + 1) i A = L e j B) : Zgo L 1 i A j B := ⟨1, Nat.le_refl _, h⟩
theorem Zgo.mono {L : Nat → Int32 → ZMem → Option (Int32 × ZMem)} {a b : Nat} {i j : Int32} {A B : ZMem} (h : Zgo L a i A j B) (hb : a ≤ b) : Zgo L b i A j B := by
  obtain ⟨c, h1, h2⟩ := h
  exact ⟨c, by omega, h2⟩
theorem zpI_in {s : Nat} {f : Nat → Nat} {i k j : Nat} (h : s.testBit i = true) : zpI s (zupf f i k) (i + 1) j = if j = i then nI k else zpI s f i j := by
  unfold zpI
  by_cases e : j = i
  · subst e; rw [if_pos rfl, if_pos ⟨by omega, h⟩, zupf_eq]
  · rw [if_neg e, zupf_ne e]
    by_cases g : j < i ∧ s.testBit j = true
    · rw [if_pos g, if_pos ⟨by omega, g.2⟩]
    · rw [if_neg g, if_neg (fun z => g ⟨by omega, z.2⟩)]
theorem zpI_out {s : Nat} {f : Nat → Nat} {i j : Nat} (h : s.testBit i = false) : zpI s f (i + 1) j = zpI s f i j := by
  unfold zpI
  by_cases g : j < i ∧ s.testBit j = true
  · rw [if_pos g, if_pos ⟨by omega, g.2⟩]
  · rw [if_neg g, if_neg (fun z => ?_)]
    by_cases e : j = i
    · rw [e, h] at z; exact absurd z.2 (by decide)
    · exact g ⟨by omega, z.2⟩
set_option maxHeartbeats 1000000 in
theorem level10 {q : ZRow} {s many n : Nat} (h0 : q 0 ≤ 10) (hs : s < 1024) (hf : ∀ j, j < 10 → q (63 + j) < 1024) (hm : many ≤ 10) (hn : 20 < n) (K : Int32 → ZMem → Option (Int32 × ZMem)) : ∀ (d i : Nat) (f : Nat → Nat) (M : ZMem), i + d = q 0 → M 78 0 = nI (q 0) → (∀ j, j < 10 → M 78 (63 + j) = nI (q (63 + j))) → SPt M s f i → (∀ j, j < i → s.testBit j = true → f j < many) →
    (zsr q s many d i f = none → Zgo (zf_X10_fits_L23 (nI s) (nI many) n K) (zstp d) (nI i) M (zback s i) M) ∧ (∀ g, zsr q s many d i f = some g → ∃ M', Zgo (zf_X10_fits_L23 (nI s) (nI many) n K) (zstp d) (nI i) M (nI (q 0)) M' ∧ Fr 85 85 M M' ∧ SPt M' s g (q 0)) := by
  intro d
  induction d with
  | zero =>
    intro i f M hi h78 h63 hP hlt
    refine ⟨(fun h => by cases h), fun g hg => ?_⟩
    cases hg
    have e : i = q 0 := by omega
    subst e
    exact ⟨M, zgo_refl _ _ _, Fr.refl _ _ _, hP⟩
  | succ d ih =>
    intro i f M hi h78 h63 hP hlt
    rw [zsr_s]
    by_cases hb : s.testBit i = true
    · rw [if_pos hb]
      have hi85 : M 85 i = -nI 1 := by rw [hP i (by omega)]; unfold zpI; rw [if_neg (by omega)]
      have hst0 : zwr M 85 i (nI 0 - 1) = M := zwr_same hi85
      have hfi := hf i (by omega)
      have h63i := h63 i (by omega)
      -- one step at the k-th try
      have inner : ∀ (c k : Nat), k + c = many →
          (zfirst (fun k => if zfree q s f i k then zsr q s many d (i + 1) (zupf f i k) else none) c k = none → Zgo (zf_X10_fits_L23 (nI s) (nI many) n K) (c * (zstp d + 1) + 1) (nI i) (zwr M 85 i (nI k - 1)) (zback s i) M) ∧ (∀ g, zfirst (fun k => if zfree q s f i k then zsr q s many d (i + 1) (zupf f i k) else none) c k = some g → ∃ M', Zgo (zf_X10_fits_L23 (nI s) (nI many) n K) (c * (zstp d + 1) + 1) (nI i) (zwr M 85 i (nI k - 1)) (nI (q 0)) M' ∧ Fr 85 85 M M' ∧ SPt M' s g (q 0)) := by
        intro c
        induction c with
        | zero =>
          intro k hk
          refine ⟨fun _ => ?_, fun g hg => by cases hg⟩
          refine (zgo_step (fun e => ?_)).mono (by omega)
          have e1 : zwr M 85 i (nI k - 1) 85 i = nI k - 1 := wre
          have e0 : zwr M 85 i (nI k - 1) 78 0 = nI (q 0) := by rw [wrn (by omega)]; exact h78
          have e2 : zwr M 85 i (nI k) 85 i = nI k := wre
          have e3 : zwr M 85 i (-1) = M := zwr_same hi85
          rw [zf_X10_fits_L23, if_neg (nI_pos (by omega)), zrd_at (i := (0 : Int32)) 0 rfl (by omega), e0, zi_le (by omega) (by omega), if_neg (by omega), zb1_at (has10 hs (by omega)), hb, if_neg (by decide), zrd_at i rfl (by omega), e1, nI_k1, zst_at i rfl (by omega), zwr_zwr, zrd_at i rfl (by omega), e2, zi_lt (by omega) (by omega), if_neg (by omega), zst_at i rfl (by omega), zwr_zwr, e3]
          exact back10 hs _ i n (by omega) (by omega)
        | succ c ihc =>
          intro k hk
          obtain ⟨n1, n2⟩ := ihc (k + 1) (by omega)
          have ek : nI (k + 1) - 1 = nI k := nI_pred k
          rw [ek] at n1 n2
          have hmul : (c + 1) * (zstp d + 1) = c * (zstp d + 1) + (zstp d + 1) := Nat.succ_mul _ _
          have e1 : zwr M 85 i (nI k - 1) 85 i = nI k - 1 := wre
          have e0 : zwr M 85 i (nI k - 1) 78 0 = nI (q 0) := by rw [wrn (by omega)]; exact h78
          have e2 : zwr M 85 i (nI k) 85 i = nI k := wre
          have hfree := isFree10 (q := q) (s := s) (i := i) (k := k) (n := n) (f := f) (M := zwr M 85 i (nI k)) hs (by omega) hfi (by rw [wrn (by omega)]; exact h63i) (by omega) (fun j hj hsj => ⟨by rw [wrj (by omega), hP j (by omega)]; unfold zpI; rw [if_pos ⟨hj, hsj⟩], by have := hlt j hj hsj; omega⟩) e2 (by omega)
          have hstep : ∀ e, zf_X10_fits_L23 (nI s) (nI many) n K (e + 1) (nI i) (zwr M 85 i (nI k - 1)) = if zfree q s f i k = true then zf_X10_fits_L23 (nI s) (nI many) n K e (nI (i + 1)) (zwr M 85 i (nI k)) else zf_X10_fits_L23 (nI s) (nI many) n K e (nI i) (zwr M 85 i (nI k)) := fun e => by
            rw [zf_X10_fits_L23, if_neg (nI_pos (by omega)), zrd_at (i := (0 : Int32)) 0 rfl (by omega), e0, zi_le (by omega) (by omega), if_neg (by omega), zb1_at (has10 hs (by omega)), hb, if_neg (by decide), zrd_at i rfl (by omega), e1, nI_k1, zst_at i rfl (by omega), zwr_zwr, zrd_at i rfl (by omega), e2, zi_lt (by omega) (by omega), if_pos (by omega), zb1_at hfree, nI_1]
            cases zfree q s f i k <;> rfl
          rw [zfirst_s]
          by_cases hfr : zfree q s f i k = true
          · simp only [hfr, if_true] at hstep ⊢
            have hP' : SPt (zwr M 85 i (nI k)) s (zupf f i k) (i + 1) := fun j hj => by
              rw [zpI_in hb]
              by_cases e : j = i
              · subst e; rw [if_pos rfl, wre]
              · rw [if_neg e, wrj e]; exact hP j hj
            obtain ⟨i1, i2⟩ := ih (i + 1) (zupf f i k) (zwr M 85 i (nI k)) (by omega) (by rw [wrn (by omega)]; exact h78) (fun j hj => by rw [wrn (by omega)]; exact h63 j hj) hP' (fun j hj hsj => by
              by_cases e : j = i
              · subst e; rw [zupf_eq]; omega
              · rw [zupf_ne e]; exact hlt j (by omega) hsj)
            cases hz2 : zsr q s many d (i + 1) (zupf f i k) with
            | none =>
              have e3 := i1 hz2
              have e4 : zback s (i + 1) = nI i := by unfold zback; rw [if_pos hb]
              rw [e4] at e3
              refine ⟨fun h => ?_, fun g hg => ?_⟩
              · exact (((zgo_step hstep).trans e3).trans (n1 h)).mono (by omega)
              · obtain ⟨M', g1, g2, g3⟩ := n2 g hg
                exact ⟨M', (((zgo_step hstep).trans e3).trans g1).mono (by omega), g2, g3⟩
            | some g =>
              refine ⟨(fun h => by cases h), fun g' hg' => ?_⟩
              cases hg'
              obtain ⟨M', g1, g2, g3⟩ := i2 g hz2
              exact ⟨M', ((zgo_step hstep).trans g1).mono (by omega), (Fr.wr M i _ (by omega) (by omega)).trans g2, g3⟩
          · simp only [hfr, if_false] at hstep ⊢
            refine ⟨fun h => ?_, fun g hg => ?_⟩
            · exact ((zgo_step hstep).trans (n1 h)).mono (by omega)
            · obtain ⟨M', g1, g2, g3⟩ := n2 g hg
              exact ⟨M', ((zgo_step hstep).trans g1).mono (by omega), g2, g3⟩
      have hi0 := inner many 0 (by omega)
      rw [hst0] at hi0
      have hle : many * (zstp d + 1) + 1 ≤ zstp (d + 1) := by
        show _ ≤ 11 * (zstp d + 1)
        have : many * (zstp d + 1) ≤ 10 * (zstp d + 1) := Nat.mul_le_mul_right _ hm
        omega
      refine ⟨fun h => (hi0.1 h).mono hle, fun g hg => ?_⟩
      obtain ⟨M', g1, g2, g3⟩ := hi0.2 g hg
      exact ⟨M', g1.mono hle, g2, g3⟩
    · rw [if_neg hb]
      have hb' : s.testBit i = false := by simpa using hb
      have hstep : ∀ e, zf_X10_fits_L23 (nI s) (nI many) n K (e + 1) (nI i) M = zf_X10_fits_L23 (nI s) (nI many) n K e (nI (i + 1)) M := fun e => by
        rw [zf_X10_fits_L23, if_neg (nI_pos (by omega)), zrd_at (i := (0 : Int32)) 0 rfl (by omega), h78, zi_le (by omega) (by omega), if_neg (by omega), zb1_at (has10 hs (by omega)), hb', if_pos (show zB false = 0 from rfl), nI_1]
      obtain ⟨i1, i2⟩ := ih (i + 1) f M (by omega) h78 h63 (fun j hj => by rw [zpI_out hb']; exact hP j hj) (fun j hj hsj => by
        by_cases e : j = i
        · rw [e, hb'] at hsj; cases hsj
        · exact hlt j (by omega) hsj)
      have e4 : zback s (i + 1) = zback s i := by
        show (if s.testBit i = true then nI i else zback s i) = _
        rw [if_neg hb]
      rw [e4] at i1
      have hle : 1 + zstp d ≤ zstp (d + 1) := by
        show _ ≤ 11 * (zstp d + 1)
        omega
      refine ⟨fun h => ((zgo_step hstep).trans (i1 h)).mono hle, fun g hg => ?_⟩
      obtain ⟨M', g1, g2, g3⟩ := i2 g hg
      exact ⟨M', ((zgo_step hstep).trans g1).mono hle, g2, g3⟩
