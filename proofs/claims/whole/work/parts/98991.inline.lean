/-! LAYER 2: the reference within a line -/
def KM (M : ZMem) (mk : Nat) : Prop := ∃ km, M 77 18 = nI km ∧ km < 32 ∧ ∀ j, j < 5 → km.testBit j = mk.testBit j
def LS10 (M : ZMem) (L : ZL) : Prop := ∀ k, k < L.1 → M 82 (70 + k) = nI (L.2.1 k) ∧ M 83 (70 + k) = nI (L.2.2.1 k) ∧ ∀ j, j < L.2.2.1 k → M 84 (8 * (70 + k) + j) = nI (L.2.2.2 k j)
def BS10 (M : ZMem) (T : ZT) (r : ZRow) (L : ZL) (m mk : Nat) : Prop := TC7 M T ∧ IR M r ∧ M 77 17 = nI m ∧ KM M mk ∧ LS10 M L
def QS10 (M : ZMem) (T : ZT) (p : Nat) (r : ZRow) (L : ZL) (mk : Nat) : Prop := BS10 M T r L (L.1 - 1) mk ∧ 0 < L.1 ∧ L.1 ≤ 70 ∧ (zglu T p ∧ M 77 12 = nI p ∨ ¬ zglu T p ∧ M 77 12 = -1 ∧ TKN M T (zrun T zbl p)) ∧ 0 < p ∧ p ≤ T.1 ∧ zan (T.2 (p - 1)) = true
def RB10 (M : ZMem) (T : ZT) (p : Nat) (r : ZRow) (L : ZL) (mk : Nat) : Prop := BS10 M T r L L.1 mk ∧ M 77 12 = -1 ∧ TKN M T (zrun T zbl p) ∧ p ≤ T.1
def EE (M : ZMem) (e : Nat) : Prop := M 77 12 = nI e ∧ e ≤ 400
def FR10 (M M' : ZMem) : Prop := (∀ k, k ≠ 77 → k ≠ 78 → k ≠ 82 → k ≠ 83 → k ≠ 84 → M' k = M k) ∧ (∀ j, (j < 8 ∨ j = 16) → M' 77 j = M 77 j) ∧ (∀ j, j < 70 → M' 82 j = M 82 j ∧ M' 83 j = M 83 j) ∧ ∀ j, j < 560 → M' 84 j = M 84 j
theorem fr10_refl (M : ZMem) : FR10 M M := ⟨fun _ _ _ _ _ _ => rfl, fun _ _ => rfl, fun _ _ => ⟨rfl, rfl⟩, fun _ _ => rfl⟩
theorem fr10_trans {A B C : ZMem} (h : FR10 A B) (g : FR10 B C) : FR10 A C := ⟨fun k a b c d e => (g.1 k a b c d e).trans (h.1 k a b c d e), fun j hj => (g.2.1 j hj).trans (h.2.1 j hj), fun j hj => ⟨(g.2.2.1 j hj).1.trans (h.2.2.1 j hj).1, (g.2.2.1 j hj).2.trans (h.2.2.1 j hj).2⟩, fun j hj => (g.2.2.2 j hj).trans (h.2.2.2 j hj)⟩
theorem fr10_77 {M M' : ZMem} (h : ∀ k, k ≠ 77 → M' k = M k) (g : ∀ j, (j < 8 ∨ 12 < j) → M' 77 j = M 77 j) : FR10 M M' := ⟨fun k a _ _ _ _ => h k a, fun j hj => g j (by omega), fun j _ => ⟨by rw [h 82 (by omega)], by rw [h 83 (by omega)]⟩, fun j _ => by rw [h 84 (by omega)]⟩
theorem fr10_w {M : ZMem} {j : Nat} {x : Int32} (hj : 8 ≤ j) (h16 : j ≠ 16) : FR10 M (zwr M 77 j x) := ⟨fun k a _ _ _ _ => wrn a, fun i hi => wrj (by omega), fun i _ => ⟨by rw [wrn (by omega)], by rw [wrn (by omega)]⟩, fun i _ => by rw [wrn (by omega)]⟩
theorem fr10_78 {M : ZMem} {j : Nat} {x : Int32} : FR10 M (zwr M 78 j x) := ⟨fun k _ a _ _ _ => wrn a, fun i hi => by rw [wrn (by omega)], fun i _ => ⟨by rw [wrn (by omega)], by rw [wrn (by omega)]⟩, fun i _ => by rw [wrn (by omega)]⟩
theorem IR.wr {M : ZMem} {r : ZRow} {p v : Nat} (hr : IR M r) (hp : p ≠ 11) : IR (zwr M 78 p (nI v)) (zat r p v) := fun j hj => by
  rw [zwr_get]
  by_cases h : j = p
  · subst h
    rw [if_pos ⟨rfl, rfl⟩, rI_ne hp, zat_eq]
  · rw [if_neg (fun z => h z.2), hr j hj]
    unfold rI
    rw [zat_ne h]
    by_cases h11 : j = 11
    · rw [if_pos h11, if_pos h11, zat_ne (fun z => hp z.symm)]
    · rw [if_neg h11, if_neg h11]
theorem BS10.r {M : ZMem} {T : ZT} {r : ZRow} {L : ZL} {m mk p v : Nat} (h : BS10 M T r L m mk) (hp : p ≠ 11) : BS10 (zwr M 78 p (nI v)) T (zat r p v) L m mk := by
  obtain ⟨h1, h2, h3, ⟨km, h4, h5, h6⟩, h7⟩ := h
  refine ⟨⟨by rw [wrn (by omega)]; exact h1.1, fun k hk => by rw [wrn (by omega)]; exact h1.2 k hk⟩, h2.wr hp, by rw [wrn (by omega)]; exact h3, ⟨km, by rw [wrn (by omega)]; exact h4, h5, h6⟩, fun k hk => ?_⟩
  rw [wrn (by omega), wrn (by omega), wrn (by omega)]
  exact h7 k hk
theorem BS10.mv {M M' : ZMem} {T : ZT} {r : ZRow} {L : ZL} {m mk : Nat} (h : BS10 M T r L m mk) (a : ∀ k, k ≠ 77 → M' k = M k) (g : ∀ j, (j < 8 ∨ 12 < j) → M' 77 j = M 77 j) : BS10 M' T r L m mk := by
  obtain ⟨h1, h2, h3, ⟨km, h4, h5, h6⟩, h7⟩ := h
  refine ⟨⟨by rw [g 7 (by omega)]; exact h1.1, fun k hk => by rw [a 81 (by omega)]; exact h1.2 k hk⟩, h2.congr (a 78 (by omega)), by rw [g 17 (by omega)]; exact h3, ⟨km, by rw [g 18 (by omega)]; exact h4, h5, h6⟩, fun k hk => ?_⟩
  rw [a 82 (by omega), a 83 (by omega), a 84 (by omega)]
  exact h7 k hk
theorem zB0 {α : Type} {b : Bool} (A B : α) : (if zB b = 0 then A else B) = if b = true then B else A := by cases b <;> rfl
theorem num10e {M : ZMem} {e n : Nat} (h : EE M e) (a b : Int32) : zf_X10_number n a b M = some (M 77 11, M) := by
  have h' : ¬ M 77 12 = -1 := fun z => by rw [h.1] at z; exact zne1 (by have := h.2; omega) z
  unfold zf_X10_number zf_X10_number_j36 zf_X10_number_j58
  rw [if_neg h', if_neg h']
theorem clo10e {M : ZMem} {e n : Nat} (h : EE M e) : zf_X10_closes n M = some M := by
  have h' : ¬ M 77 12 = -1 := fun z => by rw [h.1] at z; exact zne1 (by have := h.2; omega) z
  unfold zf_X10_closes zf_X10_closes_j33 zf_X10_closes_j55
  rw [if_neg h', if_neg h']
theorem EE.w {M : ZMem} {e k j : Nat} {x : Int32} (h : EE M e) (hk : k ≠ 77) : EE (zwr M k j x) e := ⟨by rw [wrn (Ne.symm hk)]; exact h.1, h.2⟩
theorem EE.ne {M : ZMem} {e : Nat} (h : EE M e) : ¬ M 77 12 = -1 := fun z => by rw [h.1] at z; exact zne1 (by have := h.2; omega) z
/-- a number that is kept -/
theorem keeps10 {M : ZMem} {T : ZT} {r : ZRow} {L : ZL} {mk v : Nat} (h : BS10 M T r L (L.1 - 1) mk) (h0 : 0 < L.1) (h70 : L.1 ≤ 70) (hL : LX L) (h8 : zcn L < 8) : ∃ M', zf_X10_keepsNumber (nI v) M = some M' ∧ BS10 M' T r (zadn L v) (L.1 - 1) mk ∧ FR10 M M' ∧ M' 77 = M 77 := by
  obtain ⟨h1, h2, h3, h4, h7⟩ := h
  obtain ⟨l1, l2, l3⟩ := h7 (L.1 - 1) (by omega)
  have hz : L.2.2.1 (L.1 - 1) < 8 := h8
  unfold zf_X10_keepsNumber
  have e83 : ∀ x, zwr M 84 (8 * (70 + (L.1 - 1)) + L.2.2.1 (L.1 - 1)) x 83 (70 + (L.1 - 1)) = nI (L.2.2.1 (L.1 - 1)) := fun x => by rw [wrn (by omega)]; exact l2
  rw [h3, show (70 : Int32) = nI 70 from rfl, show (8 : Int32) = nI 8 from rfl, nI_add, zrd_at (70 + (L.1 - 1)) rfl (by omega), l2, pk_mul, nI_add, zst_at (8 * (70 + (L.1 - 1)) + L.2.2.1 (L.1 - 1)) rfl (by omega), zrd_at (70 + (L.1 - 1)) rfl (by omega), e83, zst_at (70 + (L.1 - 1)) rfl (by omega), nI_1]
  refine ⟨_, rfl, ⟨⟨by rw [wrn (by omega), wrn (by omega)]; exact h1.1, fun k hk => by rw [wrn (by omega), wrn (by omega)]; exact h1.2 k hk⟩, h2.congr (by rw [wrn (by omega), wrn (by omega)]), by rw [wrn (by omega), wrn (by omega)]; exact h3, ?_, fun k hk => ?_⟩, ⟨fun k a b c d e => by rw [wrn d, wrn e], fun j hj => by rw [wrn (by omega), wrn (by omega)], fun j hj => ⟨by rw [wrn (by omega), wrn (by omega)], by rw [wrj (by omega), wrn (by omega)]⟩, fun j hj => by rw [wrn (by omega), wrj (by omega)]⟩, by rw [wrn (by omega), wrn (by omega)]⟩
  · obtain ⟨km, k1, k2, k3⟩ := h4
    exact ⟨km, by rw [wrn (by omega), wrn (by omega)]; exact k1, k2, k3⟩
  · have hk2 : k < L.1 := hk
    obtain ⟨a1, a2, a3⟩ := h7 k hk2
    obtain ⟨-, b2, -⟩ := hL k hk2
    rw [wrn (show (82 : Nat) ≠ 83 by omega), wrn (show (82 : Nat) ≠ 84 by omega), wrn (show (84 : Nat) ≠ 83 by omega)]
    show M 82 (70 + k) = nI (L.2.1 k) ∧ _ = nI (if k = L.1 - 1 then L.2.2.1 k + 1 else L.2.2.1 k) ∧ ∀ j, j < (if k = L.1 - 1 then L.2.2.1 k + 1 else L.2.2.1 k) → _ = nI (if k = L.1 - 1 ∧ j = L.2.2.1 k then v else L.2.2.2 k j)
    by_cases e : k = L.1 - 1
    · subst e
      simp only [eq_self, if_true, true_and]
      refine ⟨a1, wre, fun j hj => ?_⟩
      by_cases ej : j = L.2.2.1 (L.1 - 1)
      · rw [if_pos ej, ej, wre]
      · rw [if_neg ej, wrj (by omega)]
        exact a3 j (by omega)
    · simp only [if_neg e]
      refine ⟨a1, by rw [wrj (by omega), wrn (by omega)]; exact a2, fun j hj => ?_⟩
      rw [if_neg (fun z => e z.1), wrj (by omega)]
      exact a3 j hj
/-- behind a word or a number the next token is looked at -/
theorem look10 {M : ZMem} {T : ZT} {p n : Nat} {r : ZRow} {L : ZL} {mk : Nat} (hT : TT T) (h : BS10 M T r L (L.1 - 1) mk) (h0 : 0 < L.1) (h70 : L.1 ≤ 70) (h8 : M 77 8 = nI p) (h12 : M 77 12 = -1) (hp0 : 0 < p) (hp : p ≤ T.1) (ha : zan (T.2 (p - 1)) = true) (hn : 400 < n) : ∃ M', zf_X10_nextToken n M = some M' ∧ QS10 M' T p r L mk ∧ FR10 M M' := by
  obtain ⟨M', a1, a2, a3, a4, a5⟩ := next10 (n := n) hT h.1 h8 hp h12 hn
  refine ⟨M', a1, ⟨h.mv a4 a5, h0, h70, ?_, hp0, hp, ha⟩, fr10_77 a4 a5⟩
  rcases a3 with a3 | a3
  · exact Or.inl a3
  · exact Or.inr ⟨a3.1, a3.2, a2⟩
theorem zN_glu {T : ZT} {p lo hi : Nat} (hp : p ≤ T.1) (h : zglu T p) : zN T p lo hi = none := by
  cases hz : zN T p lo hi with
  | none => rfl
  | some y =>
    obtain ⟨v, e⟩ := y
    obtain ⟨-, -, -, a4, -⟩ := zN_some hp hz
    rw [zglu_q h, zan_nb h.2.2.2] at a4
    cases a4
theorem num10 {M : ZMem} {T : ZT} {p n lo hi mk : Nat} {r : ZRow} {L : ZL} {x : Int32} (hQ : QS10 M T p r L mk) (hT : TT T) (hL : LX L) (h8 : zcn L < 8) (hH : HI x hi) (hJ : ¬ nI 1000000 ≤ x) (hlo : lo ≤ 100000) (hn : 400 < n) :
    (∃ v e M', zN T p lo hi = some (v, e) ∧ zf_X10_number n (nI lo) x M = some (nI v, M') ∧ QS10 M' T e r (zadn L v) mk ∧ FR10 M M' ∧ lo ≤ v ∧ v < hi ∧ v < 100000)
    ∨ (∃ v M', zN T p lo hi = none ∧ zf_X10_number n (nI lo) x M = some (v, M') ∧ EE M' (zrun T zbl p) ∧ FR10 M M') := by
  have hl := hT.1
  obtain ⟨hB, h0, h70, hG, hp0, hp, ha⟩ := hQ
  have hq := zrun_le (T := T) (f := zbl) hp
  have hqg := zrun_ge T zbl p
  rcases hG with ⟨g1, g2⟩ | ⟨g1, g2, g3⟩
  · refine Or.inr ⟨_, M, zN_glu hp g1, num10e ⟨g2, by omega⟩ _ _, ⟨by rw [zglu_q g1]; exact g2, by omega⟩, fr10_refl M⟩
  · obtain ⟨k1, k2, k3, k4⟩ := g3
    have bad : ∃ v M', zf_X10_number_j28 M n = some (v, M') ∧ EE M' (zrun T zbl p) ∧ FR10 M M' := by
      unfold zf_X10_number_j28
      rw [k2, zb1_at (wrong10 _ g2)]
      have hE : EE (zwr M 77 12 (nI (zrun T zbl p))) (zrun T zbl p) := ⟨wre, by omega⟩
      unfold zf_X10_number_j36 zf_X10_number_j58
      rw [if_neg hE.ne]
      exact ⟨_, _, rfl, hE, fr10_w (by omega) (by omega)⟩
    unfold zf_X10_number
    rw [if_pos g2, k1]
    by_cases c : zrun T zbl p < T.1 ∧ zdg (T.2 (zrun T zbl p)) = true
    · have hnl : zlet (T.2 (zrun T zbl p)) = false := by
        have := c.2
        simp only [zdg, Bool.and_eq_true, decide_eq_true_eq] at this
        simp only [zlet, Bool.and_eq_false_iff, decide_eq_false_iff_not]
        omega
      have e1 : zkS T (zrun T zbl p) = 2 := by unfold zkS; rw [if_neg (by omega), if_neg (by rw [hnl]; decide), if_pos c.2]
      have e2 : zkE T (zrun T zbl p) = zrun T zdg (zrun T zbl p) := by unfold zkE; rw [if_neg (by omega), if_neg (by rw [hnl]; decide), if_pos c.2]
      have e3 : zkV T (zrun T zbl p) = zkD T (zrun T zbl p) (zrun T zdg (zrun T zbl p)) := by unfold zkV; rw [if_neg (by omega), if_neg (by rw [hnl]; decide), if_pos c.2]
      have hne : zrun T zbl p ≠ p := fun z => g1 ⟨by omega, hp0, by rw [← z]; unfold zan; rw [c.2, Bool.or_true], ha⟩
      have hbl : zbl (T.2 (zrun T zbl p - 1)) = true := zrun_mem (p := p) (by omega) (by omega)
      have hin := zrun_in c.1 c.2
      have hle := zrun_le (T := T) (f := zdg) hq
      have hdg : ∀ k, zrun T zbl p ≤ k → k < zrun T zdg (zrun T zbl p) → zdg (T.2 k) = true := fun k a b => zrun_mem a b
      rw [e2] at k4
      rw [e3] at k3
      rw [e1, if_pos (show nI 2 = 2 from rfl), k3, zb1_at (isIn10 _ _ _)]
      by_cases c5 : zrun T zdg (zrun T zbl p) - zrun T zbl p ≤ 5
      · have hv : zkD T (zrun T zbl p) (zrun T zdg (zrun T zbl p)) = zvl T (zrun T zbl p) (zrun T zdg (zrun T zbl p) - zrun T zbl p) := by unfold zkD; rw [if_pos c5]
        have g4 := zvl_lt (T := T) (q := zrun T zbl p) (zrun T zdg (zrun T zbl p) - zrun T zbl p) (fun j hj => hdg _ (by omega) (by omega))
        have g5 : 10 ^ (zrun T zdg (zrun T zbl p) - zrun T zbl p) ≤ 10 ^ 5 := Nat.pow_le_pow_right (by decide) c5
        rw [hv] at k3 ⊢
        by_cases c6 : lo ≤ zvl T (zrun T zbl p) (zrun T zdg (zrun T zbl p) - zrun T zbl p) ∧ zvl T (zrun T zbl p) (zrun T zdg (zrun T zbl p) - zrun T zbl p) < hi
        · have hN : zN T p lo hi = some (zvl T (zrun T zbl p) (zrun T zdg (zrun T zbl p) - zrun T zbl p), zrun T zdg (zrun T zbl p)) := by
            unfold zN
            rw [if_pos ⟨c.1, c.2, by omega, hbl, c5, c6.1, c6.2⟩]
          have hno : ¬ (nI (zvl T (zrun T zbl p) (zrun T zdg (zrun T zbl p) - zrun T zbl p)) < nI lo ∨ x < nI (zvl T (zrun T zbl p) (zrun T zdg (zrun T zbl p) - zrun T zbl p))) := fun z => by
            rcases z with z | z
            · have := (nI_ltI (by omega) (by omega)).mp z; omega
            · exact absurd ((hH _ (by omega)).mpr c6.2) (Int32.not_le.mpr z)
          rw [if_neg hno, if_neg (show ¬ (1 : Int32) = 0 by decide)]
          unfold zf_X10_number_j36 zf_X10_number_j58
          rw [if_pos g2, k3]
          obtain ⟨M1, a1, a2, a3, a4⟩ := keeps10 (v := zvl T (zrun T zbl p) (zrun T zdg (zrun T zbl p) - zrun T zbl p)) hB h0 h70 hL h8
          obtain ⟨M2, b1, b2, b3⟩ := look10 (n := n) (p := zrun T zdg (zrun T zbl p)) (L := zadn L (zvl T (zrun T zbl p) (zrun T zdg (zrun T zbl p) - zrun T zbl p))) hT a2 h0 h70 (by rw [a4]; exact k4) (by rw [a4]; exact g2) (by omega) hle (by unfold zan; rw [hdg (zrun T zdg (zrun T zbl p) - 1) (by omega) (by omega), Bool.or_true]) hn
          refine Or.inl ⟨_, _, M2, hN, ?_, b2, fr10_trans a3 b3, c6.1, c6.2, by omega⟩
          rw [zb1_at a1, zb1_at b1]
        · have hN : zN T p lo hi = none := by
            unfold zN
            rw [if_neg (fun z => c6 ⟨z.2.2.2.2.2.1, z.2.2.2.2.2.2⟩)]
          rw [if_pos (show nI _ < nI lo ∨ x < nI _ from by
            by_cases c7 : lo ≤ zvl T (zrun T zbl p) (zrun T zdg (zrun T zbl p) - zrun T zbl p)
            · exact Or.inr (Int32.not_le.mp (fun z => c6 ⟨c7, (hH _ (by omega)).mp z⟩))
            · exact Or.inl ((nI_ltI (by omega) (by omega)).mpr (by omega))), if_pos rfl]
          obtain ⟨v, M', b1, b2, b3⟩ := bad
          exact Or.inr ⟨v, M', hN, b1, b2, b3⟩
      · have hv : zkD T (zrun T zbl p) (zrun T zdg (zrun T zbl p)) = 1000000 := by unfold zkD; rw [if_neg c5]
        have hN : zN T p lo hi = none := by
          unfold zN
          rw [if_neg (fun z => c5 z.2.2.2.2.1)]
        rw [hv, if_pos (show nI 1000000 < nI lo ∨ x < nI 1000000 from Or.inr (Int32.not_le.mp hJ)), if_pos rfl]
        obtain ⟨v, M', b1, b2, b3⟩ := bad
        exact Or.inr ⟨v, M', hN, b1, b2, b3⟩
    · have e1 : ¬ nI (zkS T (zrun T zbl p)) = (2 : Int32) := by
        have : zkS T (zrun T zbl p) ≠ 2 ∧ zkS T (zrun T zbl p) < 4 := by
          unfold zkS
          by_cases g : T.1 ≤ zrun T zbl p
          · rw [if_pos g]; omega
          · rw [if_neg g, if_neg (show ¬ zdg (T.2 (zrun T zbl p)) = true from fun z => c ⟨by omega, z⟩)]
            split <;> omega
        intro z
        exact this.1 ((nI_eq (by omega) (by omega)).mp (show nI (zkS T (zrun T zbl p)) = nI 2 from z))
      have hN : zN T p lo hi = none := by
        unfold zN
        rw [if_neg (fun z => c ⟨z.1, z.2.1⟩)]
      rw [if_neg e1]
      obtain ⟨v, M', b1, b2, b3⟩ := bad
      exact Or.inr ⟨v, M', hN, b1, b2, b3⟩
theorem hj_lit {m : Nat} (hm : m < 1000000) : ¬ nI 1000000 ≤ nI m := fun z => by
  have := (nI_leI (by omega) (by omega)).mp z
  omega
theorem hj_m1 {c : Nat} (hc : c < 1000) : ¬ nI 1000000 ≤ nI c - 1 := fun z => by
  by_cases e : c = 0
  · subst e
    exact absurd z (by decide)
  · rw [show nI c - 1 = nI (c - 1) from pk_sub (b := 1) (by omega)] at z
    have := (nI_leI (by omega) (by omega)).mp z
    omega
/-- the end of a line -/
theorem clo10 {M : ZMem} {T : ZT} {p n mk : Nat} {r : ZRow} {L : ZL} (hQ : QS10 M T p r L mk) (hT : TT T) (hn : 400 < n) :
    (∃ e M', zEnd T p = some e ∧ zf_X10_closes n M = some M' ∧ RB10 M' T e r L mk ∧ FR10 M M') ∨ (∃ M', zEnd T p = none ∧ zf_X10_closes n M = some M' ∧ EE M' (zrun T zbl p) ∧ FR10 M M') := by
  have hl := hT.1
  obtain ⟨hB, h0, h70, hG, hp0, hp, ha⟩ := hQ
  have hq := zrun_le (T := T) (f := zbl) hp
  rcases hG with ⟨g1, g2⟩ | ⟨g1, g2, g3⟩
  · have hE : EE M p := ⟨g2, by omega⟩
    refine Or.inr ⟨M, ?_, clo10e hE, by rw [zglu_q g1]; exact hE, fr10_refl M⟩
    unfold zEnd
    rw [zglu_q g1, if_neg (fun z => by
      have := g1.2.2.1
      rw [z.2] at this
      cases this)]
  · obtain ⟨k1, k2, k3, k4⟩ := g3
    have bad : ∃ M', zf_X10_closes_j25 M n = some M' ∧ EE M' (zrun T zbl p) ∧ FR10 M M' := by
      unfold zf_X10_closes_j25
      rw [k2, zb1_at (wrong10 _ g2)]
      have hE : EE (zwr M 77 12 (nI (zrun T zbl p))) (zrun T zbl p) := ⟨wre, by omega⟩
      unfold zf_X10_closes_j33 zf_X10_closes_j55
      rw [if_neg hE.ne]
      exact ⟨_, rfl, hE, fr10_w (by omega) (by omega)⟩
    unfold zf_X10_closes
    rw [if_pos g2, k1, k3]
    by_cases c : zrun T zbl p < T.1 ∧ T.2 (zrun T zbl p) = 59
    · have f1 : zlet (T.2 (zrun T zbl p)) = false := by rw [c.2]; rfl
      have f2 : zdg (T.2 (zrun T zbl p)) = false := by rw [c.2]; rfl
      have e1 : zkS T (zrun T zbl p) = 3 := by unfold zkS; rw [if_neg (by omega), f1, f2]; rfl
      have e2 : zkE T (zrun T zbl p) = zrun T zbl p + 1 := by unfold zkE; rw [if_neg (by omega), f1, f2]; rfl
      have e3 : zkV T (zrun T zbl p) = 59 := by unfold zkV; rw [if_neg (by omega), f1, f2]; exact c.2
      rw [e2] at k4
      rw [e1, e3, if_pos (show nI 3 = 3 from rfl), if_pos (show nI 59 = 59 from rfl)]
      unfold zf_X10_closes_j33 zf_X10_closes_j55
      rw [if_pos g2, zput_at, hB.2.2.1, nI_1, show L.1 - 1 + 1 = L.1 by omega]
      obtain ⟨q1, q2, q3, ⟨km, q4, q5, q6⟩, q7⟩ := hB
      have hB2 : BS10 (zwr M 77 17 (nI L.1)) T r L L.1 mk := ⟨tc7_w q1 (by omega), q2.congr (wrn (by omega)), wre, ⟨km, by rw [wrj (by omega)]; exact q4, q5, q6⟩, fun k hk => by
        rw [wrn (by omega), wrn (by omega), wrn (by omega)]
        exact q7 k hk⟩
      obtain ⟨M', a1, a2, a3, a4, a5⟩ := next10 (n := n) (p := zrun T zbl p + 1) hT hB2.1 (by rw [wrj (by omega)]; exact k4) (by omega) (by rw [wrj (by omega)]; exact g2) hn
      have hng : ¬ zglu T (zrun T zbl p + 1) := fun z => by
        have := z.2.2.2
        rw [show zrun T zbl p + 1 - 1 = zrun T zbl p by omega, c.2] at this
        cases this
      refine Or.inl ⟨zrun T zbl p + 1, M', ?_, by rw [zb1_at a1], ⟨hB2.mv a4 a5, ?_, a2, by omega⟩, fr10_trans (fr10_w (by omega) (by omega)) (fr10_77 a4 a5)⟩
      · unfold zEnd
        rw [if_pos c]
      · rcases a3 with a3 | a3
        · exact absurd a3.1 hng
        · exact a3.2
    · have hN : zEnd T p = none := by
        unfold zEnd
        rw [if_neg c]
      obtain ⟨M', b1, b2, b3⟩ := bad
      refine Or.inr ⟨M', hN, ?_, b2, b3⟩
      by_cases c3 : zkS T (zrun T zbl p) = 3
      · have hc3 : zrun T zbl p < T.1 ∧ zlet (T.2 (zrun T zbl p)) = false ∧ zdg (T.2 (zrun T zbl p)) = false := by
          unfold zkS at c3
          split at c3
          · omega
          · split at c3
            · omega
            · split at c3
              · omega
              · rename_i y1 y2 y3
                exact ⟨by omega, by simpa using y2, by simpa using y3⟩
        have hb := hT.2 (zrun T zbl p) hc3.1
        have e3 : zkV T (zrun T zbl p) = T.2 (zrun T zbl p) := by unfold zkV; rw [if_neg (by omega), hc3.2.1, hc3.2.2]; rfl
        rw [c3, e3, if_pos (show nI 3 = 3 from rfl), show (59 : Int32) = nI 59 from rfl, zi_eq (by omega) (by omega), if_neg (fun z => c ⟨hc3.1, z⟩)]
        exact b1
      · have hb : zkS T (zrun T zbl p) < 4 := by
          unfold zkS
          split
          · omega
          · split
            · omega
            · split <;> omega
        rw [if_neg (show ¬ nI (zkS T (zrun T zbl p)) = (3 : Int32) from fun z => c3 ((nI_eq (by omega) (by omega)).mp (show nI (zkS T (zrun T zbl p)) = nI 3 from z)))]
        exact b1
/-- a line begins -/
theorem beg10 {M : ZMem} {T : ZT} {p s n mk : Nat} {r : ZRow} {L : ZL} (hR : RB10 M T p r L mk) (hT : TT T) (h70 : L.1 < 70) (hc : zrun T zbl p < T.1 ∧ zlet (T.2 (zrun T zbl p)) = true) (hn : 400 < n) : ∃ M', zf_X10_begins n (nI s) M = some M' ∧ QS10 M' T (zrun T zlet (zrun T zbl p)) r (zopn L s) mk ∧ FR10 M M' := by
  have hl := hT.1
  obtain ⟨hB, g2, ⟨k1, k2, k3, k4⟩, hp⟩ := hR
  obtain ⟨q1, q2, q3, ⟨km, q4, q5, q6⟩, q7⟩ := hB
  have hq := zrun_le (T := T) (f := zbl) hp
  have hin := zrun_in hc.1 hc.2
  have hle := zrun_le (T := T) (f := zlet) hq
  have hlast : zlet (T.2 (zrun T zlet (zrun T zbl p) - 1)) = true := zrun_mem (p := zrun T zbl p) (by omega) (by omega)
  have e2 : zkE T (zrun T zbl p) = zrun T zlet (zrun T zbl p) := by unfold zkE; rw [if_neg (by omega), if_pos hc.2]
  rw [e2] at k4
  unfold zf_X10_begins zf_X10_begins_j38
  have w17 : ∀ x, zwr M 82 (70 + L.1) x 77 17 = nI L.1 := fun x => by rw [wrn (by omega)]; exact q3
  rw [if_pos g2, q3, show (70 : Int32) = nI 70 from rfl, nI_add, zst_at (70 + L.1) rfl (by omega), w17, nI_add, zst_at (70 + L.1) rfl (by omega)]
  have hB2 : BS10 (zwr (zwr M 82 (70 + L.1) (nI s)) 83 (70 + L.1) 0) T r (zopn L s) ((zopn L s).1 - 1) mk := by
    refine ⟨⟨by rw [wrn (by omega), wrn (by omega)]; exact q1.1, fun k hk => by rw [wrn (by omega), wrn (by omega)]; exact q1.2 k hk⟩, q2.congr (by rw [wrn (by omega), wrn (by omega)]), ?_, ⟨km, by rw [wrn (by omega), wrn (by omega)]; exact q4, q5, q6⟩, fun k hk => ?_⟩
    · rw [wrn (by omega), wrn (by omega), q3]
      show nI L.1 = nI (L.1 + 1 - 1)
      rfl
    · have hk2 : k < L.1 + 1 := hk
      rw [wrn (show (82 : Nat) ≠ 83 by omega), wrn (show (84 : Nat) ≠ 83 by omega), wrn (show (84 : Nat) ≠ 82 by omega)]
      show _ = nI (if k = L.1 then s else L.2.1 k) ∧ _ = nI (if k = L.1 then 0 else L.2.2.1 k) ∧ ∀ j, j < (if k = L.1 then 0 else L.2.2.1 k) → _
      by_cases e : k = L.1
      · subst e
        simp only [eq_self, if_true]
        exact ⟨wre, by rw [wre]; rfl, fun j hj => by omega⟩
      · simp only [if_neg e]
        rw [wrj (by omega), wrj (by omega), wrn (by omega)]
        exact q7 k (by omega)
  obtain ⟨M', b1, b2, b3⟩ := look10 (n := n) (p := zrun T zlet (zrun T zbl p)) hT hB2 (Nat.succ_pos _) (show L.1 + 1 ≤ 70 by omega) (by rw [wrn (by omega), wrn (by omega)]; exact k4) (by rw [wrn (by omega), wrn (by omega)]; exact g2) (by omega) hle (by unfold zan; rw [hlast]; rfl) hn
  refine ⟨M', by rw [zb1_at b1], b2, fr10_trans ⟨fun k a b c d e => by rw [wrn d, wrn c], fun j hj => by rw [wrn (by omega), wrn (by omega)], fun j hj => ⟨by rw [wrn (by omega), wrj (by omega)], by rw [wrj (by omega), wrn (by omega)]⟩, fun j hj => by rw [wrn (by omega), wrn (by omega)]⟩ b3⟩
theorem beg10e {M : ZMem} {e n : Nat} {s : Int32} (h : EE M e) : zf_X10_begins n s M = some M := by
  unfold zf_X10_begins zf_X10_begins_j38
  rw [if_neg h.ne]
