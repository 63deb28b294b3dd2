/-! LAYER 2: the class parts its MEMBERS -/
def zgrp (s : Nat) (f : Nat → Nat) (m k : Nat) : Nat := zset (fun j => s.testBit j && (f j == k)) m
theorem zgrp_tb {s : Nat} {f : Nat → Nat} {m k j : Nat} : (zgrp s f m k).testBit j = (decide (j < m) && (s.testBit j && (f j == k))) := zset_tb _ _ _
theorem zgrp_lt {s : Nat} {f : Nat → Nat} {m k : Nat} (h : m ≤ 10) : zgrp s f m k < 1024 := Nat.lt_of_lt_of_le (zset_lt _ _) (zpow_le h)
theorem zgrp_out {s : Nat} {f : Nat → Nat} {i k : Nat} (h : s.testBit i = false) : zgrp s f (i + 1) k = zgrp s f i k := by
  show (if (s.testBit i && (f i == k)) = true then _ else _) = _
  rw [h, Bool.false_and, if_neg (by decide)]
  rfl
theorem zgrp_in {s : Nat} {f : Nat → Nat} {i k l : Nat} (h : s.testBit i = true) : zgrp s (zupf f i k) (i + 1) l = if l = k then zgrp s f i k ||| 2 ^ i else zgrp s f i l := by
  have e : zgrp s (zupf f i k) i l = zgrp s f i l := zset_congr (fun j hj => by show (s.testBit j && (zupf f i k j == l)) = _; rw [zupf_ne (by omega)])
  show (if (s.testBit i && (zupf f i k i == l)) = true then zgrp s (zupf f i k) i l ||| 2 ^ i else zgrp s (zupf f i k) i l) = _
  rw [e, h, Bool.true_and, zupf_eq]
  by_cases g : l = k
  · subst g; rw [if_pos (by simp), if_pos rfl]
  · rw [if_neg (by simp; omega), if_neg g]
theorem zgrp_free {q : ZRow} {s : Nat} {f : Nat → Nat} {i k : Nat} : (zgrp s f i k &&& q (63 + i) = 0) ↔ zfree q s f i k = true := by
  rw [zfree_iff]
  constructor
  · intro h j hj hs hk
    have e : (zgrp s f i k &&& q (63 + i)).testBit j = false := by rw [h]; exact Nat.zero_testBit j
    rw [Nat.testBit_and, zgrp_tb, hs] at e
    simp [hj, hk] at e
    exact e
  · intro h
    apply Nat.eq_of_testBit_eq
    intro j
    rw [Nat.testBit_and, zgrp_tb, Nat.zero_testBit]
    by_cases h1 : j < i
    · by_cases h2 : s.testBit j = true
      · by_cases h3 : f j = k
        · rw [h j h1 h2 h3, Bool.and_false]
        · simp [h3]
      · simp [h2]
    · simp [h1]
def SPk (M : ZMem) (q : ZRow) (s many : Nat) : Prop := M 57 0 = nI (q 0) ∧ M 57 1 = nI s ∧ M 57 2 = nI many ∧ ∀ j, j < 10 → M 58 j = nI (q (63 + j))
def SG (M : ZMem) (s : Nat) (f : Nat → Nat) (m : Nat) : Prop := ∀ k, k < 10 → M 59 k = nI (zgrp s f m k)
theorem zwr_back {M : ZMem} {a j : Nat} {x : Int32} : zwr (zwr M a j x) a j (M a j) = M := by
  funext b p
  rw [zwr_get, zwr_get]
  by_cases h : b = a ∧ p = j
  · rw [if_pos h, h.1, h.2]
  · rw [if_neg h, if_neg h]
theorem zwr_zwr {M : ZMem} {a j : Nat} {x y : Int32} : zwr (zwr M a j x) a j y = zwr M a j y := by
  funext b p
  rw [zwr_get, zwr_get, zwr_get]
  by_cases h : b = a ∧ p = j
  · rw [if_pos h, if_pos h]
  · rw [if_neg h, if_neg h, if_neg h]
theorem zwr_same {M : ZMem} {a j : Nat} {x : Int32} (h : M a j = x) : zwr M a j x = M := by
  funext b p
  rw [zwr_get]
  by_cases g : b = a ∧ p = j
  · rw [if_pos g, g.1, g.2, h]
  · rw [if_neg g]
theorem zor_xor {a i : Nat} (h : a.testBit i = false) : (a ||| 2 ^ i) ^^^ 2 ^ i = a := by
  apply Nat.eq_of_testBit_eq
  intro j
  rw [Nat.testBit_xor, Nat.testBit_or, Nat.testBit_two_pow]
  by_cases g : i = j
  · subst g; simp [h]
  · simp [g]
theorem zfirst_s {α : Type} (g : Nat → Option α) (c k : Nat) : zfirst g (c + 1) k = match g k with | some x => some x | none => zfirst g c (k + 1) := rfl
theorem zsrR_s (q : ZRow) (s many d i o : Nat) (f : Nat → Nat) : zsrR q s many (d + 1) i o f = if s.testBit i then zfirst (fun k => if zfree q s f i k then zsrR q s many d (i + 1) (max o (k + 1)) (zupf f i k) else none) (min (o + 1) many) 0 else zsrR q s many d (i + 1) o f := rfl
set_option maxHeartbeats 1000000 in
theorem place6 {q : ZRow} {s many n : Nat} (h0 : q 0 ≤ 10) (hs : s < 1024) (hf : ∀ j, j < 10 → q (63 + j) < 1024) (hm : many ≤ 10) (hn : 20 < n) : ∀ (d i o dp : Nat) (f : Nat → Nat) (M : ZMem), i + d = q 0 → d < dp → o ≤ i → SPk M q s many → SG M s f i →
    (zsrR q s many d i o f = none → zf_X6_place n dp (nI i) (nI o) M = some (nI 0, M)) ∧ (∀ g, zsrR q s many d i o f = some g → ∃ M', zf_X6_place n dp (nI i) (nI o) M = some (nI 1, M') ∧ Fr 59 59 M M' ∧ SG M' s g (q 0)) := by
  intro d
  induction d with
  | zero =>
    intro i o dp f M hi hdp ho hP hG
    obtain ⟨dp, rfl⟩ : ∃ x, dp = x + 1 := ⟨dp - 1, by omega⟩
    obtain ⟨p1, p2, p3, p4⟩ := hP
    refine ⟨(fun h => by cases h), fun g hg => ?_⟩
    cases hg
    refine ⟨M, ?_, Fr.refl _ _ _, ?_⟩
    · simp (disch := (first | assumption | omega)) only [zf_X6_place, zf_X6_place_body, p1, zlp, ↓ev_ifB, ↓ev_iflt, ↓ev_ifle, ↓ev_ifeq, ↓ifp, ↓ifn, ↓ev_b1, ↓ev_b2, ↓ev_put, ↓ev_z0, ↓ev_z1, ↓ev_zB, ↓ev_has9, ↓ev_has10, ↓ev_shl, ↓ev_bit, ↓ev_in, ↓ev_inG, ↓ev_rd, ↓ev_st, decide_eq_true_eq, nI_add, ev_sub, pk_mul, nI_or, nI_xor, zBt, zBf, if_true, if_false, eq_self, Bool.false_eq_true]
    · have e : i = q 0 := by omega
      rw [← e]
      exact hG
  | succ d ih =>
    intro i o dp f M hi hdp ho hP hG
    obtain ⟨dp, rfl⟩ : ∃ x, dp = x + 1 := ⟨dp - 1, by omega⟩
    obtain ⟨p1, p2, p3, p4⟩ := id hP
    rw [zsrR_s]
    by_cases hb : s.testBit i = true
    · rw [if_pos hb]
      have hpl : zf_X6_place n (dp + 1) (nI i) (nI o) M = zf_X6_place_L44 (nI o) M (nI i) (fun x0 x1 x2 => zf_X6_place n dp x0 x1 x2) (fun M45 => some ((0 : Int32), M45)) n (nI 0) M := by
        simp (disch := (first | assumption | omega)) only [zf_X6_place, zf_X6_place_body, p1, p2, zlp, ↓ev_ifB, ↓ev_iflt, ↓ev_ifle, ↓ev_ifeq, ↓ifp, ↓ifn, ↓ev_b1, ↓ev_b2, ↓ev_put, ↓ev_z0, ↓ev_z1, ↓ev_zB, ↓ev_has9, ↓ev_has10, ↓ev_shl, ↓ev_bit, ↓ev_in, ↓ev_inG, ↓ev_rd, ↓ev_st, decide_eq_true_eq, nI_add, ev_sub, pk_mul, nI_or, nI_xor, zBt, zBf, if_true, if_false, eq_self, Bool.false_eq_true]
      rw [hpl]
      have hfi := hf i (by omega)
      have inner : ∀ (c k m : Nat), k + c = min (o + 1) many → c < m →
          (zfirst (fun k => if zfree q s f i k then zsrR q s many d (i + 1) (max o (k + 1)) (zupf f i k) else none) c k = none → zf_X6_place_L44 (nI o) M (nI i) (fun x0 x1 x2 => zf_X6_place n dp x0 x1 x2) (fun M45 => some ((0 : Int32), M45)) m (nI k) M = some (nI 0, M)) ∧ (∀ g, zfirst (fun k => if zfree q s f i k then zsrR q s many d (i + 1) (max o (k + 1)) (zupf f i k) else none) c k = some g → ∃ M', zf_X6_place_L44 (nI o) M (nI i) (fun x0 x1 x2 => zf_X6_place n dp x0 x1 x2) (fun M45 => some ((0 : Int32), M45)) m (nI k) M = some (nI 1, M') ∧ Fr 59 59 M M' ∧ SG M' s g (q 0)) := by
        intro c
        induction c with
        | zero =>
          intro k m hk hm2
          obtain ⟨m, rfl⟩ : ∃ x, m = x + 1 := ⟨m - 1, by omega⟩
          refine ⟨fun _ => ?_, fun g hg => by cases hg⟩
          rw [zf_X6_place_L44, p3, if_pos]
          · rfl
          · by_cases hz : many = 0
            · subst hz
              have : zmin (nI o) (nI 0 - 1) = -1 := by
                unfold zmin
                rw [if_pos (show nI 0 - 1 < nI o from zneg_lt (by decide) (by omega))]
                rfl
              rw [this]
              exact zneg_lt (by decide) (by omega)
            · rw [show (1 : Int32) = nI 1 from rfl, pk_sub (by omega), zz_min (by omega) (by omega), ev_lt (by omega) (by omega)]
              omega
        | succ c ihc =>
          intro k m hk hm2
          obtain ⟨m, rfl⟩ : ∃ x, m = x + 1 := ⟨m - 1, by omega⟩
          have hko : k ≤ o := by omega
          have hkm : k < many := by omega
          obtain ⟨n1, n2⟩ := ihc (k + 1) m (by omega) (by omega)
          have hgk := hG k (by omega)
          have hglt := zgrp_lt (s := s) (f := f) (k := k) (show i ≤ 10 by omega)
          have hmin : zmin (nI o) (nI many - nI 1) = nI (min o (many - 1)) := by rw [pk_sub (by omega), zz_min (by omega) (by omega)]
          rw [zfirst_s]
          by_cases hfr : zfree q s f i k = true
          · have hand : zgrp s f i k &&& q (63 + i) = 0 := zgrp_free.mpr hfr
            have hz : nI (zgrp s f i k) &&& nI (q (63 + i)) = nI 0 := by rw [nI_and, hand]
            have hout : (zgrp s f i k).testBit i = false := by rw [zgrp_tb]; simp
            have hP' : SPk (zwr M 59 k (nI (zgrp s f i k ||| 2 ^ i))) q s many := ⟨by rw [wrn (by omega)]; exact p1, by rw [wrn (by omega)]; exact p2, by rw [wrn (by omega)]; exact p3, fun j hj => by rw [wrn (by omega)]; exact p4 j hj⟩
            have hG' : SG (zwr M 59 k (nI (zgrp s f i k ||| 2 ^ i))) s (zupf f i k) (i + 1) := fun l hl => by
              rw [zgrp_in hb]
              by_cases e : l = k
              · subst e; rw [if_pos rfl, wre]
              · rw [if_neg e, wrj e]; exact hG l hl
            obtain ⟨i1, i2⟩ := ih (i + 1) (max o (k + 1)) dp (zupf f i k) _ (by omega) (by omega) (by omega) hP' hG'
            have hmax : zmax (nI o) (nI (k + 1)) = nI (max o (k + 1)) := zz_max (by omega) (by omega)
            simp only [hfr, if_true]
            cases hz2 : zsrR q s many d (i + 1) (max o (k + 1)) (zupf f i k) with
            | none =>
              have e1 := i1 hz2
              have hst : zf_X6_place_L44 (nI o) M (nI i) (fun x0 x1 x2 => zf_X6_place n dp x0 x1 x2) (fun M45 => some ((0 : Int32), M45)) (m + 1) (nI k) M = zf_X6_place_L44 (nI o) M (nI i) (fun x0 x1 x2 => zf_X6_place n dp x0 x1 x2) (fun M45 => some ((0 : Int32), M45)) m (nI (k + 1)) M := by
                have hback : zwr (zwr M 59 k (nI (zgrp s f i k ||| 2 ^ i))) 59 k (nI ((zgrp s f i k ||| 2 ^ i) ^^^ 2 ^ i)) = M := by
                  rw [zor_xor hout, ← hgk]; exact zwr_back
                simp (disch := (first | assumption | omega)) only [zf_X6_place_L44, zf_X6_place_j113, zlp, p3, hmin, ↓ev_iflt, ↓ifn, ↓ev_rd, ↓ev_st, hgk, p4, hz, ↓ev_ifeq, ↓ifp, if_true, eq_self, ↓ev_shl, nI_or, nI_add, hmax, e1, ↓ev_b2, wre, nI_xor, hback]
              rw [hst]
              exact ⟨n1, n2⟩
            | some g =>
              refine ⟨(fun h => by cases h), fun g' hg' => ?_⟩
              cases hg'
              obtain ⟨M', e1, e2, e3⟩ := i2 g hz2
              refine ⟨M', ?_, (Fr.wr M k _ (by omega) (by omega)).trans e2, e3⟩
              simp (disch := (first | assumption | omega)) only [zf_X6_place_L44, zf_X6_place_j113, zlp, p3, hmin, ↓ev_iflt, ↓ifn, ↓ev_rd, ↓ev_st, hgk, p4, hz, ↓ev_ifeq, ↓ifp, if_true, eq_self, ↓ev_shl, nI_or, nI_add, hmax, e1, ↓ev_b2]
          · have hand : ¬ zgrp s f i k &&& q (63 + i) = 0 := fun z => hfr (zgrp_free.mp z)
            have hlt : zgrp s f i k &&& q (63 + i) < 1024 := Nat.lt_of_le_of_lt Nat.and_le_left hglt
            have hst : zf_X6_place_L44 (nI o) M (nI i) (fun x0 x1 x2 => zf_X6_place n dp x0 x1 x2) (fun M45 => some ((0 : Int32), M45)) (m + 1) (nI k) M = zf_X6_place_L44 (nI o) M (nI i) (fun x0 x1 x2 => zf_X6_place n dp x0 x1 x2) (fun M45 => some ((0 : Int32), M45)) m (nI (k + 1)) M := by
              simp (disch := (first | assumption | omega)) only [zf_X6_place_L44, zf_X6_place_j113, zlp, p3, hmin, ↓ev_iflt, ↓ifn, ↓ev_rd, ↓ev_st, hgk, p4, nI_and, ↓ev_ifeq, nI_add]
            rw [hst]
            simp only [hfr, if_false]
            exact ⟨n1, n2⟩
      exact inner _ 0 n (by omega) (by omega)
    · rw [if_neg hb]
      have hb' : s.testBit i = false := by simpa using hb
      obtain ⟨i1, i2⟩ := ih (i + 1) o dp f M (by omega) (by omega) (by omega) hP (fun k hk => by rw [zgrp_out hb']; exact hG k hk)
      refine ⟨fun h => ?_, fun g hg => ?_⟩
      · have e1 := i1 h
        simp (disch := (first | assumption | omega)) only [zf_X6_place, zf_X6_place_body, p1, p2, zlp, ↓ev_ifB, ↓ev_iflt, ↓ev_ifle, ↓ev_ifeq, ↓ifp, ↓ifn, ↓ev_b1, ↓ev_b2, ↓ev_put, ↓ev_z0, ↓ev_z1, ↓ev_zB, ↓ev_has9, ↓ev_has10, ↓ev_shl, ↓ev_bit, ↓ev_in, ↓ev_inG, ↓ev_rd, ↓ev_st, decide_eq_true_eq, nI_add, ev_sub, pk_mul, nI_or, nI_xor, zBt, zBf, if_true, if_false, eq_self, Bool.false_eq_true, e1]
      · obtain ⟨M', e1, e2, e3⟩ := i2 g hg
        refine ⟨M', ?_, e2, e3⟩
        simp (disch := (first | assumption | omega)) only [zf_X6_place, zf_X6_place_body, p1, p2, zlp, ↓ev_ifB, ↓ev_iflt, ↓ev_ifle, ↓ev_ifeq, ↓ifp, ↓ifn, ↓ev_b1, ↓ev_b2, ↓ev_put, ↓ev_z0, ↓ev_z1, ↓ev_zB, ↓ev_has9, ↓ev_has10, ↓ev_shl, ↓ev_bit, ↓ev_in, ↓ev_inG, ↓ev_rd, ↓ev_st, decide_eq_true_eq, nI_add, ev_sub, pk_mul, nI_or, nI_xor, zBt, zBf, if_true, if_false, eq_self, Bool.false_eq_true, e1]
