/-! LAYER 2: paying as it is, and as it would be -/
theorem fq_f10 {M M' : ZMem} (h : FQ M M') : F10 M M' := ⟨fun k hk => h.1 k (by omega) (by omega) (by omega) (by omega) (by omega), h.1 78 (by omega) (by omega) (by omega) (by omega) (by omega), h.1 80 (by omega) (by omega) (by omega) (by omega) (by omega), h.1 81 (by omega) (by omega) (by omega) (by omega) (by omega), h.1 82 (by omega) (by omega) (by omega) (by omega) (by omega), h.1 83 (by omega) (by omega) (by omega) (by omega) (by omega), h.1 84 (by omega) (by omega) (by omega) (by omega) (by omega), h.2 4 (by omega) (by omega), h.2 6 (by omega) (by omega), h.2 16 (by omega) (by omega)⟩
theorem pay_rd {M : ZMem} {q : ZRow} (h : PAY M q) : M 63 15 = nI (znet q) ∧ M 63 16 = nI (zrounds q) ∧ M 63 17 = nI (zleft q) ∧ M 63 10 = nI (zcntS q) ∧ M 63 12 = nI (zca q) ∧ M 63 13 = nI (zhd q) ∧ (∀ i, i < 10 → M 69 i = nI (zpaid q i)) ∧ (∀ i, i < q 0 → M 64 i = nI (zclaim q i)) ∧ ∀ k, k < 10 → M 68 k = nI (zpotF q (znet q) k) := by
  obtain ⟨⟨⟨h1, h2, h3, h4, h5, h6, h7, h8, h9, h10⟩, h11, h15, h68⟩, ⟨r1, r2, r3, r4⟩, hs⟩ := h
  exact ⟨h15, r4, r3, h4, h5, h6, r1, h8, h68⟩
theorem zpaid_le {q : ZRow} (i : Nat) : zpaid q i ≤ zclaim q i := zpk_le 9 i
theorem zpaid_sum {q : ZRow} (h0 : q 0 ≤ 10) : zsum (zpaid q) (q 0) + zleft q = znet q := zleft_sum h0 9
theorem zpk_n {q : ZRow} {v i : Nat} (h : zhun q i = false) : ∀ k, zpk q v k i = 0
  | 0 => rfl
  | k + 1 => by rw [zpk_s, zpk_n h k, zhad_n h]
theorem zpaid_n {q : ZRow} {i : Nat} (h : zhun q i = false) : zpaid q i = 0 := zpk_n h 9
/-- the class's own payment -/
theorem IC.cq {M : ZMem} {t nx u : Nat} {r : ZRow} {U : Nat → ZRow} {T : ZT} {L : ZL} (h : IC M t nx r u U T L) (hg : GD r) : CQ M t 12 r := ⟨h.2.2.1, h.2.2.2.1, hg, h.t, Or.inl rfl⟩
theorem payNow9 {M : ZMem} {t nx u n : Nat} {r : ZRow} {U : Nat → ZRow} {T : ZT} {L : ZL} (h : IC M t nx r u U T L) (hg : GD r) (hn : 100 < n) : ∃ M1, zf_X9_payNow n M = some M1 ∧ PAY M1 r ∧ F9 M M1 := by
  obtain ⟨M1, e1, e2, e3⟩ := pay3 (n := n) (h.cq hg) hn
  refine ⟨M1, ?_, e2, e3.f9⟩
  unfold zf_X9_payNow
  rw [h.1.dy, e1]
  rfl
theorem cpS_sd {M : ZMem} {r : ZRow} (h : SDc M 12 r) : SDc (zcpS M 14 12) 14 r := by
  have e0 : ∀ j, j ≤ 10 → zcpS M 14 12 14 j = M 12 j := fun j hj => by unfold zcpS; rw [if_pos ⟨rfl, hj⟩]
  have e1 : ∀ j, j < 10 → zcpS M 14 12 (14 + 1) j = M (12 + 1) j := fun j hj => by unfold zcpS; rw [if_neg (by omega), if_pos ⟨rfl, hj⟩]
  obtain ⟨⟨a1, a2, a3, a4, a5, a6, a7, a8, a9, a10, a11⟩, a12⟩ := h
  refine ⟨⟨?_, ?_, ?_, ?_, ?_, ?_, ?_, ?_, ?_, ?_, ?_⟩, ?_⟩
  · rw [e0 _ (by omega)]; exact a1
  · rw [e0 _ (by omega)]; exact a2
  · rw [e0 _ (by omega)]; exact a3
  · rw [e0 _ (by omega)]; exact a4
  · rw [e0 _ (by omega)]; exact a5
  · rw [e0 _ (by omega)]; exact a6
  · rw [e0 _ (by omega)]; exact a7
  · rw [e0 _ (by omega)]; exact a8
  · rw [e0 _ (by omega)]; exact a9
  · rw [e0 _ (by omega)]; exact a10
  · intro i hi; rw [e1 i hi]; exact a11 i hi
  · rw [e0 _ (by omega)]; exact a12
theorem cpS_f9 {M : ZMem} : F9 M (zcpS M 14 12) := ⟨fun k hk => zcpS_ne (by unfold zkeep at hk; omega) (by unfold zkeep at hk; omega), by rw [zcpS_ne (by omega) (by omega)], by rw [zcpS_ne (by omega) (by omega)], zcpS_ne (by omega) (by omega), zcpS_ne (by omega) (by omega), fun k hk => zcpS_ne (by omega) (by omega)⟩
theorem wr14_f9 {M : ZMem} {a : Nat} {x : Int32} : F9 M (zwr M 14 a x) := ⟨fun k hk => wrn (by unfold zkeep at hk; omega), by rw [wrn (by omega)], by rw [wrn (by omega)], wrn (by omega), wrn (by omega), fun k hk => wrn (by omega)⟩
theorem copy14 {M : ZMem} : zf_X7_copyFrom 14 12 M = some (zcpS M 14 12) := copyFrom7 (by omega) (by omega) (by omega)
/-- what the class pays were a number of the row another one -/
theorem were9 {M : ZMem} {t nx u n : Nat} {r : ZRow} {U : Nat → ZRow} {T : ZT} {L : ZL} (h : IC M t nx r u U T L) (hg : GD r) (a p x : Nat) (hp : (a = 4 ∧ p = 12) ∨ (a = 7 ∧ p = 2) ∨ (a = 8 ∧ p = 9)) (hgq : GD (zat r p x)) (hn : 100 < n) : IT (zwr (zcpS M 14 12) 14 a (nI x)) t ∧ ∃ M1, zf_X3_pay n t 14 (zwr (zcpS M 14 12) 14 a (nI x)) = some M1 ∧ PAY M1 (zat r p x) ∧ F9 M M1 := by
  have ht := h.t
  have hta : TA r (zat r p x) := TA.at r x (by rcases hp with g | g | g <;> (unfold zto; omega))
  have hF : F9 M (zwr (zcpS M 14 12) 14 a (nI x)) := cpS_f9.trans wr14_f9
  have hTD : TD (zwr (zcpS M 14 12) 14 a (nI x)) t (zat r p x) := (h.2.2.1.congr (fun k b c => hF.1 k (by unfold zkeep; omega))).ta hg.1 hta
  have hSD : SDc (zwr (zcpS M 14 12) 14 a (nI x)) 14 (zat r p x) := (cpS_sd h.2.2.2.1).put hg.1.1 a p x (by rcases hp with g | g | g <;> simp [g])
  obtain ⟨M1, e1, e2, e3⟩ := pay3 (n := n) (q := zat r p x) ⟨hTD, hSD, hgq, ht, Or.inr rfl⟩ hn
  exact ⟨h.1.congr (hF.1 0 (Or.inl (by omega))), M1, e1, e2, hF.trans e3.f9⟩
/-! the reference -/
theorem countedOf10 {M : ZMem} {r : ZRow} {a n : Nat} (h : IR M r) (hw : WF r) (ha : a < 1024) (hn : 10 < n) : zf_X10_countedOf n (nI a) M = some (nI (zset (fun i => a.testBit i && decide (0 < zclaim r i)) (r 0))) := by
  have hb := hw.b
  unfold zf_X10_countedOf
  refine zloop (fun m i (x : Nat) => zf_X10_countedOf_L4 M (nI a) (fun v => some v) m (nI x) (nI i)) (fun i => zset (fun i => a.testBit i && decide (0 < zclaim r i)) i) _ (r 0) (fun m i hi => ?_) (fun m => ?_) n 0 (Nat.zero_le _) (by omega)
  · show zf_X10_countedOf_L4 M (nI a) _ (m + 1) (nI _) (nI i) = zf_X10_countedOf_L4 M (nI a) _ m (nI _) (nI (i + 1))
    have e : zset (fun i => a.testBit i && decide (0 < zclaim r i)) (i + 1) = if (a.testBit i && decide (0 < zclaim r i)) = true then zset (fun i => a.testBit i && decide (0 < zclaim r i)) i ||| 2 ^ i else zset (fun i => a.testBit i && decide (0 < zclaim r i)) i := rfl
    have hcl := claim10 h hw hi
    have hcle := zclaim_le hw hi
    rw [e]
    by_cases g1 : a.testBit i = true
    · by_cases g2 : 0 < zclaim r i
      · rw [if_pos (by simp [g1, g2])]
        simp (disch := (first | assumption | omega)) only [zf_X10_countedOf_L4, zf_X10_countedOf_j37, zf_X10_countedOf_j38, zlp, ↓rd78 h, ↓ev_ifB, ↓ev_iflt, ↓ev_ifle, ↓ev_ifeq, ↓ifp, ↓ifn, ↓ev_b1, ↓ev_b2, ↓ev_put, ↓ev_z0, ↓ev_z1, ↓ev_zB, ↓ev_has9, ↓ev_has10, ↓ev_shl, ↓ev_bit, ↓ev_in, ↓ev_inG, ↓ev_rd, ↓ev_st, decide_eq_true_eq, nI_add, ev_sub, pk_mul, nI_or, nI_xor, zBt, zBf, if_true, if_false, eq_self, Bool.false_eq_true, ↓zb1_at hcl]
      · rw [if_neg (by simp [g2])]
        simp (disch := (first | assumption | omega)) only [zf_X10_countedOf_L4, zf_X10_countedOf_j37, zf_X10_countedOf_j38, zlp, ↓rd78 h, ↓ev_ifB, ↓ev_iflt, ↓ev_ifle, ↓ev_ifeq, ↓ifp, ↓ifn, ↓ev_b1, ↓ev_b2, ↓ev_put, ↓ev_z0, ↓ev_z1, ↓ev_zB, ↓ev_has9, ↓ev_has10, ↓ev_shl, ↓ev_bit, ↓ev_in, ↓ev_inG, ↓ev_rd, ↓ev_st, decide_eq_true_eq, nI_add, ev_sub, pk_mul, nI_or, nI_xor, zBt, zBf, if_true, if_false, eq_self, Bool.false_eq_true, ↓zb1_at hcl, Nat.or_zero]
    · rw [if_neg (by simp [g1])]
      simp (disch := (first | assumption | omega)) only [zf_X10_countedOf_L4, zf_X10_countedOf_j37, zf_X10_countedOf_j38, zlp, ↓rd78 h, ↓ev_ifB, ↓ev_iflt, ↓ev_ifle, ↓ev_ifeq, ↓ifp, ↓ifn, ↓ev_b1, ↓ev_b2, ↓ev_put, ↓ev_z0, ↓ev_z1, ↓ev_zB, ↓ev_has9, ↓ev_has10, ↓ev_shl, ↓ev_bit, ↓ev_in, ↓ev_inG, ↓ev_rd, ↓ev_st, decide_eq_true_eq, nI_add, ev_sub, pk_mul, nI_or, nI_xor, zBt, zBf, if_true, if_false, eq_self, Bool.false_eq_true, Nat.or_zero]
  · show zf_X10_countedOf_L4 M (nI a) _ (m + 1) (nI _) (nI (r 0)) = _
    simp (disch := (first | assumption | omega)) only [zf_X10_countedOf_L4, zlp, ↓rd78 h, ↓ev_ifB, ↓ev_iflt, ↓ev_ifle, ↓ev_ifeq, ↓ifp, ↓ifn, ↓ev_b1, ↓ev_b2, ↓ev_put, ↓ev_z0, ↓ev_z1, ↓ev_zB, ↓ev_has9, ↓ev_has10, ↓ev_shl, ↓ev_bit, ↓ev_in, ↓ev_inG, ↓ev_rd, ↓ev_st, decide_eq_true_eq, nI_add, ev_sub, pk_mul, nI_or, nI_xor, zBt, zBf, if_true, if_false, eq_self, Bool.false_eq_true]
theorem f10_77 {M : ZMem} {j : Nat} {x : Int32} (h : 20 ≤ j) : F10 M (zwr M 77 j x) := ⟨fun k hk => wrn (by omega), wrn (by omega), wrn (by omega), wrn (by omega), wrn (by omega), wrn (by omega), wrn (by omega), wrj (by omega), wrj (by omega), wrj (by omega)⟩
theorem sq_at {r : ZRow} {p v : Nat} (h : p = 2 ∨ p = 9 ∨ p = 12 ∨ p = 13 ∨ p = 14) : SQ r (zat r p v) := fun j a b c d e => zat_ne (by omega)
theorem sq_refl (r : ZRow) : SQ r r := fun _ _ _ _ _ _ => rfl
theorem setsNow10 {M : ZMem} {r : ZRow} {n : Nat} (h : IR M r) (hg : GD r) (hn : 400000000001 < n) : ∃ M1, zf_X10_setsNow n M = some M1 ∧ RQ M1 r r ∧ M1 77 21 = nI (zin r) ∧ F10 M M1 := by
  have hw := hg.1
  have hb := hw.b
  have hin := inNow10 h hw
  have hinl := zin_lt hw.1
  have hand : zin r &&& r 13 < 1024 := Nat.lt_of_le_of_lt Nat.and_le_left hinl
  have ecn : zset (fun i => (zin r &&& r 13).testBit i && decide (0 < zclaim r i)) (r 0) = zcntS r := zset_congr (fun i hi => by
    rw [Nat.testBit_and, zin_tb]
    unfold zcnt
    simp [hi, Bool.and_comm])
  -- the cells one behind the other
  have hR1 : IR (zwr M 77 21 (nI (zin r))) r := h.congr (wrn (by omega))
  have hco := countedOf10 (n := n) (a := zin r &&& r 13) hR1 hw hand (by omega)
  rw [ecn] at hco
  have hR2 : IR (zwr (zwr M 77 21 (nI (zin r))) 77 22 (nI (zcntS r))) r := hR1.congr (wrn (by omega))
  have hR3 : IR (zwr (zwr (zwr M 77 21 (nI (zin r))) 77 22 (nI (zcntS r))) 77 23 (nI (r 14))) r := hR2.congr (wrn (by omega))
  have hR4 : IR (zwr (zwr (zwr (zwr M 77 21 (nI (zin r))) 77 22 (nI (zcntS r))) 77 23 (nI (r 14))) 77 24 (nI (r 2))) r := hR3.congr (wrn (by omega))
  have hR5 : IR (zwr (zwr (zwr (zwr (zwr M 77 21 (nI (zin r))) 77 22 (nI (zcntS r))) 77 23 (nI (r 14))) 77 24 (nI (r 2))) 77 25 (nI (r 9))) r := hR4.congr (wrn (by omega))
  obtain ⟨M6, e1, e2, e3⟩ := hR5.div hw hinl hn
  have w21 : zwr M 77 21 (nI (zin r)) 77 21 = nI (zin r) := wre
  have x21 : zwr (zwr (zwr (zwr (zwr M 77 21 (nI (zin r))) 77 22 (nI (zcntS r))) 77 23 (nI (r 14))) 77 24 (nI (r 2))) 77 25 (nI (r 9)) 77 21 = nI (zin r) := by rw [wrj (by omega), wrj (by omega), wrj (by omega), wrj (by omega), wre]
  refine ⟨M6, ?_, ⟨hR5.congr (e3.1 78 (by omega) (by omega)), e2.1, e2.2, ?_, ?_, ?_, ?_⟩, ?_, ?_⟩
  · simp (disch := (first | assumption | omega)) only [zf_X10_setsNow, zlp, ↓zb1_at hin, ↓ev_put, ↓rd78 hR1, ↓rd78 hR2, ↓rd78 hR3, ↓rd78 hR4, w21, nI_and, ↓zb1_at hco, x21, ↓zb1_at e1]
  · rw [e3.2 22 (by omega), wrj (by omega), wrj (by omega), wrj (by omega), wre]
  · rw [e3.2 23 (by omega), wrj (by omega), wrj (by omega), wre]
  · rw [e3.2 24 (by omega), wrj (by omega), wre]
  · rw [e3.2 25 (by omega), wre]
  · rw [e3.2 21 (by omega)]; exact x21
  · exact ((((((f10_77 (by omega)).trans (f10_77 (by omega))).trans (f10_77 (by omega))).trans (f10_77 (by omega))).trans (f10_77 (by omega)))).trans e3.f10
theorem rg_refl {r : ZRow} (h : GD r) : RG r r := ⟨h, h, sq_refl r⟩
theorem paysNow10 {M : ZMem} {r : ZRow} {n : Nat} (h : IR M r) (hg : GD r) (hn : 400000000001 < n) : ∃ M1, zf_X10_paysNow n M = some M1 ∧ RME M1 r (znet r) 9 ∧ RQ M1 r r ∧ F10 M M1 := by
  obtain ⟨M1, a1, a2, a3, a4⟩ := setsNow10 (n := n) h hg hn
  obtain ⟨M2, b1, b2, b3, b4⟩ := pays10 (n := n) a2 (rg_refl hg) (by omega)
  refine ⟨M2, ?_, b2, b3, a4.trans (fq_f10 b4)⟩
  unfold zf_X10_paysNow
  rw [zb1_at a1, zb1_at b1]
/-- as if some more were out -/
def zoutq (r : ZRow) (s : Nat) : ZRow := zat r 12 (r 12 ||| s)
theorem zoutq_gd {r : ZRow} {s : Nat} (h : GD r) (hs : s < 2 ^ r 0) : GD (zoutq r s) := h.put 12 _ (by
  have := Nat.or_lt_two_pow h.1.2.2.2.2.2.2.2.2.2.2.2.2.1 hs
  simp [this])
theorem zoutq_12 {r : ZRow} {s : Nat} : zoutq r s 12 = r 12 ||| s := zat_eq
theorem zoutq_in {r : ZRow} {s : Nat} (h : r 0 ≤ 10) : zin r &&& (s ^^^ 1023) = zin (zoutq r s) := by
  have e0 : zoutq r s 0 = r 0 := zat_ne (by omega)
  refine tb_ext (n := 10) (Nat.lt_of_le_of_lt Nat.and_le_left (zin_lt h)) (zin_lt (by rw [e0]; exact h)) (fun j hj => ?_)
  rw [andn_tb hj, zin_tb, zin_tb, e0, zoutq_12, Nat.testBit_or, Bool.and_assoc, Bool.not_or]
theorem zoutq_cnt {r : ZRow} {s : Nat} (h : r 0 ≤ 10) : zcntS r &&& (s ^^^ 1023) = zcntS (zoutq r s) := by
  have e0 : zoutq r s 0 = r 0 := zat_ne (by omega)
  have e13 : zoutq r s 13 = r 13 := zat_ne (by omega)
  have hq : SQ r (zoutq r s) := sq_at (by omega)
  refine tb_ext (n := 10) (Nat.lt_of_le_of_lt Nat.and_le_left (zcntS_lt h)) (zcntS_lt (by rw [e0]; exact h)) (fun j hj => ?_)
  rw [andn_tb hj]
  unfold zcntS zcnt
  rw [zset_tb, zset_tb, e0, e13, zoutq_12, sq_claim hq, Nat.testBit_or]
  cases decide (j < r 0) <;> cases (r 13).testBit j <;> cases (r 12).testBit j <;> cases s.testBit j <;> cases decide (0 < zclaim r j) <;> rfl
theorem paysWithout10 {M : ZMem} {r : ZRow} {n s : Nat} (h : IR M r) (hg : GD r) (hs : s < 2 ^ r 0) (hn : 400000000001 < n) : ∃ M1, zf_X10_paysWithout n (nI s) M = some M1 ∧ RME M1 (zoutq r s) (znet (zoutq r s)) 9 ∧ RQ M1 r (zoutq r s) ∧ F10 M M1 := by
  have hw := hg.1
  have hb := hw.b
  have hgq := zoutq_gd hg hs
  have hsq : SQ r (zoutq r s) := sq_at (by omega)
  have hrg : RG r (zoutq r s) := ⟨hg, hgq, hsq⟩
  obtain ⟨M1, a1, a2, a3, a4⟩ := setsNow10 (n := n) h hg hn
  have hin := zoutq_in (s := s) hw.1
  have hcn := zoutq_cnt (s := s) hw.1
  have n1 : nI (zin r) &&& (nI s ^^^ -nI 1) = nI (zin (zoutq r s)) := by rw [← hin]; exact nI_andn (zin_lt hw.1) (by omega)
  have n2 : nI (zcntS r) &&& (nI s ^^^ -nI 1) = nI (zcntS (zoutq r s)) := by rw [← hcn]; exact nI_andn (zcntS_lt hw.1) (by omega)
  have w22 : zwr M1 77 21 (nI (zin (zoutq r s))) 77 22 = nI (zcntS r) := by rw [wrj (by omega)]; exact a2.2.2.2.1
  have w21 : zwr (zwr M1 77 21 (nI (zin (zoutq r s)))) 77 22 (nI (zcntS (zoutq r s))) 77 21 = nI (zin (zoutq r s)) := by rw [wrj (by omega), wre]
  have hR2 : IR (zwr (zwr M1 77 21 (nI (zin (zoutq r s)))) 77 22 (nI (zcntS (zoutq r s)))) r := a2.1.congr (by rw [wrn (by omega), wrn (by omega)])
  have e0 : zoutq r s 0 = r 0 := zat_ne (by omega)
  obtain ⟨M2, b1, b2, b3⟩ := hR2.div hw (s := zin (zoutq r s)) (zin_lt (by rw [e0]; exact hw.1)) hn
  have hQ : RQ M2 r (zoutq r s) := by
    refine ⟨hR2.congr (b3.1 78 (by omega) (by omega)), ?_, fun j hj => ?_, ?_, ?_, ?_, ?_⟩
    · rw [b2.1, ← sq_dv hsq]; rfl
    · have := b2.2 j hj
      rw [← sq_dv hsq, ← e0] at this
      exact this
    · rw [b3.2 22 (by omega), wre]
    · rw [b3.2 23 (by omega), wrj (by omega), wrj (by omega)]; exact a2.2.2.2.2.1
    · rw [b3.2 24 (by omega), wrj (by omega), wrj (by omega)]; exact a2.2.2.2.2.2.1
    · rw [b3.2 25 (by omega), wrj (by omega), wrj (by omega)]; exact a2.2.2.2.2.2.2
  obtain ⟨M3, c1, c2, c3, c4⟩ := pays10 (n := n) hQ hrg (by omega)
  refine ⟨M3, ?_, c2, c3, (((a4.trans (f10_77 (by omega))).trans (f10_77 (by omega))).trans b3.f10).trans (fq_f10 c4)⟩
  simp (disch := (first | assumption | omega)) only [zf_X10_paysWithout, zlp, ↓zb1_at a1, ↓ev_put, a3, n1, w22, n2, w21, ↓zb1_at b1, ↓zb1_at c1]
/-- as if the fund, or the rule, were another -/
theorem paysBy10 {M : ZMem} {r : ZRow} {n p x j : Nat} (h : IR M r) (hg : GD r) (hp : (p = 2 ∧ j = 24) ∨ (p = 9 ∧ j = 25)) (hgq : GD (zat r p x)) (hn : 400000000001 < n) : ∃ M1 M2, zf_X10_setsNow n M = some M1 ∧ zf_X10_pays n (zwr M1 77 j (nI x)) = some M2 ∧ RME M2 (zat r p x) (znet (zat r p x)) 9 ∧ RQ M2 r (zat r p x) ∧ F10 M M2 := by
  have hw := hg.1
  have hsq : SQ r (zat r p x) := sq_at (by omega)
  obtain ⟨M1, a1, a2, a3, a4⟩ := setsNow10 (n := n) h hg hn
  obtain ⟨q1, q2, q3, q4, q5, q6, q7⟩ := a2
  have hp2 : p ≠ 0 ∧ p ≠ 12 ∧ p ≠ 13 ∧ p ≠ 14 ∧ 20 ≤ j ∧ j ≠ 20 ∧ j ≠ 22 ∧ j ≠ 23 := by omega
  have e0 : zat r p x 0 = r 0 := zat_ne (by omega)
  have e12 : zat r p x 12 = r 12 := zat_ne (by omega)
  have ein : zin (zat r p x) = zin r := by unfold zin; rw [e0, e12]
  have edv : zdv (zat r p x) (zin (zat r p x)) = zdv r (zin r) := by rw [sq_dv hsq, ein]
  have ept : zpart (zat r p x) = zpart r := by funext i; unfold zpart; rw [edv]
  have eps : zparts (zat r p x) = zparts r := by unfold zparts; rw [edv]
  have ecn : zcntS (zat r p x) = zcntS r := by
    unfold zcntS
    rw [e0]
    refine zset_congr (fun i hi => ?_)
    unfold zcnt
    rw [e12, zat_ne (show 13 ≠ p by omega), sq_claim hsq]
  have hQ : RQ (zwr M1 77 j (nI x)) r (zat r p x) := by
    refine ⟨q1.congr (wrn (by omega)), by rw [wrj (by omega), eps]; exact q2, fun i hi => by rw [wrn (by omega), ein, ept, e0]; exact q3 i hi, by rw [wrj (by omega), ecn]; exact q4, by rw [wrj (by omega), zat_ne (show 14 ≠ p by omega)]; exact q5, ?_, ?_⟩
    · rcases hp with ⟨rfl, rfl⟩ | ⟨rfl, rfl⟩
      · rw [wre, zat_eq]
      · rw [wrj (by omega), zat_ne (by omega)]; exact q6
    · rcases hp with ⟨rfl, rfl⟩ | ⟨rfl, rfl⟩
      · rw [wrj (by omega), zat_ne (by omega)]; exact q7
      · rw [wre, zat_eq]
  obtain ⟨M3, c1, c2, c3, c4⟩ := pays10 (n := n) hQ ⟨hg, hgq, hsq⟩ (by omega)
  exact ⟨M1, M3, a1, c1, c2, c3, (a4.trans (f10_77 (by omega))).trans (fq_f10 c4)⟩
theorem rme_rd {M : ZMem} {q : ZRow} (h : RME M q (znet q) 9) : (∀ i, i < 10 → M 86 i = nI (zpaid q i)) ∧ M 77 29 = nI (zleft q) ∧ M 77 28 = nI (zrounds q) := ⟨h.1, h.2.2.1, h.2.2.2⟩
theorem paidAll10 {M : ZMem} {r q : ZRow} {a n : Nat} (h : IR M r) (hw : WF r) (h86 : ∀ i, i < 10 → M 86 i = nI (zpaid q i)) (ha : a < 1024) (hn : 10 < n) : zf_X10_paidAll n (nI a) M = some (nI (zsum (fun i => if a.testBit i then zpaid q i else 0) (r 0))) := by
  have hb := hw.b
  unfold zf_X10_paidAll
  refine zloop (fun m i (x : Nat) => zf_X10_paidAll_L4 M (nI a) (fun v => some v) m (nI x) (nI i)) (zsum (fun i => if a.testBit i then zpaid q i else 0)) _ (r 0) (fun m i hi => ?_) (fun m => ?_) n 0 (Nat.zero_le _) (by omega)
  · show zf_X10_paidAll_L4 M (nI a) _ (m + 1) (nI _) (nI i) = zf_X10_paidAll_L4 M (nI a) _ m (nI _) (nI (i + 1))
    have c86 := h86 i (by omega)
    rw [zsum_s]
    by_cases g1 : a.testBit i = true
    · rw [if_pos g1]
      simp (disch := (first | assumption | omega)) only [zf_X10_paidAll_L4, zf_X10_paidAll_j33, zlp, ↓rd78 h, ↓ev_ifB, ↓ev_iflt, ↓ev_ifle, ↓ev_ifeq, ↓ifp, ↓ifn, ↓ev_b1, ↓ev_b2, ↓ev_put, ↓ev_z0, ↓ev_z1, ↓ev_zB, ↓ev_has9, ↓ev_has10, ↓ev_shl, ↓ev_bit, ↓ev_in, ↓ev_inG, ↓ev_rd, ↓ev_st, decide_eq_true_eq, nI_add, ev_sub, pk_mul, nI_or, nI_xor, zBt, zBf, if_true, if_false, eq_self, Bool.false_eq_true, c86]
    · rw [if_neg g1]
      simp (disch := (first | assumption | omega)) only [zf_X10_paidAll_L4, zf_X10_paidAll_j33, zlp, ↓rd78 h, ↓ev_ifB, ↓ev_iflt, ↓ev_ifle, ↓ev_ifeq, ↓ifp, ↓ifn, ↓ev_b1, ↓ev_b2, ↓ev_put, ↓ev_z0, ↓ev_z1, ↓ev_zB, ↓ev_has9, ↓ev_has10, ↓ev_shl, ↓ev_bit, ↓ev_in, ↓ev_inG, ↓ev_rd, ↓ev_st, decide_eq_true_eq, nI_add, ev_sub, pk_mul, nI_or, nI_xor, zBt, zBf, if_true, if_false, eq_self, Bool.false_eq_true]
  · show zf_X10_paidAll_L4 M (nI a) _ (m + 1) (nI _) (nI (r 0)) = _
    simp (disch := (first | assumption | omega)) only [zf_X10_paidAll_L4, zlp, ↓rd78 h, ↓ev_ifB, ↓ev_iflt, ↓ev_ifle, ↓ev_ifeq, ↓ifp, ↓ifn, ↓ev_b1, ↓ev_b2, ↓ev_put, ↓ev_z0, ↓ev_z1, ↓ev_zB, ↓ev_has9, ↓ev_has10, ↓ev_shl, ↓ev_bit, ↓ev_in, ↓ev_inG, ↓ev_rd, ↓ev_st, decide_eq_true_eq, nI_add, ev_sub, pk_mul, nI_or, nI_xor, zBt, zBf, if_true, if_false, eq_self, Bool.false_eq_true]
