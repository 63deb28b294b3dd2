/-! LAYER 2: who rests, in the reference -/
def FX (M M' : ZMem) : Prop := (∀ k, k ≠ 77 → k ≠ 85 → k ≠ 86 → k ≠ 87 → k ≠ 88 → k ≠ 89 → M' k = M k) ∧ ∀ j, j < 20 → M' 77 j = M 77 j
theorem fx_trans {A B C : ZMem} (h : FX A B) (g : FX B C) : FX A C := ⟨fun k a b c d e f => (g.1 k a b c d e f).trans (h.1 k a b c d e f), fun j hj => (g.2 j hj).trans (h.2 j hj)⟩
theorem fx_77 {M : ZMem} {j : Nat} {x : Int32} (h : 20 ≤ j) : FX M (zwr M 77 j x) := ⟨fun k a _ _ _ _ _ => wrn a, fun i hi => wrj (by omega)⟩
theorem fx_fd {A B : ZMem} (h : FD A B) : FX A B := ⟨fun k a b _ _ _ _ => h.1 k a b, fun j hj => h.2 j (by omega)⟩
theorem fx_fq {A B : ZMem} (h : FQ A B) : FX A B := ⟨fun k a _ b c d e => h.1 k a b c d e, fun j hj => h.2 j (by omega) (by omega)⟩
theorem setsNow10x {M : ZMem} {r : ZRow} {n : Nat} (h : IR M r) (hg : GD r) (hn : 400000000001 < n) : ∃ M1, zf_X10_setsNow n M = some M1 ∧ RQ M1 r r ∧ FX M M1 := by
  have hw := hg.1
  have hb := hw.b
  have hin := inNow10 h hw
  have hinl := zin_lt hw.1
  have hand : zin r &&& r 13 < 1024 := Nat.lt_of_le_of_lt Nat.and_le_left hinl
  have ecn : zset (fun i => (zin r &&& r 13).testBit i && decide (0 < zclaim r i)) (r 0) = zcntS r := zset_congr (fun i hi => by
    rw [Nat.testBit_and, zin_tb]
    unfold zcnt
    simp [hi, Bool.and_comm])
  have hR1 : IR (zwr M 77 21 (nI (zin r))) r := h.congr (wrn (by omega))
  have hco := countedOf10 (n := n) (a := zin r &&& r 13) hR1 hw hand (by omega)
  rw [ecn] at hco
  have hR2 : IR (zwr (zwr M 77 21 (nI (zin r))) 77 22 (nI (zcntS r))) r := hR1.congr (wrn (by omega))
  have hR3 : IR (zwr (zwr (zwr M 77 21 (nI (zin r))) 77 22 (nI (zcntS r))) 77 23 (nI (r 14))) r := hR2.congr (wrn (by omega))
  have hR4 : IR (zwr (zwr (zwr (zwr M 77 21 (nI (zin r))) 77 22 (nI (zcntS r))) 77 23 (nI (r 14))) 77 24 (nI (r 2))) r := hR3.congr (wrn (by omega))
  have hR5 : IR (zwr (zwr (zwr (zwr (zwr M 77 21 (nI (zin r))) 77 22 (nI (zcntS r))) 77 23 (nI (r 14))) 77 24 (nI (r 2))) 77 25 (nI (r 9))) r := hR4.congr (wrn (by omega))
  obtain ⟨M6, e1, e2, e3⟩ := hR5.div hw hinl hn
  have w21 : zwr M 77 21 (nI (zin r)) 77 21 = nI (zin r) := wre
  have x21 : zwr (zwr (zwr (zwr (zwr M 77 21 (nI (zin r))) 77 22 (nI (zcntS r))) 77 23 (nI (r 14))) 77 24 (nI (r 2))) 77 25 (nI (r 9)) 77 21 = nI (zin r) := by rw [wrj (by omega), wrj (by omega), wrj (by omega), wrj (by omega), wre]
  refine ⟨M6, ?_, ⟨hR5.congr (e3.1 78 (by omega) (by omega)), e2.1, e2.2, ?_, ?_, ?_, ?_⟩, ?_⟩
  · simp (disch := (first | assumption | omega)) only [zf_X10_setsNow, zlp, ↓zb1_at hin, ↓ev_put, ↓rd78 hR1, ↓rd78 hR2, ↓rd78 hR3, ↓rd78 hR4, w21, nI_and, ↓zb1_at hco, x21, ↓zb1_at e1]
  · rw [e3.2 22 (by omega), wrj (by omega), wrj (by omega), wrj (by omega), wre]
  · rw [e3.2 23 (by omega), wrj (by omega), wrj (by omega), wre]
  · rw [e3.2 24 (by omega), wrj (by omega), wre]
  · rw [e3.2 25 (by omega), wre]
  · exact fx_trans (fx_trans (fx_trans (fx_trans (fx_trans (fx_77 (by omega)) (fx_77 (by omega))) (fx_77 (by omega))) (fx_77 (by omega))) (fx_77 (by omega))) (fx_fd e3)
theorem fx_f10 {A B : ZMem} (h : FX A B) : F10 A B := ⟨fun k hk => h.1 k (by omega) (by omega) (by omega) (by omega) (by omega) (by omega), h.1 78 (by omega) (by omega) (by omega) (by omega) (by omega) (by omega), h.1 80 (by omega) (by omega) (by omega) (by omega) (by omega) (by omega), h.1 81 (by omega) (by omega) (by omega) (by omega) (by omega) (by omega), h.1 82 (by omega) (by omega) (by omega) (by omega) (by omega) (by omega), h.1 83 (by omega) (by omega) (by omega) (by omega) (by omega) (by omega), h.1 84 (by omega) (by omega) (by omega) (by omega) (by omega) (by omega), h.2 4 (by omega), h.2 6 (by omega), h.2 16 (by omega)⟩
theorem f10_92 {M : ZMem} {j : Nat} {x : Int32} : F10 M (zwr M 92 j x) := ⟨fun k hk => wrn (by omega), wrn (by omega), wrn (by omega), wrn (by omega), wrn (by omega), wrn (by omega), wrn (by omega), by rw [wrn (by omega)], by rw [wrn (by omega)], by rw [wrn (by omega)]⟩
/-- what is noted of the first sets -/
def TBL (M : ZMem) (r : ZRow) (s : Nat) : Prop := ∀ x, x < s → ∀ i, i < r 0 → M 92 (10 * x + i) = nI (zpaid (zifOut r x) i)
theorem table10 {M : ZMem} {r : ZRow} {n : Nat} (hR : IR M r) (hg : GD r) (hn : 400000000001 < n) (K : ZMem → Option (Int32 × ZMem)) : ∀ d s m S, s + d = 2 ^ r 0 → d < m → F10 M S → TBL S r s → ∃ M1, zf_X10_rests_L31 n K m (nI s) S = K M1 ∧ F10 M M1 ∧ TBL M1 r (2 ^ r 0) := by
  have hw := hg.1
  have hb := hw.b
  intro d
  induction d with
  | zero =>
    intro s m S hs hm hF hT
    obtain ⟨m, rfl⟩ : ∃ y, m = y + 1 := ⟨m - 1, by omega⟩
    obtain rfl : s = 2 ^ r 0 := by omega
    have hI : IR S r := hR.congr hF.2.1
    refine ⟨S, ?_, hF, hT⟩
    rw [zf_X10_rests_L31, zb1_at (all10 (hI 0 (by omega)) hw.1), zi_lt (by omega) (by omega), if_pos (by omega)]
  | succ d ih =>
    intro s m S hs hm hF hT
    obtain ⟨m, rfl⟩ : ∃ y, m = y + 1 := ⟨m - 1, by omega⟩
    have hs' : s < 2 ^ r 0 := by omega
    have hI : IR S r := hR.congr hF.2.1
    have hgq := zifOut_gd hg hs'
    have hsq : SQ r (zifOut r s) := zifOut_sq
    have e0 : zifOut r s 0 = r 0 := zifOut_0
    obtain ⟨M46, a1, a2, a3⟩ := setsNow10x (n := n) hI hg hn
    have hnot : nI (2 ^ r 0 - 1) &&& (nI s ^^^ -nI 1) = nI (zin (zifOut r s)) := by
      rw [zin_eq, e0, zifOut_12]
      exact nI_not hw.1
    have hinl : zin (zifOut r s) < 1024 := zin_lt (by rw [e0]; exact hw.1)
    have hI48 : IR (zwr M46 77 21 (nI (zin (zifOut r s)))) r := a2.1.congr (wrn (by omega))
    have hco := countedOf10 (n := n) (a := zin (zifOut r s)) hI48 hw hinl (by omega)
    have ecn : zset (fun i => (zin (zifOut r s)).testBit i && decide (0 < zclaim r i)) (r 0) = zcntS (zifOut r s) := by
      unfold zcntS
      rw [e0]
      refine zset_congr (fun i hi => ?_)
      unfold zcnt
      rw [zin_tb, e0, zifOut_12, zifOut_13, tb_all, sq_claim hsq]
    rw [ecn] at hco
    have hI51 : IR (zwr (zwr (zwr M46 77 21 (nI (zin (zifOut r s)))) 77 22 (nI (zcntS (zifOut r s)))) 77 23 (nI 0)) r := hI48.congr (by rw [wrn (by omega), wrn (by omega)])
    obtain ⟨M52, b1, b2, b3⟩ := hI51.div hw hinl hn
    have w21 : zwr M46 77 21 (nI (zin (zifOut r s))) 77 21 = nI (zin (zifOut r s)) := wre
    have x21 : zwr (zwr (zwr M46 77 21 (nI (zin (zifOut r s)))) 77 22 (nI (zcntS (zifOut r s)))) 77 23 (nI 0) 77 21 = nI (zin (zifOut r s)) := by rw [wrj (by omega), wrj (by omega), wre]
    have hQ : RQ M52 r (zifOut r s) := by
      refine ⟨hI51.congr (b3.1 78 (by omega) (by omega)), ?_, fun j hj => ?_, ?_, ?_, ?_, ?_⟩
      · rw [b2.1, ← sq_dv hsq]; rfl
      · have := b2.2 j hj
        rw [← sq_dv hsq, ← e0] at this
        exact this
      · rw [b3.2 22 (by omega), wrj (by omega), wre]
      · rw [b3.2 23 (by omega), wre, zifOut_14]
      · rw [b3.2 24 (by omega), wrj (by omega), wrj (by omega), wrj (by omega), show zifOut r s 2 = r 2 by unfold zifOut; rw [zat_ne (by omega), zat_ne (by omega), zat_ne (by omega)]]; exact a2.2.2.2.2.2.1
      · rw [b3.2 25 (by omega), wrj (by omega), wrj (by omega), wrj (by omega), show zifOut r s 9 = r 9 by unfold zifOut; rw [zat_ne (by omega), zat_ne (by omega), zat_ne (by omega)]]; exact a2.2.2.2.2.2.2
    obtain ⟨M53, c1, c2, c3, c4⟩ := pays10 (n := n) hQ ⟨hg, hgq, hsq⟩ (by omega)
    have hFX : FX S M53 := fx_trans (fx_trans (fx_trans (fx_trans (fx_trans a3 (fx_77 (by omega))) (fx_77 (by omega))) (fx_77 (by omega))) (fx_fd b3)) (fx_fq c4)
    have c86 := (rme_rd c2).1
    -- the row of the table
    have row : ∀ e i k S2, i + e = r 0 → e < k → (∀ b, b ≠ 92 → S2 b = M53 b) → TBL S2 r s → (∀ j, j < i → S2 92 (10 * s + j) = nI (zpaid (zifOut r s) j)) → ∃ M60, zf_X10_rests_L89 (nI s) (fun M60 => (zf_X10_rests_L31 n K m (nI s + 1) M60)) k (nI i) S2 = zf_X10_rests_L31 n K m (nI s + 1) M60 ∧ (∀ b, b ≠ 92 → M60 b = M53 b) ∧ TBL M60 r (s + 1) := by
      intro e
      induction e with
      | zero =>
        intro i k S2 hi hk h1 h2 h3
        obtain ⟨k, rfl⟩ : ∃ y, k = y + 1 := ⟨k - 1, by omega⟩
        obtain rfl : i = r 0 := by omega
        have hI2 : IR S2 r := c3.1.congr (h1 78 (by omega))
        refine ⟨S2, ?_, h1, fun x hx j hj => ?_⟩
        · rw [zf_X10_rests_L89, hI2.z0, zi_le (by omega) (by omega), if_pos (Nat.le_refl _)]
        · by_cases ex : x = s
          · rw [ex]; exact h3 j hj
          · exact h2 x (by omega) j hj
      | succ e ihe =>
        intro i k S2 hi hk h1 h2 h3
        obtain ⟨k, rfl⟩ : ∃ y, k = y + 1 := ⟨k - 1, by omega⟩
        have hI2 : IR S2 r := c3.1.congr (h1 78 (by omega))
        have d86 : S2 86 i = nI (zpaid (zifOut r s) i) := by rw [h1 86 (by omega)]; exact c86 i (by omega)
        obtain ⟨M60, f1, f2⟩ := ihe (i + 1) k (zwr S2 92 (10 * s + i) (nI (zpaid (zifOut r s) i))) (by omega) (by omega) (fun b hb' => by rw [wrn hb']; exact h1 b hb') (fun x hx j hj => by rw [wrj (by omega)]; exact h2 x hx j hj) (fun j hj => by
          by_cases ej : j = i
          · subst ej; exact wre
          · rw [wrj (by omega)]; exact h3 j (by omega))
        refine ⟨M60, f1 ▸ ?_, f2⟩
        rw [zf_X10_rests_L89, hI2.z0, zi_le (by omega) (by omega), if_neg (by omega), zrd_at i rfl (by omega), d86, show (10 : Int32) = nI 10 from rfl, pk_mul, nI_add, zst_at (10 * s + i) rfl (by omega), nI_1 i]
    obtain ⟨M60, f1, f2, f3⟩ := row (r 0) 0 n M53 (by omega) (by omega) (fun _ _ => rfl) (fun x hx j hj => by rw [hFX.1 92 (by omega) (by omega) (by omega) (by omega) (by omega) (by omega)]; exact hT x hx j hj) (fun j hj => by omega)
    have hF60 : F10 M M60 := by
      refine hF.trans ((fx_f10 hFX).trans ⟨fun k hk => f2 k (by omega), f2 78 (by omega), f2 80 (by omega), f2 81 (by omega), f2 82 (by omega), f2 83 (by omega), f2 84 (by omega), by rw [f2 77 (by omega)], by rw [f2 77 (by omega)], by rw [f2 77 (by omega)]⟩)
    obtain ⟨M1, g1, g2, g3⟩ := ih (s + 1) m M60 (by omega) (by omega) hF60 f3
    refine ⟨M1, g1 ▸ ?_, g2, g3⟩
    rw [nI_1] at f1
    rw [← f1]
    have hal := all10 (hI 0 (by omega)) hw.1
    have hal2 := all10 (a2.1 0 (by omega)) hw.1
    simp (disch := (first | assumption | omega)) only [zf_X10_rests_L31, zlp, ↓zb1_at hal, ↓ev_iflt, ↓ifn, ↓zb1_at a1, ↓zb1_at hal2, ↓ev_put, hnot, w21, ↓zb1_at hco, x21, ↓zb1_at b1, ↓zb1_at c1, nI_add]
theorem alone10 {r : ZRow} (hw : WF r) {odds suit i : Nat} (ho : odds ≤ 100) (hs : suit ≤ 999) (hi : i < r 0) {α : Type} (K : Int32 → α) : (if nI 0 ≤ nI (zclaim r i) * nI odds / nI 100 - nI suit then K (nI (zclaim r i) * nI odds / nI 100 - nI suit) else K (nI 0)) = K (nI (zalone r odds suit i)) := by
  have h1 := zclaim_le hw hi
  have h2 : zclaim r i * odds ≤ 9900 * 100 := Nat.mul_le_mul h1 ho
  rw [pk_mul, pk_div (by omega) (by omega) (by omega)]
  unfold zalone
  by_cases g : suit ≤ zclaim r i * odds / 100
  · rw [pk_sub g, zi_le (by omega) (by omega), if_pos (by omega)]
  · rw [if_neg (show ¬ nI 0 ≤ nI (zclaim r i * odds / 100) - nI suit from fun z => Int32.not_lt.mpr z (pk_sneg (by omega) (by omega))), show zclaim r i * odds / 100 - suit = 0 by omega]
/-- a member is content with how a set stands -/
def zcont (r : ZRow) (odds suit s i : Nat) : Bool := if s.testBit i then decide (zpaid (zifOut r (s ^^^ 2 ^ i)) i ≤ zalone r odds suit i) else decide (zalone r odds suit i ≤ zpaid (zifOut r s) i)
theorem zrst_cont {r : ZRow} {odds suit s : Nat} : zrst r odds suit s = zallF (zcont r odds suit s) (r 0) 0 := by
  rw [zallF_range, ← List.range_eq_range']
  rfl
theorem zandn1 {s i : Nat} (hs : s < 1024) (hi : i < 10) : s &&& ((2 ^ i) ^^^ 1023) = if s.testBit i then s ^^^ 2 ^ i else s := by
  have hp : 2 ^ i < 1024 := zpow_lt (m := 10) hi
  have hx : s ^^^ 2 ^ i < 2 ^ 10 := Nat.xor_lt_two_pow hs hp
  by_cases g : s.testBit i = true
  · rw [if_pos g]
    refine tb_ext (n := 10) (Nat.lt_of_le_of_lt Nat.and_le_left hs) hx (fun j hj => ?_)
    rw [andn_tb hj, Nat.testBit_xor, Nat.testBit_two_pow]
    by_cases e : i = j
    · subst e; rw [g]; simp
    · simp [e]
  · rw [if_neg g]
    refine tb_ext (n := 10) (Nat.lt_of_le_of_lt Nat.and_le_left hs) hs (fun j hj => ?_)
    rw [andn_tb hj, Nat.testBit_two_pow]
    by_cases e : i = j
    · subst e; simp [g]
    · simp [e]
theorem cont10 {M : ZMem} {r : ZRow} {odds suit s n : Nat} (hI : IR M r) (hg : GD r) (hT : TBL M r (2 ^ r 0)) (ho : odds ≤ 100) (hsu : suit ≤ 999) (hs : s < 2 ^ r 0) (hn : 20 < n) (K : Int32 → Option (Int32 × ZMem)) : zf_X10_rests_L153 M (nI odds) (nI suit) (nI s) K n (nI 1) (nI 0) = K (zB (zrst r odds suit s)) := by
  have hw := hg.1
  have hb := hw.b
  have key : ∀ d i m b, i + d = r 0 → d < m → zf_X10_rests_L153 M (nI odds) (nI suit) (nI s) K m (zB b) (nI i) = K (zB (b && zallF (zcont r odds suit s) d i)) := by
    intro d
    induction d with
    | zero =>
      intro i m b hi hm
      obtain ⟨m, rfl⟩ : ∃ y, m = y + 1 := ⟨m - 1, by omega⟩
      rw [zf_X10_rests_L153, hI.z0, zi_le (by omega) (by omega), if_pos (by omega)]
      unfold zallF
      rw [Bool.and_true]
    | succ d ih =>
      intro i m b hi hm
      obtain ⟨m, rfl⟩ : ∃ y, m = y + 1 := ⟨m - 1, by omega⟩
      have hi' : i < r 0 := by omega
      have hcl := claim10 hI hw hi'
      have hst : zf_X10_rests_L153 M (nI odds) (nI suit) (nI s) K (m + 1) (zB b) (nI i) = zf_X10_rests_j190 M (nI s) (nI i) (zB b) (fun x0 x1 => zf_X10_rests_L153 M (nI odds) (nI suit) (nI s) K m x0 x1) (nI (zalone r odds suit i)) := by
        rw [zf_X10_rests_L153, hI.z0, zi_le (by omega) (by omega), if_neg (by omega), zb1_at hcl]
        exact alone10 hw ho hsu hi' (fun x => zf_X10_rests_j190 M (nI s) (nI i) (zB b) (fun x0 x1 => zf_X10_rests_L153 M (nI odds) (nI suit) (nI s) K m x0 x1) x)
      have ba := zalone_le hw (suit := suit) ho hi'
      have hxl : s ^^^ 2 ^ i < 2 ^ r 0 := Nat.xor_lt_two_pow hs (zpow_lt hi')
      have hand : nI s &&& (nI (2 ^ i) ^^^ -nI 1) = nI (if s.testBit i then s ^^^ 2 ^ i else s) := by
        rw [← zandn1 (by omega) (by omega)]
        exact nI_andn (by omega) (zpow_lt (m := 10) (by omega))
      rw [hst, zallF_s, ← Bool.and_assoc, ← ih (i + 1) m _ (by omega) (by omega)]
      unfold zcont
      by_cases g : s.testBit i = true
      · have c92 := hT (s ^^^ 2 ^ i) hxl i hi'
        have bp := zifOut_b hg hxl hi'
        rw [if_pos g] at hand ⊢
        by_cases g2 : zpaid (zifOut r (s ^^^ 2 ^ i)) i ≤ zalone r odds suit i
        · rw [decide_eq_true g2, Bool.and_true]
          cases b with
          | true => simp (disch := (first | assumption | omega)) only [zf_X10_rests_j190, zf_X10_rests_j246, zf_X10_rests_j250, zf_X10_rests_j251, zlp, if_true, ↓ev_ifle, ↓ev_iflt, ↓ev_ifeq, ↓ifp, ↓ifn, ↓ev_shl, hand, pk_mul, nI_add, ↓ev_rd, c92, ↓ev_has10, ↓ev_ifB, zBt, zBf]
          | false => simp (disch := (first | assumption | omega)) only [zf_X10_rests_j190, zf_X10_rests_j246, zf_X10_rests_j250, zf_X10_rests_j251, zlp, if_true, ↓ev_ifle, ↓ev_iflt, ↓ev_ifeq, ↓ifp, ↓ifn, ↓ev_shl, hand, pk_mul, nI_add, ↓ev_rd, c92, ↓ev_has10, ↓ev_ifB, zBt, zBf, Bool.false_eq_true, if_false]
        · rw [decide_eq_false g2, Bool.and_false]
          cases b with
          | true => simp (disch := (first | assumption | omega)) only [zf_X10_rests_j190, zf_X10_rests_j246, zf_X10_rests_j250, zf_X10_rests_j251, zlp, if_true, ↓ev_ifle, ↓ev_iflt, ↓ev_ifeq, ↓ifp, ↓ifn, ↓ev_shl, hand, pk_mul, nI_add, ↓ev_rd, c92, ↓ev_has10, ↓ev_ifB, zBt, zBf]
          | false => simp (disch := (first | assumption | omega)) only [zf_X10_rests_j190, zf_X10_rests_j246, zf_X10_rests_j250, zf_X10_rests_j251, zlp, if_true, ↓ev_ifle, ↓ev_iflt, ↓ev_ifeq, ↓ifp, ↓ifn, ↓ev_shl, hand, pk_mul, nI_add, ↓ev_rd, c92, ↓ev_has10, ↓ev_ifB, zBt, zBf, Bool.false_eq_true, if_false]
      · have c92 := hT s hs i hi'
        have bp := zifOut_b hg hs hi'
        rw [if_neg g] at hand ⊢
        by_cases g2 : zalone r odds suit i ≤ zpaid (zifOut r s) i
        · rw [decide_eq_true g2, Bool.and_true]
          cases b with
          | true => simp (disch := (first | assumption | omega)) only [zf_X10_rests_j190, zf_X10_rests_j246, zf_X10_rests_j250, zf_X10_rests_j251, zlp, if_true, ↓ev_ifle, ↓ev_iflt, ↓ev_ifeq, ↓ifp, ↓ifn, ↓ev_shl, hand, pk_mul, nI_add, ↓ev_rd, c92, ↓ev_has10, ↓ev_ifB, zBt, zBf]
          | false => simp (disch := (first | assumption | omega)) only [zf_X10_rests_j190, zf_X10_rests_j246, zf_X10_rests_j250, zf_X10_rests_j251, zlp, if_true, ↓ev_ifle, ↓ev_iflt, ↓ev_ifeq, ↓ifp, ↓ifn, ↓ev_shl, hand, pk_mul, nI_add, ↓ev_rd, c92, ↓ev_has10, ↓ev_ifB, zBt, zBf, Bool.false_eq_true, if_false]
        · rw [decide_eq_false g2, Bool.and_false]
          cases b with
          | true => simp (disch := (first | assumption | omega)) only [zf_X10_rests_j190, zf_X10_rests_j246, zf_X10_rests_j250, zf_X10_rests_j251, zlp, if_true, ↓ev_ifle, ↓ev_iflt, ↓ev_ifeq, ↓ifp, ↓ifn, ↓ev_shl, hand, pk_mul, nI_add, ↓ev_rd, c92, ↓ev_has10, ↓ev_ifB, zBt, zBf]
          | false => simp (disch := (first | assumption | omega)) only [zf_X10_rests_j190, zf_X10_rests_j246, zf_X10_rests_j250, zf_X10_rests_j251, zlp, if_true, ↓ev_ifle, ↓ev_iflt, ↓ev_ifeq, ↓ifp, ↓ifn, ↓ev_shl, hand, pk_mul, nI_add, ↓ev_rd, c92, ↓ev_has10, ↓ev_ifB, zBt, zBf, Bool.false_eq_true, if_false]
  rw [zrst_cont]
  have := key (r 0) 0 n true (by omega) (by omega)
  rw [Bool.true_and] at this
  exact this
theorem zrf_pre {r : ZRow} {odds suit s k : Nat} (h : k < (zrf r odds suit s).length) : ∀ d, (zrf r odds suit (s + d)).getD k 0 = (zrf r odds suit s).getD k 0 ∧ k < (zrf r odds suit (s + d)).length
  | 0 => ⟨rfl, h⟩
  | d + 1 => by
    obtain ⟨h1, h2⟩ := zrf_pre h d
    show (zrf r odds suit (s + d + 1)).getD k 0 = _ ∧ k < (zrf r odds suit (s + d + 1)).length
    rw [zrf_s]
    by_cases g : zrst r odds suit (s + d) = true
    · rw [if_pos g, zgetD_l h2, zlen_1]; exact ⟨h1, by omega⟩
    · rw [if_neg g]; exact ⟨h1, h2⟩
theorem rests138 {M : ZMem} {r : ZRow} {odds suit n : Nat} {k : Option Nat} (hI : IR M r) (hg : GD r) (hT : TBL M r (2 ^ r 0)) (ho : odds ≤ 100) (hsu : suit ≤ 999) (hk : ∀ j, k = some j → j < 2147483648) (hn : 20 < n) : ∀ d s m, s + d = 2 ^ r 0 → d < m → (∀ j, k = some j → (zrf r odds suit s).length ≤ j) → zf_X10_rests_L138 M (nI odds) (nI suit) (zoI1 k) n (fun v77 => (if zoI1 k = -nI 1 then (zf_X10_rests_j294 M v77) else (zf_X10_rests_j294 M (-nI 2)))) m (nI (zrf r odds suit s).length) (nI s) = some (zrans r odds suit k, M) := by
  have hw := hg.1
  have hb := hw.b
  have hal := all10 (hI 0 (by omega)) hw.1
  intro d
  induction d with
  | zero =>
    intro s m hs hm hl
    obtain ⟨m, rfl⟩ : ∃ y, m = y + 1 := ⟨m - 1, by omega⟩
    obtain rfl : s = 2 ^ r 0 := by omega
    rw [zf_X10_rests_L138, zb1_at hal, zi_lt (by omega) (by omega), if_pos (by omega)]
    cases k with
    | none => rfl
    | some k =>
      have h1 := hl k rfl
      show (if nI k = -nI 1 then _ else _) = some (if (zrests r odds suit).length ≤ k then -nI 2 else nI ((zrests r odds suit).getD k 0), M)
      rw [m1_eq (hk k rfl), zrests_eq, if_pos h1]
      rfl
  | succ d ih =>
    intro s m hs hm hl
    obtain ⟨m, rfl⟩ : ∃ y, m = y + 1 := ⟨m - 1, by omega⟩
    have hs' : s < 2 ^ r 0 := by omega
    have hlen := zrf_len r odds suit s
    rw [zf_X10_rests_L138, zb1_at hal, zi_lt (by omega) (by omega), if_neg (by omega)]
    refine (cont10 (n := n) hI hg hT ho hsu hs' hn _).trans ?_
    have e := zrf_s r odds suit s
    unfold zf_X10_rests_j276
    cases g : zrst r odds suit s with
    | false =>
      rw [g, if_neg (by decide)] at e
      rw [if_pos (show zB false = 0 from rfl), nI_1 s, ← e]
      exact ih (s + 1) m (by omega) (by omega) (fun j hj => by rw [e]; exact hl j hj)
    | true =>
      rw [g, if_pos rfl] at e
      have elen : (zrf r odds suit (s + 1)).length = (zrf r odds suit s).length + 1 := by rw [e, zlen_1]
      rw [if_neg (show ¬ zB true = 0 by decide), nI_1, nI_1, ← elen]
      cases k with
      | none =>
        rw [if_neg (fun z => zneg_ne (show -nI 1 < nI 0 by decide) (show (zrf r odds suit s).length < 2147483648 by omega) z.symm)]
        exact ih (s + 1) m (by omega) (by omega) (fun j hj => by cases hj)
      | some k =>
        have h1 := hl k rfl
        have hk' := hk k rfl
        show (if nI (zrf r odds suit s).length = nI k then _ else _) = _
        rw [zi_eq (by omega) hk']
        by_cases ek : (zrf r odds suit s).length = k
        · rw [if_pos ek]
          have h2 : k < (zrf r odds suit (s + 1)).length := by omega
          obtain ⟨p1, p2⟩ := zrf_pre h2 (2 ^ r 0 - (s + 1))
          rw [show s + 1 + (2 ^ r 0 - (s + 1)) = 2 ^ r 0 by omega] at p1 p2
          show some (nI s, M) = some (if (zrests r odds suit).length ≤ k then -nI 2 else nI ((zrests r odds suit).getD k 0), M)
          rw [zrests_eq, if_neg (by omega), p1, e, ← ek, zgetD_r]
        · rw [if_neg ek]
          exact ih (s + 1) m (by omega) (by omega) (fun j hj => by cases hj; omega)
theorem rests10 {M : ZMem} {r : ZRow} {odds suit n : Nat} {k : Option Nat} (hI : IR M r) (hg : GD r) (ho : odds ≤ 100) (hsu : suit ≤ 999) (hk : ∀ j, k = some j → j < 2147483648) (hn : 400000000001 < n) : ∃ M1, zf_X10_rests n (nI odds) (nI suit) (zoI1 k) M = some (zrans r odds suit k, M1) ∧ F10 M M1 := by
  have hb := hg.1.b
  have hge := fun (A B : Option (Int32 × ZMem)) => ge_m1 hk A B
  obtain ⟨M1, a1, a2, a3⟩ := table10 (n := n) hI hg hn (fun M61 => (zf_X10_rests_L138 M61 (nI odds) (nI suit) (zoI1 k) n (fun v77 => (if zoI1 k = (-nI 1) then (zf_X10_rests_j294 M61 v77) else (zf_X10_rests_j294 M61 (-nI 2)))) n (nI 0) (nI 0))) (2 ^ r 0) 0 n M (by omega) (by omega) (F10.refl M) (fun x hx => by omega)
  have b1 := rests138 (n := n) (k := k) (odds := odds) (suit := suit) (hI.congr a2.2.1) hg a3 ho hsu hk (by omega) (2 ^ r 0) 0 n (by omega) (by omega) (fun j _ => Nat.zero_le _)
  refine ⟨M1, ?_, a2⟩
  rw [← b1]
  simp (disch := (first | assumption | omega)) only [zf_X10_rests, zf_X10_rests_j26, zlp, ↓ev_ifB, ↓ev_iflt, ↓ev_ifle, ↓ev_ifeq, ↓ifp, ↓ifn, ↓ev_b1, ↓ev_b2, ↓ev_put, ↓ev_z0, ↓ev_z1, ↓ev_zB, ↓ev_has9, ↓ev_has10, ↓ev_shl, ↓ev_bit, ↓ev_in, ↓ev_inG, ↓ev_rd, ↓ev_st, decide_eq_true_eq, nI_add, ev_sub, pk_mul, nI_or, nI_xor, zBt, zBf, if_true, if_false, eq_self, Bool.false_eq_true, ↓hge]
  exact a1
theorem zneg1 {a : Int32} (h : a < nI 0) : a = -nI 1 ∨ ∀ {α : Type} (A B : α), (if -nI 1 ≤ a then A else B) = B := by
  by_cases e : a = -nI 1
  · exact Or.inl e
  · refine Or.inr (fun A B => if_neg (fun z => e ?_))
    have h1 := Int32.lt_iff_toInt_lt.mp h
    have h2 := Int32.le_iff_toInt_le.mp z
    have h3 : (-nI 1).toInt = -1 := rfl
    have h4 : (nI 0).toInt = 0 := rfl
    exact Int32.toInt_inj.mp (by omega)
theorem op_rests {n : Nat} (hn : 400000000001 < n) {M : ZMem} (hI : INV M) (a b c : Int32) : OPW (zf_X9_rests n a b c) (zf_X10_rests n a b c) M := by
  obtain ⟨t, nx, r, u, U, T, L, hS, hC, hM⟩ := id hI
  cases hz : zmem 101 a with
  | false =>
    refine OPW.same (-nI 1) ?_ ?_ hI
    · simp (disch := (first | assumption | omega)) only [zf_X9_rests, zf_X9_rests_j23, zlp, ↓zb1_at (isHund9 a), hz, ↓ev_ifB, ↓ev_ifeq, ↓ifp, ↓ifn, zBt, zBf, if_true, if_false, eq_self, Bool.false_eq_true]
    · simp (disch := (first | assumption | omega)) only [zf_X10_rests, zf_X10_rests_j26, zlp, ↓zb1_at (isInZ a (show 100 < 2147483647 by omega)), hz, ↓ev_ifB, ↓ev_ifeq, ↓ifp, ↓ifn, zBt, zBf, if_true, if_false, eq_self, Bool.false_eq_true]
  | true =>
    obtain ⟨odds, ho, rfl⟩ := zmem_of hz
    have hhu : zf_X9_isHundredths (nI odds) = some (nI 1) := by rw [isHund9, hz]; rfl
    cases hz2 : zmem 1000 b with
    | false =>
      refine OPW.same (-nI 1) ?_ ?_ hI
      · rcases zmem_false hz2 with hb' | ⟨w, hw1, hw2, rfl⟩
        · simp (disch := (first | assumption | omega)) only [zf_X9_rests, zf_X9_rests_j23, zlp, ↓zb1_at hhu, ↓ev_ifB, ↓ev_iflt, ↓ev_ifle, ↓ev_ifeq, ↓ifp, ↓ifn, ↓ev_b1, ↓ev_b2, ↓ev_put, ↓ev_z0, ↓ev_z1, ↓ev_zB, ↓ev_has9, ↓ev_has10, ↓ev_shl, ↓ev_bit, ↓ev_in, ↓ev_inG, ↓ev_rd, ↓ev_st, decide_eq_true_eq, nI_add, ev_sub, pk_mul, nI_or, nI_xor, zBt, zBf, if_true, if_false, eq_self, Bool.false_eq_true, ↓in1]
        · simp (disch := (first | assumption | omega)) only [zf_X9_rests, zf_X9_rests_j23, zlp, ↓zb1_at hhu, ↓ev_ifB, ↓ev_iflt, ↓ev_ifle, ↓ev_ifeq, ↓ifp, ↓ifn, ↓ev_b1, ↓ev_b2, ↓ev_put, ↓ev_z0, ↓ev_z1, ↓ev_zB, ↓ev_has9, ↓ev_has10, ↓ev_shl, ↓ev_bit, ↓ev_in, ↓ev_inG, ↓ev_rd, ↓ev_st, decide_eq_true_eq, nI_add, ev_sub, pk_mul, nI_or, nI_xor, zBt, zBf, if_true, if_false, eq_self, Bool.false_eq_true]
      · simp (disch := (first | assumption | omega)) only [zf_X10_rests, zf_X10_rests_j26, zlp, ↓zb1_at (isInZ _ (show 100 < 2147483647 by omega)), ↓zb1_at (isInZ b (show 999 < 2147483647 by omega)), hz, hz2, ↓ev_ifB, ↓ev_ifeq, ↓ifp, ↓ifn, zBt, zBf, if_true, if_false, eq_self, Bool.false_eq_true]
    | true =>
      obtain ⟨suit, hsu, rfl⟩ := zmem_of hz2
      have good : ∀ k : Option Nat, (∀ j, k = some j → j < 2147483648) → OPW (zf_X9_rests n (nI odds) (nI suit) (zoI1 k)) (zf_X10_rests n (nI odds) (nI suit) (zoI1 k)) M := fun k hk => by
        obtain ⟨M1, e1, e2, e3⟩ := rests9 (n := n) (odds := odds) (suit := suit) (k := k) hC hS.1 (by omega) (by omega) hk (by omega)
        refine OPW.of (t := t) (nx := nx) hM hS ⟨M1, e1, e2, e3⟩ (fun M1 hM1 => ?_)
        obtain ⟨M2, f1, f2⟩ := rests10 (n := n) (odds := odds) (suit := suit) (k := k) hM1.1 hS.1 (by omega) (by omega) hk hn
        exact ⟨M2, f1, hM1.f10 f2, f2.1⟩
      rcases zint c with hc | ⟨k, hk, rfl⟩
      · rcases zneg1 hc with rfl | hng
        · exact good none (fun j hj => by cases hj)
        · have hng' := fun (A B : Option (Int32 × ZMem)) => hng A B
          refine OPW.same (-nI 1) ?_ ?_ hI
          · simp (disch := (first | assumption | omega)) only [zf_X9_rests, zf_X9_rests_j23, zlp, ↓zb1_at hhu, ↓ev_ifB, ↓ev_iflt, ↓ev_ifle, ↓ev_ifeq, ↓ifp, ↓ifn, ↓ev_b1, ↓ev_b2, ↓ev_put, ↓ev_z0, ↓ev_z1, ↓ev_zB, ↓ev_has9, ↓ev_has10, ↓ev_shl, ↓ev_bit, ↓ev_in, ↓ev_inG, ↓ev_rd, ↓ev_st, decide_eq_true_eq, nI_add, ev_sub, pk_mul, nI_or, nI_xor, zBt, zBf, if_true, if_false, eq_self, Bool.false_eq_true, ↓hng']
          · simp (disch := (first | assumption | omega)) only [zf_X10_rests, zf_X10_rests_j26, zlp, ↓zb1_at (isInZ _ (show 100 < 2147483647 by omega)), ↓zb1_at (isInZ _ (show 999 < 2147483647 by omega)), hz, hz2, ↓ev_ifB, ↓ev_ifeq, ↓ifp, ↓ifn, zBt, zBf, if_true, if_false, eq_self, Bool.false_eq_true, ↓hng']
      · exact good (some k) (fun j hj => by cases hj; exact hk)
