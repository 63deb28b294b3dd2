/-! LAYER 2: who rests (2) -/
theorem find98 {M M45 : ZMem} {t nx u n : Nat} {r : ZRow} {U : Nat → ZRow} {T : ZT} {L : ZL} {odds suit : Nat} (hC : IC M t nx r u U T L) (hg : GD r) (ho : odds ≤ 100) (h45 : M45 t 0 = nI (r 0)) (hn : 100 < n) : ∀ d s m S, s + d = 2 ^ r 0 → d < m → RSI M S t r odds suit s → ∃ M1, zf_X5_find_L98 M45 t 14 n (fun M59 => some M59) m (nI s) S = some M1 ∧ RSI M M1 t r odds suit (2 ^ r 0) := by
  have hw := hg.1
  have hb := hw.b
  have ht := hC.t
  intro d
  induction d with
  | zero =>
    intro s m S hs hm hR
    obtain ⟨m, rfl⟩ : ∃ y, m = y + 1 := ⟨m - 1, by omega⟩
    obtain rfl : s = 2 ^ r 0 := by omega
    refine ⟨S, ?_, hR⟩
    rw [zf_X5_find_L98, h45, zpow (r 0) (by omega), zi_le (by omega) (by omega), if_pos (Nat.le_refl _)]
  | succ d ih =>
    intro s m S hs hm hR
    obtain ⟨m, rfl⟩ : ∃ y, m = y + 1 := ⟨m - 1, by omega⟩
    have hs' : s < 2 ^ r 0 := by omega
    obtain ⟨⟨x, s1⟩, s2, s3, s4, s5, s6, s7, s8, s9, s10, s11, s12⟩ := id hR
    have hgq := zifOut_gd hg hs'
    have hta : TA r (zifOut r s) := sq_ta zifOut_sq
    have ebase0 : zat (zbase r) 12 x 0 = r 0 := by unfold zbase; rw [zat_ne (by omega), zat_ne (by omega), zat_ne (by omega)]
    have hSD : SDc (zwr S 14 4 (nI s)) 14 (zifOut r s) := by
      have := s1.put (by rw [ebase0]; exact hw.1) 4 12 s (by simp)
      rw [zat_at, ← zifOut_eq] at this
      exact this
    have hTD : TD (zwr S 14 4 (nI s)) t (zifOut r s) := (hC.2.2.1.congr (fun k b c => by rw [wrn (by omega)]; exact s9 k (by unfold zkeep; omega))).ta hw hta
    obtain ⟨M52, e1, e2, e3⟩ := pay3 (n := n) (q := zifOut r s) ⟨hTD, hSD, hgq, ht, Or.inr rfl⟩ hn
    have c69 := (pay_rd e2).2.2.2.2.2.2.1
    have t52 : M52 t 0 = nI (r 0) := by rw [e3.1 t (by omega), wrn (by omega), s9 t (by unfold zkeep; omega)]; exact hC.2.2.1.1
    have k52 : ∀ k, 71 ≤ k → M52 k = S k := fun k hk => by rw [e3.1 k (by omega), wrn (by omega)]
    obtain ⟨M54, f1, f2, f3, f4⟩ := weigh5 (n := n) (M := M52) (odds := odds) (suit := suit) hg hs' ho c69 (fun i hi => by rw [k52 74 (by omega)]; exact s2 i hi) (by omega)
    have t54 : M54 t 0 = nI (r 0) := by rw [f4 t (by omega)]; exact t52
    have hcm := comes5 (n := n) (M := M54) (odds := odds) (suit := suit) hw hs' (fun y hy => by
      by_cases e : y = s
      · rw [e]; exact f2
      · rw [f3 y e, k52 73 (by omega)]; exact s3 y (by omega)) (by omega)
    -- what holds behind the weighing, whatever comes next
    have hsd54 : SDc M54 14 (zat (zbase r) 12 s) := by
      rw [← zifOut_eq]
      exact hSD.congr (by rw [f4 14 (by omega), e3.1 14 (by omega)]) (by rw [f4 15 (by omega), e3.1 15 (by omega)])
    have k54 : ∀ k, 71 ≤ k → k ≠ 73 → M54 k = S k := fun k hk hk2 => by rw [f4 k hk2]; exact k52 k hk
    have keep54 : ∀ k, zkeep k → M54 k = M k := fun k hk => by
      have hk' := hk
      unfold zkeep at hk'
      rw [f4 k (by omega), e3.1 k (by omega), wrn (by omega)]
      exact s9 k hk
    have h73 : ∀ y, y < s + 1 → M54 73 y = nI (zglad r odds suit y) := fun y hy => by
      by_cases e : y = s
      · rw [e]; exact f2
      · rw [f3 y e, k52 73 (by omega)]; exact s3 y (by omega)
    have hlen := zrf_len r odds suit s
    have l57 : M54 57 7 = M 57 7 ∧ M54 57 8 = M 57 8 := ⟨by rw [f4 57 (by omega), e3.2.1, wrn (by omega)]; exact s10, by rw [f4 57 (by omega), e3.2.2, wrn (by omega)]; exact s11⟩
    have hi77 : ∀ k, 77 ≤ k → M54 k = M k := fun k hk => by rw [k54 k (by omega) (by omega)]; exact s12 k hk
    have c713 : M54 71 3 = nI (zrf r odds suit s).length := by rw [k54 71 (by omega) (by omega)]; exact s7
    by_cases g : zrst r odds suit s = true
    · have hall := g
      rw [zrst_all, Bool.and_eq_true] at hall
      have hRS : RSI M (zwr (zwr M54 72 (zrf r odds suit s).length (nI s)) 71 3 (nI ((zrf r odds suit s).length + 1))) t r odds suit (s + 1) := by
        refine ⟨⟨s, hsd54.congr (by rw [wrn (by omega), wrn (by omega)]) (by rw [wrn (by omega), wrn (by omega)])⟩, fun i hi => by rw [wrn (by omega), wrn (by omega), k54 74 (by omega) (by omega)]; exact s2 i hi, fun y hy => by rw [wrn (by omega), wrn (by omega)]; exact h73 y hy, ?_, ?_, ?_, ?_, fun k hk => ?_, fun k hk => ?_, ?_, ?_, fun k hk => ?_⟩
        · rw [wrj (by omega), wrn (by omega), k54 71 (by omega) (by omega)]; exact s4
        · rw [wrj (by omega), wrn (by omega), k54 71 (by omega) (by omega)]; exact s5
        · rw [wrj (by omega), wrn (by omega), k54 71 (by omega) (by omega)]; exact s6
        · rw [wre, zrf_s, if_pos g, zlen_1]
        · rw [zrf_s, if_pos g, zlen_1] at hk
          rw [wrn (by omega), zrf_s, if_pos g]
          by_cases e : k = (zrf r odds suit s).length
          · rw [e, wre, zgetD_r]
          · rw [wrj e, zgetD_l (by omega), k54 72 (by omega) (by omega)]
            exact s8 k (by omega)
        · have hk' := hk
          unfold zkeep at hk'
          rw [wrn (by omega), wrn (by omega)]; exact keep54 k hk
        · rw [wrn (by omega), wrn (by omega)]; exact l57.1
        · rw [wrn (by omega), wrn (by omega)]; exact l57.2
        · rw [wrn (by omega), wrn (by omega)]; exact hi77 k hk
      obtain ⟨M1, g1, g2⟩ := ih (s + 1) m _ (by omega) (by omega) hRS
      refine ⟨M1, g1 ▸ ?_, g2⟩
      rw [hall.1] at f1
      rw [hall.2] at hcm
      have w713 : zwr M54 72 (zrf r odds suit s).length (nI s) 71 3 = nI (zrf r odds suit s).length := by rw [wrn (by omega)]; exact c713
      simp (disch := (first | assumption | omega)) only [zf_X5_find_L98, zf_X5_find_j168, zlp, h45, ↓ev_shl, ↓ev_ifle, ↓ifp, ↓ifn, ↓ev_put, ↓zb1_at e1, t52, f1, ↓ev_b2, ↓ev_ifB, eq_self, if_true, t54, ↓zb1_at hcm, c713, ↓ev_st, w713, nI_add]
    · have hRS : RSI M M54 t r odds suit (s + 1) := by
        refine ⟨⟨s, hsd54⟩, fun i hi => by rw [k54 74 (by omega) (by omega)]; exact s2 i hi, h73, by rw [k54 71 (by omega) (by omega)]; exact s4, by rw [k54 71 (by omega) (by omega)]; exact s5, by rw [k54 71 (by omega) (by omega)]; exact s6, by rw [zrf_s, if_neg g]; exact c713, fun k hk => ?_, keep54, l57.1, l57.2, hi77⟩
        rw [zrf_s, if_neg g] at hk ⊢
        rw [k54 72 (by omega) (by omega)]
        exact s8 k hk
      obtain ⟨M1, g1, g2⟩ := ih (s + 1) m _ (by omega) (by omega) hRS
      refine ⟨M1, g1 ▸ ?_, g2⟩
      rw [zrst_all] at g
      cases hca : zallF (zcalm r odds suit s) (r 0) 0 with
      | false =>
        rw [hca] at f1
        simp (disch := (first | assumption | omega)) only [zf_X5_find_L98, zf_X5_find_j168, zlp, h45, ↓ev_shl, ↓ev_ifle, ↓ifp, ↓ifn, ↓ev_put, ↓zb1_at e1, t52, f1, ↓ev_b2, ↓ev_ifB, Bool.false_eq_true, if_false, nI_add]
      | true =>
        cases hno : zallF (znone r odds suit s) (r 0) 0 with
        | true => rw [hca, hno] at g; exact absurd rfl g
        | false =>
          rw [hca] at f1
          rw [hno] at hcm
          simp (disch := (first | assumption | omega)) only [zf_X5_find_L98, zf_X5_find_j168, zlp, h45, ↓ev_shl, ↓ev_ifle, ↓ifp, ↓ifn, ↓ev_put, ↓zb1_at e1, t52, f1, ↓ev_b2, ↓ev_ifB, eq_self, if_true, t54, ↓zb1_at hcm, Bool.false_eq_true, if_false, nI_add]
theorem find5 {M : ZMem} {t nx u n : Nat} {r : ZRow} {U : Nat → ZRow} {T : ZT} {L : ZL} {odds suit : Nat} (hC : IC M t nx r u U T L) (hg : GD r) (ho : odds ≤ 100) (hsu : suit ≤ 999) (hn : 2000 < n) : ∃ M1, zf_X5_find n t 14 (nI odds) (nI suit) (zcpS M 14 12) = some M1 ∧ RSI M M1 t r odds suit (2 ^ r 0) := by
  have hw := hg.1
  have hb := hw.b
  have ht := hC.t
  have hsd := cpS_sd hC.2.2.2.1
  have hev : ∀ k, k ≠ 14 → k ≠ 15 → k ≠ 71 → k ≠ 74 → ∀ S : ZMem, (∀ k, k ≠ 74 → S k = zwr (zwr (zwr (zwr (zcpS M 14 12) 71 0 (nI 1)) 71 1 (nI odds)) 71 2 (nI suit)) 71 3 (nI 0) k) → S k = M k := fun k a b c d S hS => by rw [hS k d, wrn c, wrn c, wrn c, wrn c, zcpS_ne a b]
  have loop : ∀ (K : ZMem → Option ZMem), ∃ M1, zf_X5_find_L25 t 14 K n (nI 0) (zwr (zwr (zwr (zwr (zcpS M 14 12) 71 0 (nI 1)) 71 1 (nI odds)) 71 2 (nI suit)) 71 3 (nI 0)) = K M1 ∧ (∀ i, i < r 0 → M1 74 i = nI (zalone r odds suit i)) ∧ ∀ k, k ≠ 74 → M1 k = zwr (zwr (zwr (zwr (zcpS M 14 12) 71 0 (nI 1)) 71 1 (nI odds)) 71 2 (nI suit)) 71 3 (nI 0) k := by
    intro K
    have key : ∀ d i m S, i + d = r 0 → d < m → (∀ j, j < i → S 74 j = nI (zalone r odds suit j)) → (∀ k, k ≠ 74 → S k = zwr (zwr (zwr (zwr (zcpS M 14 12) 71 0 (nI 1)) 71 1 (nI odds)) 71 2 (nI suit)) 71 3 (nI 0) k) → ∃ M1, zf_X5_find_L25 t 14 K m (nI i) S = K M1 ∧ (∀ i, i < r 0 → M1 74 i = nI (zalone r odds suit i)) ∧ ∀ k, k ≠ 74 → M1 k = zwr (zwr (zwr (zwr (zcpS M 14 12) 71 0 (nI 1)) 71 1 (nI odds)) 71 2 (nI suit)) 71 3 (nI 0) k := by
      intro d
      induction d with
      | zero =>
        intro i m S hi hm h1 h2
        obtain ⟨m, rfl⟩ : ∃ y, m = y + 1 := ⟨m - 1, by omega⟩
        obtain rfl : i = r 0 := by omega
        have t0 : S t 0 = nI (r 0) := by rw [hev t (by omega) (by omega) (by omega) (by omega) S h2]; exact hC.2.2.1.1
        refine ⟨S, ?_, h1, h2⟩
        rw [zf_X5_find_L25, t0, zi_le (by omega) (by omega), if_pos (Nat.le_refl _)]
      | succ d ih =>
        intro i m S hi hm h1 h2
        obtain ⟨m, rfl⟩ : ∃ y, m = y + 1 := ⟨m - 1, by omega⟩
        have hi' : i < r 0 := by omega
        have t0 : S t 0 = nI (r 0) := by rw [hev t (by omega) (by omega) (by omega) (by omega) S h2]; exact hC.2.2.1.1
        have hTD : TD S t r := hC.2.2.1.congr (fun k b c => hev k (by omega) (by omega) (by omega) (by omega) S h2)
        have hSD : SD S 14 r := hsd.1.congr (by rw [h2 14 (by omega), wrn (by omega), wrn (by omega), wrn (by omega), wrn (by omega)]) (by rw [h2 15 (by omega), wrn (by omega), wrn (by omega), wrn (by omega), wrn (by omega)])
        have hcl := claim7 hTD hSD hw hi'
        have c1 : S 71 1 = nI odds := by rw [h2 71 (by omega), wrj (by omega), wrj (by omega), wre]
        have c2 : S 71 2 = nI suit := by rw [h2 71 (by omega), wrj (by omega), wre]
        have hal := zz_alone hw ho hsu hi'
        obtain ⟨M1, f1, f2⟩ := ih (i + 1) m (zwr S 74 i (nI (zalone r odds suit i))) (by omega) (by omega) (fun j hj => by
          by_cases e : j = i
          · subst e; exact wre
          · rw [wrj e]; exact h1 j (by omega)) (fun k hk => by rw [wrn hk]; exact h2 k hk)
        refine ⟨M1, f1 ▸ ?_, f2⟩
        rw [zf_X5_find_L25, t0, zi_le (by omega) (by omega), if_neg (by omega), zb1_at hcl, c1, c2, show (0 : Int32) = nI 0 from rfl, show (100 : Int32) = nI 100 from rfl, hal, zst_at i rfl (by omega), nI_1]
    exact key (r 0) 0 n _ (by omega) (by omega) (fun j hj => by omega) (fun _ _ => rfl)
  obtain ⟨M45, a1, a2, a3⟩ := loop (fun M45 => zput M45 14 5 (((1 : Int32) <<< ((M45 t 0) &&& 31)) - (1 : Int32)) (fun M46 => zput M46 14 6 (0 : Int32) (fun M47 => (zf_X5_find_L98 M45 t 14 n (fun M59 => some M59) n (0 : Int32) M47))))
  have h45 : M45 t 0 = nI (r 0) := by rw [hev t (by omega) (by omega) (by omega) (by omega) M45 a3]; exact hC.2.2.1.1
  have hsd45 : SDc M45 14 r := hsd.congr (by rw [a3 14 (by omega), wrn (by omega), wrn (by omega), wrn (by omega), wrn (by omega)]) (by rw [a3 15 (by omega), wrn (by omega), wrn (by omega), wrn (by omega), wrn (by omega)])
  have hsd47 : SDc (zwr (zwr M45 14 5 (nI (2 ^ r 0 - 1))) 14 6 (nI 0)) 14 (zat (zbase r) 12 (r 12)) := by
    have h1 := (hsd45.put hw.1 5 13 (2 ^ r 0 - 1) (by simp)).put (by rw [zat_ne (by omega)]; exact hw.1) 6 14 0 (by simp)
    have e : zat (zbase r) 12 (r 12) = zbase r := by
      funext j
      unfold zat
      by_cases h : j = 12
      · rw [if_pos h, h]; unfold zbase; rw [zat_ne (by omega), zat_ne (by omega)]
      · rw [if_neg h]
    rw [e]
    exact h1
  have hR : RSI M (zwr (zwr M45 14 5 (nI (2 ^ r 0 - 1))) 14 6 (nI 0)) t r odds suit 0 := by
    have k : ∀ k, k ≠ 14 → zwr (zwr M45 14 5 (nI (2 ^ r 0 - 1))) 14 6 (nI 0) k = M45 k := fun k hk => by rw [wrn hk, wrn hk]
    refine ⟨⟨_, hsd47⟩, fun i hi => by rw [k 74 (by omega)]; exact a2 i hi, fun x hx => by omega, ?_, ?_, ?_, ?_, fun j hj => ?_, fun j hj => ?_, ?_, ?_, fun j hj => ?_⟩
    · rw [k 71 (by omega), a3 71 (by omega), wrj (by omega), wrj (by omega), wrj (by omega), wre]
    · rw [k 71 (by omega), a3 71 (by omega), wrj (by omega), wrj (by omega), wre]
    · rw [k 71 (by omega), a3 71 (by omega), wrj (by omega), wre]
    · rw [k 71 (by omega), a3 71 (by omega), wre]; rfl
    · have : (zrf r odds suit 0).length = 0 := rfl
      omega
    · unfold zkeep at hj
      rw [k j (by omega)]; exact hev j (by omega) (by omega) (by omega) (by omega) M45 a3
    · rw [k 57 (by omega), hev 57 (by omega) (by omega) (by omega) (by omega) M45 a3]
    · rw [k 57 (by omega), hev 57 (by omega) (by omega) (by omega) (by omega) M45 a3]
    · rw [k j (by omega)]; exact hev j (by omega) (by omega) (by omega) (by omega) M45 a3
  obtain ⟨M1, b1, b2⟩ := find98 (n := n) (M45 := M45) hC hg ho h45 (by omega) (2 ^ r 0) 0 n _ (by omega) (by omega) hR
  refine ⟨M1, ?_, b2⟩
  unfold zf_X5_find
  simp only [zput_at]
  refine a1.trans ?_
  show zf_X5_find_L98 M45 t 14 n (fun M59 => some M59) n (nI 0) (zwr (zwr M45 14 5 (((1 : Int32) <<< ((M45 t 0) &&& 31)) - (1 : Int32))) 14 6 (nI 0)) = _
  rw [h45, zpow (r 0) (by omega), show nI (2 ^ r 0) - 1 = nI (2 ^ r 0 - 1) from pk_sub (b := 1) (Nat.two_pow_pos _)]
  exact b1
/-- the answer -/
def zrans (r : ZRow) (odds suit : Nat) (k : Option Nat) : Int32 := match k with
  | none => nI (zrests r odds suit).length
  | some k => if (zrests r odds suit).length ≤ k then -nI 2 else nI ((zrests r odds suit).getD k 0)
theorem zrests_eq (r : ZRow) (odds suit : Nat) : zrests r odds suit = zrf r odds suit (2 ^ r 0) := rfl
theorem ans9 {M : ZMem} {r : ZRow} {odds suit : Nat} {k : Option Nat} (h0 : r 0 ≤ 10) (h3 : M 71 3 = nI (zrests r odds suit).length) (h72 : ∀ j, j < (zrests r odds suit).length → M 72 j = nI ((zrests r odds suit).getD j 0)) (hk : ∀ j, k = some j → j < 2147483648) : zf_X9_rests_j73 (zoI1 k) M = some (zrans r odds suit k, M) := by
  have hl := zrf_len r odds suit (2 ^ r 0)
  rw [← zrests_eq] at hl
  have hp := zpow_le h0
  cases k with
  | none =>
    show zf_X9_rests_j73 (-nI 1) M = _
    simp (disch := (first | assumption | omega)) only [zf_X9_rests_j73, zlp, ↓m1_rf, h3]
    rfl
  | some k =>
    have hk' := hk k rfl
    show zf_X9_rests_j73 (nI k) M = some (if (zrests r odds suit).length ≤ k then -nI 2 else nI ((zrests r odds suit).getD k 0), M)
    by_cases g : (zrests r odds suit).length ≤ k
    · rw [if_pos g]
      simp (disch := (first | assumption | omega)) only [zf_X9_rests_j73, zf_X9_rests_j111, zlp, ↓m1_eq, h3, ↓ev_ifB, ↓ev_iflt, ↓ev_ifle, ↓ev_ifeq, ↓ifp, ↓ifn, ↓ev_b1, ↓ev_b2, ↓ev_put, ↓ev_z0, ↓ev_z1, ↓ev_zB, ↓ev_has9, ↓ev_has10, ↓ev_shl, ↓ev_bit, ↓ev_in, ↓ev_inG, ↓ev_rd, ↓ev_st, decide_eq_true_eq, nI_add, ev_sub, pk_mul, nI_or, nI_xor, zBt, zBf, if_true, if_false, eq_self, Bool.false_eq_true]
    · have c := h72 k (by omega)
      rw [if_neg g]
      simp (disch := (first | assumption | omega)) only [zf_X9_rests_j73, zf_X9_rests_j111, zlp, ↓m1_eq, h3, ↓ev_ifB, ↓ev_iflt, ↓ev_ifle, ↓ev_ifeq, ↓ifp, ↓ifn, ↓ev_b1, ↓ev_b2, ↓ev_put, ↓ev_z0, ↓ev_z1, ↓ev_zB, ↓ev_has9, ↓ev_has10, ↓ev_shl, ↓ev_bit, ↓ev_in, ↓ev_inG, ↓ev_rd, ↓ev_st, decide_eq_true_eq, nI_add, ev_sub, pk_mul, nI_or, nI_xor, zBt, zBf, if_true, if_false, eq_self, Bool.false_eq_true, c]
theorem ge_m1 {k : Option Nat} (hk : ∀ j, k = some j → j < 2147483648) {α : Type} (A B : α) : (if -nI 1 ≤ zoI1 k then A else B) = A := by
  cases k with
  | none => exact if_pos (Int32.le_refl _)
  | some k => exact m1_ge (hk k rfl)
theorem rests9 {M : ZMem} {t nx u n : Nat} {r : ZRow} {U : Nat → ZRow} {T : ZT} {L : ZL} {odds suit : Nat} {k : Option Nat} (hC : IC M t nx r u U T L) (hg : GD r) (ho : odds ≤ 100) (hsu : suit ≤ 999) (hk : ∀ j, k = some j → j < 2147483648) (hn : 2000 < n) : ∃ M1, zf_X9_rests n (nI odds) (nI suit) (zoI1 k) M = some (zrans r odds suit k, M1) ∧ IC M1 t nx r u U T L ∧ ∀ k, 77 ≤ k → M1 k = M k := by
  have hw := hg.1
  have hb := hw.b
  have hhu : zf_X9_isHundredths (nI odds) = some (nI 1) := by rw [isHund9, zmem_nI (by omega), decide_eq_true (by omega)]; rfl
  have hge := fun (A B : Option (Int32 × ZMem)) => ge_m1 hk A B
  have new : zf_X5_isKnown (nI odds) (nI suit) M = some (nI 0) → ∃ M1, zf_X9_rests n (nI odds) (nI suit) (zoI1 k) M = some (zrans r odds suit k, M1) ∧ IC M1 t nx r u U T L ∧ ∀ k, 77 ≤ k → M1 k = M k := by
    intro hkn
    obtain ⟨M1, e1, e2⟩ := find5 (n := n) hC hg ho hsu hn
    obtain ⟨-, s2, s3, s4, s5, s6, s7, s8, s9, s10, s11, s12⟩ := e2
    have hans := ans9 (M := M1) (k := k) hw.1 (by rw [zrests_eq]; exact s7) (by rw [zrests_eq]; exact s8) hk
    have hIT : IT (zcpS M 14 12) t := hC.1.congr (zcpS_ne (by omega) (by omega))
    have hdy := fun (K : Nat → Option (Int32 × ZMem)) => hIT.dy (K := K)
    refine ⟨M1, ?_, hC.scratch s9 (hC.2.2.2.2.2.2.2.1.congr s10 s11) (Or.inr ⟨odds, suit, ho, hsu, s4, s5, s6, s7, s8⟩), s12⟩
    simp (disch := (first | assumption | omega)) only [zf_X9_rests, zf_X9_rests_j23, zlp, ↓zb1_at hhu, ↓ev_ifB, ↓ev_iflt, ↓ev_ifle, ↓ev_ifeq, ↓ifp, ↓ifn, ↓ev_b1, ↓ev_b2, ↓ev_put, ↓ev_z0, ↓ev_z1, ↓ev_zB, ↓ev_has9, ↓ev_has10, ↓ev_shl, ↓ev_bit, ↓ev_in, ↓ev_inG, ↓ev_rd, ↓ev_st, decide_eq_true_eq, nI_add, ev_sub, pk_mul, nI_or, nI_xor, zBt, zBf, if_true, if_false, eq_self, Bool.false_eq_true, ↓hge, ↓zb1_at hkn, ↓zb1_at copy14, ↓hdy, ↓zb1_at e1, hans]
  rcases hC.2.2.2.2.2.2.2.2 with h0 | ⟨od, su, o1, o2, s4, s5, s6, s7, s8⟩
  · exact new (by simp (disch := (first | assumption | omega)) only [zf_X5_isKnown, zf_X5_isKnown_j27, zf_X5_isKnown_j28, zlp, h0, ↓ev_ifB, ↓ev_iflt, ↓ev_ifle, ↓ev_ifeq, ↓ifp, ↓ifn, ↓ev_b1, ↓ev_b2, ↓ev_put, ↓ev_z0, ↓ev_z1, ↓ev_zB, ↓ev_has9, ↓ev_has10, ↓ev_shl, ↓ev_bit, ↓ev_in, ↓ev_inG, ↓ev_rd, ↓ev_st, decide_eq_true_eq, nI_add, ev_sub, pk_mul, nI_or, nI_xor, zBt, zBf, if_true, if_false, eq_self, Bool.false_eq_true])
  · by_cases g1 : od = odds
    · by_cases g2 : su = suit
      · subst g1 g2
        have hans := ans9 (M := M) (k := k) hw.1 s7 s8 hk
        have hkn : zf_X5_isKnown (nI od) (nI su) M = some (nI 1) := by simp (disch := (first | assumption | omega)) only [zf_X5_isKnown, zf_X5_isKnown_j27, zf_X5_isKnown_j28, zlp, s4, s5, s6, ↓ev_ifB, ↓ev_iflt, ↓ev_ifle, ↓ev_ifeq, ↓ifp, ↓ifn, ↓ev_b1, ↓ev_b2, ↓ev_put, ↓ev_z0, ↓ev_z1, ↓ev_zB, ↓ev_has9, ↓ev_has10, ↓ev_shl, ↓ev_bit, ↓ev_in, ↓ev_inG, ↓ev_rd, ↓ev_st, decide_eq_true_eq, nI_add, ev_sub, pk_mul, nI_or, nI_xor, zBt, zBf, if_true, if_false, eq_self, Bool.false_eq_true]
        refine ⟨M, ?_, hC, fun _ _ => rfl⟩
        simp (disch := (first | assumption | omega)) only [zf_X9_rests, zf_X9_rests_j23, zlp, ↓zb1_at hhu, ↓ev_ifB, ↓ev_iflt, ↓ev_ifle, ↓ev_ifeq, ↓ifp, ↓ifn, ↓ev_b1, ↓ev_b2, ↓ev_put, ↓ev_z0, ↓ev_z1, ↓ev_zB, ↓ev_has9, ↓ev_has10, ↓ev_shl, ↓ev_bit, ↓ev_in, ↓ev_inG, ↓ev_rd, ↓ev_st, decide_eq_true_eq, nI_add, ev_sub, pk_mul, nI_or, nI_xor, zBt, zBf, if_true, if_false, eq_self, Bool.false_eq_true, ↓hge, ↓zb1_at hkn, hans]
      · exact new (by simp (disch := (first | assumption | omega)) only [zf_X5_isKnown, zf_X5_isKnown_j27, zf_X5_isKnown_j28, zlp, s4, s5, s6, ↓ev_ifB, ↓ev_iflt, ↓ev_ifle, ↓ev_ifeq, ↓ifp, ↓ifn, ↓ev_b1, ↓ev_b2, ↓ev_put, ↓ev_z0, ↓ev_z1, ↓ev_zB, ↓ev_has9, ↓ev_has10, ↓ev_shl, ↓ev_bit, ↓ev_in, ↓ev_inG, ↓ev_rd, ↓ev_st, decide_eq_true_eq, nI_add, ev_sub, pk_mul, nI_or, nI_xor, zBt, zBf, if_true, if_false, eq_self, Bool.false_eq_true])
    · exact new (by simp (disch := (first | assumption | omega)) only [zf_X5_isKnown, zf_X5_isKnown_j27, zf_X5_isKnown_j28, zlp, s4, s5, s6, ↓ev_ifB, ↓ev_iflt, ↓ev_ifle, ↓ev_ifeq, ↓ifp, ↓ifn, ↓ev_b1, ↓ev_b2, ↓ev_put, ↓ev_z0, ↓ev_z1, ↓ev_zB, ↓ev_has9, ↓ev_has10, ↓ev_shl, ↓ev_bit, ↓ev_in, ↓ev_inG, ↓ev_rd, ↓ev_st, decide_eq_true_eq, nI_add, ev_sub, pk_mul, nI_or, nI_xor, zBt, zBf, if_true, if_false, eq_self, Bool.false_eq_true])
