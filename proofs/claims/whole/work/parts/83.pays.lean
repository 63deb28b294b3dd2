/-! LAYER 2: the reference pays, round by round -/
/-- in a round, at member i: what is noted so far -/
def RMN (M : ZMem) (q : ZRow) (v k i : Nat) : Prop := ∀ l, l < 9 → ∀ j, j < 10 → M 87 (10 * l + j) = nI (if l < k then zhadF q v l j else if l = k ∧ j < i then zhadF q v k j else 0)
theorem rmn_skip {M : ZMem} {q : ZRow} {v k i : Nat} (h : RMN M q v k i) (hz : zhadF q v k i = 0) : RMN M q v k (i + 1) := fun l hl j hj => by
  rw [h l hl j hj]
  by_cases e : l < k
  · rw [if_pos e, if_pos e]
  · rw [if_neg e, if_neg e]
    by_cases e2 : l = k ∧ j < i
    · rw [if_pos e2, if_pos (show l = k ∧ j < i + 1 from ⟨e2.1, by omega⟩)]
    · rw [if_neg e2]
      by_cases e3 : l = k ∧ j < i + 1
      · rw [if_pos e3, show j = i by omega, hz]
      · rw [if_neg e3]
theorem rmn_put {M : ZMem} {q : ZRow} {v k i : Nat} (h : RMN M q v k i) (hi : i < 10) : RMN (zwr M 87 (10 * k + i) (nI (zhadF q v k i))) q v k (i + 1) := fun l hl j hj => by
  by_cases e : l = k ∧ j = i
  · obtain ⟨rfl, rfl⟩ := e
    rw [wre, if_neg (Nat.lt_irrefl _), if_pos (show l = l ∧ j < j + 1 from ⟨rfl, by omega⟩)]
  · rw [wrj (by omega), h l hl j hj]
    by_cases e2 : l < k
    · rw [if_pos e2, if_pos e2]
    · rw [if_neg e2, if_neg e2]
      by_cases e3 : l = k ∧ j < i
      · rw [if_pos e3, if_pos (show l = k ∧ j < i + 1 from ⟨e3.1, by omega⟩)]
      · rw [if_neg e3, if_neg (show ¬ (l = k ∧ j < i + 1) by omega)]
def F87 (M M' : ZMem) : Prop := ∀ k, k ≠ 87 → M' k = M k
set_option maxHeartbeats 1000000 in
theorem note10 {M : ZMem} {r q : ZRow} {v k n : Nat} (h : PSm M r q v) (hr : RG r q) (hE : RME M q v k) (hg : zgk q v k = true) (hk : k < 9) (hv : v ≤ 99999) (hn : 20 < n) (K : Int32 → ZMem → Option ZMem) : ∃ M', zf_X10_pays_L122 (nI (zlack q (zpk q v k))) K n (nI 0) (nI 0) M = K (nI (zsum (zhadF q v k) (q 0))) M' ∧ RMN M' q v k (q 0) ∧ F87 M M' := by
  have hw := hr.2.1.1
  have hb := hw.b
  have h0 := hw.1
  have e0 := sq_0 hr.2.2
  have hcs := zcntS_lt h0
  have hlkl := zlk_le h0 (v := v) (k := k)
  have hll := zlack_le hw (zpk q v k)
  have key : ∀ d i m S, i + d = q 0 → d < m → RMN S q v k i → F87 M S → ∃ M', zf_X10_pays_L122 (nI (zlack q (zpk q v k))) K m (nI (zsum (zhadF q v k) i)) (nI i) S = K (nI (zsum (zhadF q v k) (q 0))) M' ∧ RMN M' q v k (q 0) ∧ F87 M M' := by
    intro d
    induction d with
    | zero =>
      intro i m S hi hm hR hF
      obtain ⟨m, rfl⟩ : ∃ x, m = x + 1 := ⟨m - 1, by omega⟩
      obtain rfl : i = q 0 := by omega
      have hI : IR S r := h.1.1.congr (hF 78 (by omega))
      refine ⟨S, ?_, hR, hF⟩
      simp (disch := (first | assumption | omega)) only [zf_X10_pays_L122, zlp, ↓rd78 hI, ↓ev_ifB, ↓ev_iflt, ↓ev_ifle, ↓ev_ifeq, ↓ifp, ↓ifn, ↓ev_b1, ↓ev_b2, ↓ev_put, ↓ev_z0, ↓ev_z1, ↓ev_zB, ↓ev_has9, ↓ev_has10, ↓ev_shl, ↓ev_bit, ↓ev_in, ↓ev_inG, ↓ev_rd, ↓ev_st, decide_eq_true_eq, nI_add, ev_sub, pk_mul, nI_or, nI_xor, zBt, zBf, if_true, if_false, eq_self, Bool.false_eq_true]
    | succ d ih =>
      intro i m S hi hm hR hF
      obtain ⟨m, rfl⟩ : ∃ x, m = x + 1 := ⟨m - 1, by omega⟩
      have hi' : i < q 0 := by omega
      have hQ : RQ S r q := rq_fq h.1 ⟨fun k a b c d e => hF k c, fun j a b => by rw [hF 77 (by omega)]⟩
      have hI := hQ.1
      have h22 := hQ.2.2.2.1
      have h23 := hQ.2.2.2.2.1
      have h28 : S 77 28 = nI k := by rw [hF 77 (by omega), hE.2.2.2, zrk_go k hg]
      have h29 : S 77 29 = nI (zlk q v k) := by rw [hF 77 (by omega), hE.2.2.1]
      have htb := zcntS_tb hi'
      have hcl := claim10 hI hr.1.1 (show i < r 0 by omega)
      rw [← sq_claim hr.2.2] at hcl
      have c86 : S 86 i = nI (zpk q v k i) := by rw [hF 86 (by omega)]; exact hE.1 i (by omega)
      have hpl := zpk_le (q := q) (v := v) k i
      have hcle := zclaim_le hw hi'
      have hs : zsum (zhadF q v k) (i + 1) = zsum (zhadF q v k) i + zhadF q v k i := rfl
      cases hc : zcnt q i with
      | false =>
        have hz : zhadF q v k i = 0 := zhad_n (by unfold zhun; rw [hc]; rfl)
        obtain ⟨M', g1, g2, g3⟩ := ih (i + 1) m S (by omega) (by omega) (rmn_skip hR hz) hF
        rw [hs, hz, Nat.add_zero] at g1
        refine ⟨M', g1 ▸ ?_, g2, g3⟩
        simp (disch := (first | assumption | omega)) only [zf_X10_pays_L122, zf_X10_pays_j269, zlp, ↓rd78 hI, ↓ev_ifle, ↓ifp, ↓ifn, h22, ↓ev_has10, htb, hc, ↓ev_ifB, Bool.false_eq_true, if_false, nI_add]
      | true =>
        cases hz14 : (q 14).testBit i with
        | true =>
          have hz : zhadF q v k i = 0 := zhad_n (by unfold zhun; rw [hc, hz14]; rfl)
          obtain ⟨M', g1, g2, g3⟩ := ih (i + 1) m S (by omega) (by omega) (rmn_skip hR hz) hF
          rw [hs, hz, Nat.add_zero] at g1
          refine ⟨M', g1 ▸ ?_, g2, g3⟩
          simp (disch := (first | assumption | omega)) only [zf_X10_pays_L122, zf_X10_pays_j269, zlp, ↓rd78 hI, ↓ev_ifle, ↓ifp, ↓ifn, h22, h23, ↓ev_has10, htb, hc, hz14, ↓ev_ifB, eq_self, if_true, nI_add]
        | false =>
          have hh : zhun q i = true := by unfold zhun; rw [hc, hz14]; rfl
          by_cases ep : zclaim q i = zpk q v k i
          · have hk0 : k ≠ 0 := fun z => by
              have h1 := zcnt_pos hc
              rw [z, zpk_0] at ep
              omega
            have hz : zhadF q v k i = 0 := by
              rw [zhad_f hk0 hg hh]
              have := zfur_le (q := q) (p := zpk q v k) (left := zlk q v k) (i := i)
              omega
            obtain ⟨M', g1, g2, g3⟩ := ih (i + 1) m S (by omega) (by omega) (rmn_skip hR hz) hF
            rw [hs, hz, Nat.add_zero] at g1
            refine ⟨M', g1 ▸ ?_, g2, g3⟩
            simp (disch := (first | assumption | omega)) only [zf_X10_pays_L122, zf_X10_pays_j269, zlp, ↓rd78 hI, ↓ev_ifle, ↓ev_ifeq, ↓ifp, ↓ifn, h22, h23, ↓ev_has10, htb, hc, hz14, ↓ev_ifB, eq_self, if_true, Bool.false_eq_true, if_false, ↓zb1_at hcl, ↓ev_rd, c86, nI_add]
          · obtain ⟨M', g1, g2, g3⟩ := ih (i + 1) m (zwr S 87 (10 * k + i) (nI (zhadF q v k i))) (by omega) (by omega) (rmn_put hR (by omega)) (fun b hb' => by rw [wrn hb']; exact hF b hb')
            rw [hs] at g1
            refine ⟨M', g1 ▸ ?_, g2, g3⟩
            by_cases hk0 : k = 0
            · subst hk0
              have hp := rq_part hQ h0 hi' hc
              have hplt := zpart_lt h0 hi' (zcnt_in hi' hc)
              have hp10 := zpart10 h0 hi' hc
              obtain ⟨d1, d2⟩ := h.2 (zpart q i) hplt
              have c88 : S 88 (zpart q i) = nI (zpotF q v (zpart q i)) := by rw [hF 88 (by omega)]; exact d1
              have c89 : S 89 (zpart q i) = nI (zgc q (zpart q i)) := by rw [hF 89 (by omega)]; exact d2
              have hgcl := zgc_le hw hp10
              have hpot := zpotF_le h0 (v := v) hp10
              have hgpos : 0 < zgc q (zpart q i) := by
                have h1 := zsum_one (f := fun j => if zcnt q j && (zpart q j == zpart q i) then zclaim q j else 0) hi'
                rw [if_pos (show (zcnt q i && (zpart q i == zpart q i)) = true by simp [hc])] at h1
                have h3 := zcnt_pos hc
                have h4 : zgc q (zpart q i) = zsum (fun j => if zcnt q j && (zpart q j == zpart q i) then zclaim q j else 0) (q 0) := rfl
                omega
              have hsn := sent10 (M := S) (a := zclaim q i) (b := zpotF q v (zpart q i)) (c := zgc q (zpart q i)) hQ hr (by omega) (by omega) hgpos (by omega)
              have ehad : zleastOf q (min (zclaim q i) (zpotF q v (zpart q i) * zclaim q i / zgc q (zpart q i))) = zhadF q v 0 i := (zhad_1 hh).symm
              rw [ehad] at hsn
              simp (disch := (first | assumption | omega)) only [zf_X10_pays_L122, zf_X10_pays_j269, zf_X10_pays_j245, zlp, ↓rd78 hI, ↓ev_ifle, ↓ev_ifeq, ↓ifp, ↓ifn, h22, h23, ↓ev_has10, htb, hc, hz14, ↓ev_ifB, eq_self, if_true, Bool.false_eq_true, if_false, ↓zb1_at hcl, ↓ev_rd, c86, h28, hp, c88, c89, ev_l, ↓zb1_at hsn, pk_mul, nI_add, ↓ev_st]
            · have hlack : 0 < zlack q (zpk q v k) := by
                have h1 := zsum_one (f := fun i => if zhun q i then zclaim q i - zpk q v k i else 0) hi'
                rw [hh, if_pos rfl] at h1
                have h4 : zlack q (zpk q v k) = zsum (fun i => if zhun q i then zclaim q i - zpk q v k i else 0) (q 0) := rfl
                omega
              have hsn := sent10 (M := S) (a := zclaim q i - zpk q v k i) (b := zlk q v k) (c := zlack q (zpk q v k)) hQ hr (by omega) (by omega) hlack (by omega)
              have ehad : zleastOf q (min (zclaim q i - zpk q v k i) (zlk q v k * (zclaim q i - zpk q v k i) / zlack q (zpk q v k))) = zhadF q v k i := (zhad_f hk0 hg hh).symm
              rw [ehad] at hsn
              simp (disch := (first | assumption | omega)) only [zf_X10_pays_L122, zf_X10_pays_j269, zf_X10_pays_j245, zlp, ↓rd78 hI, ↓ev_ifle, ↓ev_ifeq, ↓ifp, ↓ifn, h22, h23, ↓ev_has10, htb, hc, hz14, ↓ev_ifB, eq_self, if_true, Bool.false_eq_true, if_false, ↓zb1_at hcl, ↓ev_rd, c86, h28, h29, ev_sub, ev_l, ↓zb1_at hsn, pk_mul, nI_add, ↓ev_st]
  exact key (q 0) 0 n M (by omega) (by omega) (fun l hl j hj => by
    rw [hE.2.1 l hl j hj]
    by_cases e : l < k
    · rw [if_pos e, if_pos e]
    · rw [if_neg e, if_neg e, if_neg (show ¬ (l = k ∧ j < 0) by omega)]) (fun _ _ => rfl)
theorem add10 {M : ZMem} {r q : ZRow} {v k n : Nat} (hI : IR M r) (hr : RG r q) (h86 : ∀ j, j < 10 → M 86 j = nI (zpk q v k j)) (h87 : RMN M q v k (q 0)) (h28 : M 77 28 = nI k) (hk : k < 9) (hn : 20 < n) (K : ZMem → Option ZMem) : ∃ M', zf_X10_pays_L278 K n (nI 0) M = K M' ∧ (∀ j, j < 10 → M' 86 j = nI (zpk q v (k + 1) j)) ∧ ∀ b, b ≠ 86 → M' b = M b := by
  have hw := hr.2.1.1
  have hb := hw.b
  have e0 := sq_0 hr.2.2
  have key : ∀ d i m S, i + d = q 0 → d < m → (∀ j, j < 10 → S 86 j = nI (zpk q v k j + if j < i then zhadF q v k j else 0)) → (∀ b, b ≠ 86 → S b = M b) → ∃ M', zf_X10_pays_L278 K m (nI i) S = K M' ∧ (∀ j, j < 10 → M' 86 j = nI (zpk q v k j + if j < q 0 then zhadF q v k j else 0)) ∧ ∀ b, b ≠ 86 → M' b = M b := by
    intro d
    induction d with
    | zero =>
      intro i m S hi hm h1 h2
      obtain ⟨m, rfl⟩ : ∃ x, m = x + 1 := ⟨m - 1, by omega⟩
      obtain rfl : i = q 0 := by omega
      have hI' : IR S r := hI.congr (h2 78 (by omega))
      refine ⟨S, ?_, h1, h2⟩
      simp (disch := (first | assumption | omega)) only [zf_X10_pays_L278, zlp, ↓rd78 hI', ↓ev_ifB, ↓ev_iflt, ↓ev_ifle, ↓ev_ifeq, ↓ifp, ↓ifn, ↓ev_b1, ↓ev_b2, ↓ev_put, ↓ev_z0, ↓ev_z1, ↓ev_zB, ↓ev_has9, ↓ev_has10, ↓ev_shl, ↓ev_bit, ↓ev_in, ↓ev_inG, ↓ev_rd, ↓ev_st, decide_eq_true_eq, nI_add, ev_sub, pk_mul, nI_or, nI_xor, zBt, zBf, if_true, if_false, eq_self, Bool.false_eq_true]
    | succ d ih =>
      intro i m S hi hm h1 h2
      obtain ⟨m, rfl⟩ : ∃ x, m = x + 1 := ⟨m - 1, by omega⟩
      have hI' : IR S r := hI.congr (h2 78 (by omega))
      have c86 : S 86 i = nI (zpk q v k i) := by rw [h1 i (by omega), if_neg (Nat.lt_irrefl _), Nat.add_zero]
      have c87 : S 87 (10 * k + i) = nI (zhadF q v k i) := by rw [h2 87 (by omega), h87 k hk i (by omega), if_neg (Nat.lt_irrefl _), if_pos (show k = k ∧ i < q 0 from ⟨rfl, by omega⟩)]
      have c28 : S 77 28 = nI k := by rw [h2 77 (by omega)]; exact h28
      obtain ⟨M', g1, g2, g3⟩ := ih (i + 1) m (zwr S 86 i (nI (zpk q v k i + zhadF q v k i))) (by omega) (by omega) (fun j hj => by
        by_cases e : j = i
        · subst e; rw [wre, if_pos (by omega)]
        · rw [wrj e, h1 j hj]
          by_cases e2 : j < i
          · rw [if_pos e2, if_pos (by omega)]
          · rw [if_neg e2, if_neg (by omega)]) (fun b hb' => by rw [wrn hb']; exact h2 b hb')
      refine ⟨M', g1 ▸ ?_, g2, g3⟩
      simp (disch := (first | assumption | omega)) only [zf_X10_pays_L278, zlp, ↓rd78 hI', ↓ev_ifB, ↓ev_iflt, ↓ev_ifle, ↓ev_ifeq, ↓ifp, ↓ifn, ↓ev_b1, ↓ev_b2, ↓ev_put, ↓ev_z0, ↓ev_z1, ↓ev_zB, ↓ev_has9, ↓ev_has10, ↓ev_shl, ↓ev_bit, ↓ev_in, ↓ev_inG, ↓ev_rd, ↓ev_st, decide_eq_true_eq, nI_add, ev_sub, pk_mul, nI_or, nI_xor, zBt, zBf, if_true, if_false, eq_self, Bool.false_eq_true, c86, c28, c87]
  obtain ⟨M', g1, g2, g3⟩ := key (q 0) 0 n M (by omega) (by omega) (fun j hj => by rw [h86 j hj, if_neg (by omega), Nat.add_zero]) (fun _ _ => rfl)
  refine ⟨M', g1, fun j hj => ?_, g3⟩
  rw [g2 j hj, zpk_s]
  by_cases e : j < q 0
  · rw [if_pos e]
  · rw [if_neg e, zhad_out hw (by omega)]
theorem rme_stop {M : ZMem} {q : ZRow} {v k : Nat} (h : RME M q v k) (hg : zgk q v k = false) (hk : k ≤ 9) : RME M q v 9 := by
  obtain ⟨h1, h2, h3, h4⟩ := h
  obtain ⟨s1, s2, s3, s4⟩ := zstop hg (9 - k)
  rw [show k + (9 - k) = 9 by omega] at s1 s2 s3 s4
  refine ⟨fun j hj => by rw [s2]; exact h1 j hj, fun l hl j hj => ?_, by rw [s3]; exact h3, by rw [s4]; exact h4⟩
  rw [h2 l hl j hj, if_pos hl]
  by_cases e : l < k
  · rw [if_pos e]
  · rw [if_neg e]
    have s5 := (zstop hg (l - k)).1
    rw [show k + (l - k) = l by omega] at s5
    rw [zhad_stop s5]
theorem rounds10 {r q : ZRow} {v n : Nat} (hr : RG r q) (hv : v ≤ 99999) (hn : 20 < n) : ∀ (d k m : Nat) (M : ZMem), k + d = 9 → d + 1 < m → PSm M r q v → RME M q v k → ∃ M', zf_X10_pays_L99 n (fun M116 => some M116) m (zB (zgk q v k)) M = some M' ∧ RME M' q v 9 ∧ FH M M' := by
  have hw := hr.2.1.1
  have h0 := hw.1
  intro d
  induction d with
  | zero =>
    intro k m M hk hm hP hR
    obtain ⟨m, rfl⟩ : ∃ x, m = x + 1 := ⟨m - 1, by omega⟩
    obtain rfl : k = 9 := by omega
    refine ⟨M, ?_, hR, fh_refl M⟩
    rw [zf_X10_pays_L99]
    cases hg : zgk q v 9 with
    | false => rfl
    | true => rw [if_neg (show ¬ zB true = 0 by decide), hR.2.2.2, zrk_go 9 hg, if_pos (by decide)]
  | succ d ih =>
    intro k m M hk hm hP hR
    obtain ⟨m, rfl⟩ : ∃ x, m = x + 1 := ⟨m - 1, by omega⟩
    cases hg : zgk q v k with
    | false =>
      refine ⟨M, ?_, rme_stop hR hg (by omega), fh_refl M⟩
      rw [zf_X10_pays_L99, if_pos (show zB false = 0 from rfl)]
    | true =>
      have h28 : M 77 28 = nI k := by rw [hR.2.2.2, zrk_go k hg]
      have hlack := lacked10 (n := n) hP.1 hr hR.1 hn
      have hs1 := zhad_sum h0 (v := v) (k := k)
      have hs3 := zlk_le h0 (v := v) (k := k)
      obtain ⟨M1, a1, a2, a3⟩ := note10 (n := n) hP hr hR hg (by omega) hv hn (fun v102 M103 => (zf_X10_pays_L278 (fun M111 => zput M111 77 29 ((M111 77 29) - v102) (fun M112 => (if v102 ≤ 0 then (zf_X10_pays_j339 M112 (fun x0 x1 => zf_X10_pays_L99 n (fun M116 => some M116) m x0 x1) 0) else (zf_X10_pays_j339 M112 (fun x0 x1 => zf_X10_pays_L99 n (fun M116 => some M116) m x0 x1) 1)))) n 0 M103))
      obtain ⟨M2, b1, b2, b3⟩ := add10 (n := n) (M := M1) (hP.1.1.congr (a3 78 (by omega))) hr (fun j hj => by rw [a3 86 (by omega)]; exact hR.1 j hj) a2 (by rw [a3 77 (by omega)]; exact h28) (by omega) hn (fun M111 => zput M111 77 29 ((M111 77 29) - nI (zsum (zhadF q v k) (q 0))) (fun M112 => (if nI (zsum (zhadF q v k) (q 0)) ≤ 0 then (zf_X10_pays_j339 M112 (fun x0 x1 => zf_X10_pays_L99 n (fun M116 => some M116) m x0 x1) 0) else (zf_X10_pays_j339 M112 (fun x0 x1 => zf_X10_pays_L99 n (fun M116 => some M116) m x0 x1) 1))))
      have e77 : M2 77 = M 77 := by rw [b3 77 (by omega), a3 77 (by omega)]
      have e29 : M2 77 29 = nI (zlk q v k) := by rw [e77]; exact hR.2.2.1
      have eg : zgk q v (k + 1) = decide (0 < zsum (zhadF q v k) (q 0)) := by rw [zgk_s, hg, Bool.true_and]
      have hE3 : RME (zwr (zwr M2 77 29 (nI (zlk q v (k + 1)))) 77 28 (nI (zrk q v (k + 1)))) q v (k + 1) := by
        refine ⟨fun j hj => by rw [wrn (by omega), wrn (by omega)]; exact b2 j hj, fun l hl j hj => ?_, by rw [wrj (by omega), wre], wre⟩
        rw [wrn (by omega), wrn (by omega), b3 87 (by omega), a2 l hl j hj]
        by_cases e : l < k
        · rw [if_pos e, if_pos (show l < k + 1 by omega)]
        · rw [if_neg e]
          by_cases e2 : l = k
          · subst e2
            rw [if_pos (show l < l + 1 by omega)]
            by_cases e3 : j < q 0
            · rw [if_pos (show l = l ∧ j < q 0 from ⟨rfl, e3⟩)]
            · rw [if_neg (show ¬ (l = l ∧ j < q 0) from fun z => e3 z.2), zhad_out hw (by omega)]
          · rw [if_neg (show ¬ (l = k ∧ j < q 0) from fun z => e2 z.1), if_neg (show ¬ l < k + 1 by omega)]
      have hF3 : FH M (zwr (zwr M2 77 29 (nI (zlk q v (k + 1)))) 77 28 (nI (zrk q v (k + 1)))) := ⟨fun b x y z => by rw [wrn x, wrn x, b3 b y, a3 b z], fun j x y => by rw [wrj x, wrj y, e77]⟩
      obtain ⟨M4, f1, f2, f3⟩ := ih (k + 1) m _ (by omega) (by omega) (psm_fh hP hF3) hE3
      refine ⟨M4, ?_, f2, fh_trans hF3 f3⟩
      rw [zf_X10_pays_L99, if_neg (show ¬ zB true = 0 by decide), h28, show (9 : Int32) = nI 9 from rfl, zi_le (by omega) (by omega), if_neg (show ¬ 9 ≤ k by omega), zb1_at hlack]
      refine a1.trans (b1.trans ?_)
      rw [← f1]
      have elk : zlk q v (k + 1) = zlk q v k - zsum (zhadF q v k) (q 0) := rfl
      by_cases z : zsum (zhadF q v k) (q 0) = 0
      · rw [decide_eq_false (by omega)] at eg
        have erk : zrk q v (k + 1) = k := by rw [zrk_s, eg, zrk_go k hg]; rfl
        have c28 : zwr M2 77 29 (nI (zlk q v k - zsum (zhadF q v k) (q 0))) 77 28 = nI k := by rw [wrj (by omega), e77]; exact h28
        rw [eg, elk, erk]
        simp (disch := (first | assumption | omega)) only [zf_X10_pays_j339, zf_X10_pays_j354, zlp, ↓ev_put, e29, ev_sub, ↓ev_ifB, ↓ev_iflt, ↓ev_ifle, ↓ev_ifeq, ↓ifp, ↓ifn, ↓ev_b1, ↓ev_b2, ↓ev_put, ↓ev_z0, ↓ev_z1, ↓ev_zB, ↓ev_has9, ↓ev_has10, ↓ev_shl, ↓ev_bit, ↓ev_in, ↓ev_inG, ↓ev_rd, ↓ev_st, decide_eq_true_eq, nI_add, ev_sub, pk_mul, nI_or, nI_xor, zBt, zBf, if_true, if_false, eq_self, Bool.false_eq_true, c28, Nat.add_zero]
      · rw [decide_eq_true (by omega)] at eg
        have erk : zrk q v (k + 1) = k + 1 := by rw [zrk_s, eg, zrk_go k hg]; rfl
        have c28 : zwr M2 77 29 (nI (zlk q v k - zsum (zhadF q v k) (q 0))) 77 28 = nI k := by rw [wrj (by omega), e77]; exact h28
        rw [eg, elk, erk]
        simp (disch := (first | assumption | omega)) only [zf_X10_pays_j339, zf_X10_pays_j354, zlp, ↓ev_put, e29, ev_sub, ↓ev_ifB, ↓ev_iflt, ↓ev_ifle, ↓ev_ifeq, ↓ifp, ↓ifn, ↓ev_b1, ↓ev_b2, ↓ev_put, ↓ev_z0, ↓ev_z1, ↓ev_zB, ↓ev_has9, ↓ev_has10, ↓ev_shl, ↓ev_bit, ↓ev_in, ↓ev_inG, ↓ev_rd, ↓ev_st, decide_eq_true_eq, nI_add, ev_sub, pk_mul, nI_or, nI_xor, zBt, zBf, if_true, if_false, eq_self, Bool.false_eq_true, c28]
theorem fill87 {M : ZMem} {K : ZMem → Option ZMem} {n : Nat} (hn : 90 < n) : zf_X10_pays_L2 K n (nI 0) M = K (zfl M 87 (nI 0) 90) := by
  have key := zloop (fun k i (S : ZMem) => zf_X10_pays_L2 K k (nI i) S) (zfl M 87 (nI 0)) (K (zfl M 87 (nI 0) 90)) 90 (fun k i hi => by
      show zf_X10_pays_L2 K (k + 1) (nI i) _ = zf_X10_pays_L2 K k (nI (i + 1)) _
      rw [← zfl_s]
      simp (disch := (first | assumption | omega)) only [zf_X10_pays_L2, zlp, ↓ev_ifB, ↓ev_iflt, ↓ev_ifle, ↓ev_ifeq, ↓ifp, ↓ifn, ↓ev_b1, ↓ev_b2, ↓ev_put, ↓ev_z0, ↓ev_z1, ↓ev_zB, ↓ev_has9, ↓ev_has10, ↓ev_shl, ↓ev_bit, ↓ev_in, ↓ev_inG, ↓ev_rd, ↓ev_st, decide_eq_true_eq, nI_add, ev_sub, pk_mul, nI_or, nI_xor, zBt, zBf, if_true, if_false, eq_self, Bool.false_eq_true]) (fun k => by
      show zf_X10_pays_L2 K (k + 1) (nI 90) _ = _
      simp (disch := (first | assumption | omega)) only [zf_X10_pays_L2, zlp, ↓ev_ifB, ↓ev_iflt, ↓ev_ifle, ↓ev_ifeq, ↓ifp, ↓ifn, ↓ev_b1, ↓ev_b2, ↓ev_put, ↓ev_z0, ↓ev_z1, ↓ev_zB, ↓ev_has9, ↓ev_has10, ↓ev_shl, ↓ev_bit, ↓ev_in, ↓ev_inG, ↓ev_rd, ↓ev_st, decide_eq_true_eq, nI_add, ev_sub, pk_mul, nI_or, nI_xor, zBt, zBf, if_true, if_false, eq_self, Bool.false_eq_true]) n 0 (by omega) (by omega)
  rw [zfl_0] at key
  exact key
theorem fill86 {M : ZMem} {K : ZMem → Option ZMem} {n : Nat} (hn : 10 < n) : zf_X10_pays_L23 K n (nI 0) M = K (zfl M 86 (nI 0) 10) := by
  have key := zloop (fun k i (S : ZMem) => zf_X10_pays_L23 K k (nI i) S) (zfl M 86 (nI 0)) (K (zfl M 86 (nI 0) 10)) 10 (fun k i hi => by
      show zf_X10_pays_L23 K (k + 1) (nI i) _ = zf_X10_pays_L23 K k (nI (i + 1)) _
      rw [← zfl_s]
      simp (disch := (first | assumption | omega)) only [zf_X10_pays_L23, zlp, ↓ev_ifB, ↓ev_iflt, ↓ev_ifle, ↓ev_ifeq, ↓ifp, ↓ifn, ↓ev_b1, ↓ev_b2, ↓ev_put, ↓ev_z0, ↓ev_z1, ↓ev_zB, ↓ev_has9, ↓ev_has10, ↓ev_shl, ↓ev_bit, ↓ev_in, ↓ev_inG, ↓ev_rd, ↓ev_st, decide_eq_true_eq, nI_add, ev_sub, pk_mul, nI_or, nI_xor, zBt, zBf, if_true, if_false, eq_self, Bool.false_eq_true]) (fun k => by
      show zf_X10_pays_L23 K (k + 1) (nI 10) _ = _
      simp (disch := (first | assumption | omega)) only [zf_X10_pays_L23, zlp, ↓ev_ifB, ↓ev_iflt, ↓ev_ifle, ↓ev_ifeq, ↓ifp, ↓ifn, ↓ev_b1, ↓ev_b2, ↓ev_put, ↓ev_z0, ↓ev_z1, ↓ev_zB, ↓ev_has9, ↓ev_has10, ↓ev_shl, ↓ev_bit, ↓ev_in, ↓ev_inG, ↓ev_rd, ↓ev_st, decide_eq_true_eq, nI_add, ev_sub, pk_mul, nI_or, nI_xor, zBt, zBf, if_true, if_false, eq_self, Bool.false_eq_true]) n 0 (by omega) (by omega)
  rw [zfl_0] at key
  exact key
theorem pots10 {M : ZMem} {r q : ZRow} {n : Nat} (h : RQ M r q) (hr : RG r q) (hn : 20 < n) (K : ZMem → Option ZMem) : ∃ M', zf_X10_pays_L57 n K n (nI 0) M = K M' ∧ (∀ k, k < zparts q → M' 88 k = nI (zpotF q (znet q) k) ∧ M' 89 k = nI (zgc q k)) ∧ ∀ b, b ≠ 88 → b ≠ 89 → M' b = M b := by
  have hw := hr.2.1.1
  have h0 := hw.1
  have hpl := zparts_le h0
  have key : ∀ d i m S, i + d = zparts q → d < m → (∀ k, k < i → S 88 k = nI (zpotF q (znet q) k) ∧ S 89 k = nI (zgc q k)) → (∀ b, b ≠ 88 → b ≠ 89 → S b = M b) → ∃ M', zf_X10_pays_L57 n K m (nI i) S = K M' ∧ (∀ k, k < zparts q → M' 88 k = nI (zpotF q (znet q) k) ∧ M' 89 k = nI (zgc q k)) ∧ ∀ b, b ≠ 88 → b ≠ 89 → M' b = M b := by
    intro d
    induction d with
    | zero =>
      intro i m S hi hm h1 h2
      obtain ⟨m, rfl⟩ : ∃ x, m = x + 1 := ⟨m - 1, by omega⟩
      obtain rfl : i = zparts q := by omega
      have h20 : S 77 20 = nI (zparts q) := by rw [h2 77 (by omega) (by omega)]; exact h.2.1
      refine ⟨S, ?_, h1, h2⟩
      simp (disch := (first | assumption | omega)) only [zf_X10_pays_L57, zlp, h20, ↓ev_ifB, ↓ev_iflt, ↓ev_ifle, ↓ev_ifeq, ↓ifp, ↓ifn, ↓ev_b1, ↓ev_b2, ↓ev_put, ↓ev_z0, ↓ev_z1, ↓ev_zB, ↓ev_has9, ↓ev_has10, ↓ev_shl, ↓ev_bit, ↓ev_in, ↓ev_inG, ↓ev_rd, ↓ev_st, decide_eq_true_eq, nI_add, ev_sub, pk_mul, nI_or, nI_xor, zBt, zBf, if_true, if_false, eq_self, Bool.false_eq_true]
    | succ d ih =>
      intro i m S hi hm h1 h2
      obtain ⟨m, rfl⟩ : ∃ x, m = x + 1 := ⟨m - 1, by omega⟩
      have hQ : RQ S r q := rq_fq h ⟨fun k a b c d e => h2 k d e, fun j a b => by rw [h2 77 (by omega) (by omega)]⟩
      have h20 := hQ.2.1
      have hpo := potOf10 (k := i) (n := n) hQ hr (by omega) hn
      have hQ2 : RQ (zwr S 88 i (nI (zpotF q (znet q) i))) r q := rq_fq hQ ⟨fun k a b c d e => wrn d, fun j a b => by rw [wrn (by omega)]⟩
      have hci := countedIn10 (k := i) (n := n) hQ2 hr (by omega) (by omega)
      have hcc := claims10 (n := n) (a := zcin q i) hQ2.1 hr.1.1 (zcin_lt h0) (by omega)
      rw [zcin_claims hr.2.2] at hcc
      obtain ⟨M', g1, g2, g3⟩ := ih (i + 1) m (zwr (zwr S 88 i (nI (zpotF q (znet q) i))) 89 i (nI (zgc q i))) (by omega) (by omega) (fun k hk => by
        by_cases e : k = i
        · subst e; exact ⟨by rw [wrn (by omega), wre], wre⟩
        · rw [wrn (by omega), wrj e, wrj e, wrn (by omega)]; exact h1 k (by omega)) (fun b x y => by rw [wrn y, wrn x]; exact h2 b x y)
      refine ⟨M', g1 ▸ ?_, g2, g3⟩
      simp (disch := (first | assumption | omega)) only [zf_X10_pays_L57, zlp, h20, ↓ev_ifB, ↓ev_iflt, ↓ev_ifle, ↓ev_ifeq, ↓ifp, ↓ifn, ↓ev_b1, ↓ev_b2, ↓ev_put, ↓ev_z0, ↓ev_z1, ↓ev_zB, ↓ev_has9, ↓ev_has10, ↓ev_shl, ↓ev_bit, ↓ev_in, ↓ev_inG, ↓ev_rd, ↓ev_st, decide_eq_true_eq, nI_add, ev_sub, pk_mul, nI_or, nI_xor, zBt, zBf, if_true, if_false, eq_self, Bool.false_eq_true, ↓zb1_at hpo, ↓zb1_at hci, ↓zb1_at hcc]
  exact key (zparts q) 0 n M (by omega) (by omega) (fun k hk => by omega) (fun _ _ _ => rfl)
theorem pays10 {M : ZMem} {r q : ZRow} {n : Nat} (h : RQ M r q) (hr : RG r q) (hn : 100 < n) : ∃ M', zf_X10_pays n M = some M' ∧ RME M' q (znet q) 9 ∧ RQ M' r q ∧ FQ M M' := by
  have hw := hr.2.1.1
  have hnl := znet_le hw
  have hF2 : FQ M (zfl (zfl M 87 (nI 0) 90) 86 (nI 0) 10) := ⟨fun k a b c d e => by rw [zfl_ne b, zfl_ne c], fun j a b => by rw [zfl_ne (by omega), zfl_ne (by omega)]⟩
  have hnet := net10 (n := n) (rq_fq h hF2) hr (by omega)
  have hF3 : FQ M (zwr (zwr (zfl (zfl M 87 (nI 0) 90) 86 (nI 0) 10) 77 29 (nI (znet q))) 77 28 (nI 0)) := fq_trans hF2 ⟨fun k a b c d e => by rw [wrn a, wrn a], fun j a b => by rw [wrj a, wrj b]⟩
  obtain ⟨M1, a1, a2, a3⟩ := pots10 (n := n) (rq_fq h hF3) hr (by omega) (fun M74 => (zf_X10_pays_L99 n (fun M116 => some M116) n 1 M74))
  have hF4 : FQ M M1 := fq_trans hF3 ⟨fun k a b c d e => a3 k d e, fun j a b => by rw [a3 77 (by omega) (by omega)]⟩
  have hE : RME M1 q (znet q) 0 := by
    refine ⟨fun j hj => ?_, fun l hl j hj => ?_, ?_, ?_⟩
    · rw [a3 86 (by omega) (by omega), wrn (by omega), wrn (by omega), zfl_at hj]; rfl
    · rw [a3 87 (by omega) (by omega), wrn (by omega), wrn (by omega), zfl_ne (by omega), zfl_at (by omega), if_neg (by omega)]
    · rw [a3 77 (by omega) (by omega), wrj (by omega), wre]; rfl
    · rw [a3 77 (by omega) (by omega), wre]; rfl
  obtain ⟨M2, b1, b2, b3⟩ := rounds10 (n := n) hr hnl (by omega) 9 0 n M1 (by omega) (by omega) ⟨rq_fq h hF4, a2⟩ hE
  have hF5 := fq_trans hF4 (fh_fq b3)
  refine ⟨M2, ?_, b2, rq_fq h hF5, hF5⟩
  unfold zf_X10_pays
  refine (fill87 (by omega)).trans ((fill86 (by omega)).trans ?_)
  rw [zb1_at hnet]
  simp only [zput_at]
  refine a1.trans ?_
  exact b1
