/-! LAYER 2: lines, as the reference reads them -/
def zfin (T : ZT) (mk : Nat) : Except Nat ZY → Except Nat (Nat × ZRow × ZL × Nat × Nat)
  | .error e => .error e
  | .ok y => match zEnd T y.1 with
    | none => .error (zrun T zbl y.1)
    | some p2 => .ok (p2, y.2.1, y.2.2.1, y.2.2.2, mk)
theorem zfin_e (T : ZT) (mk e : Nat) : zfin T mk (.error e) = .error e := rfl
theorem zfin_s {T : ZT} {mk p e w : Nat} {r : ZRow} {L : ZL} (h : zEnd T p = some e) : zfin T mk (.ok (p, r, L, w)) = .ok (e, r, L, w, mk) := by
  show (match zEnd T p with
    | none => .error (zrun T zbl p)
    | some p2 => .ok (p2, r, L, w, mk) : Except Nat (Nat × ZRow × ZL × Nat × Nat)) = _
  rw [h]
theorem zfin_n {T : ZT} {mk p w : Nat} {r : ZRow} {L : ZL} (h : zEnd T p = none) : zfin T mk (.ok (p, r, L, w)) = .error (zrun T zbl p) := by
  show (match zEnd T p with
    | none => .error (zrun T zbl p)
    | some p2 => .ok (p2, r, L, w, mk) : Except Nat (Nat × ZRow × ZL × Nat × Nat)) = _
  rw [h]
theorem zline_n {T : ZT} {p w mk : Nat} {r : ZRow} {L : ZL} (h : zsrt T p r mk = none) : zline T p r L w mk = .error p := by
  unfold zline
  rw [h]
theorem zline_s {T : ZT} {p w mk s : Nat} {r : ZRow} {L : ZL} (h : zsrt T p r mk = some s) : zline T p r L w mk = zfin T (mk ||| 2 ^ s) (zbody T s (zrun T zlet p) r (zopn L s) w) := by
  unfold zline
  rw [h]
  show (match zbody T s (zrun T zlet p) r (zopn L s) w with
    | .error e => .error e
    | .ok (p1, r1, L1, w1) => match zEnd T p1 with
      | none => .error (zrun T zbl p1)
      | some p2 => .ok (p2, r1, L1, w1, mk ||| 2 ^ s) : Except Nat (Nat × ZRow × ZL × Nat × Nat)) = _
  cases zbody T s (zrun T zlet p) r (zopn L s) w with
  | error e => rfl
  | ok y =>
    obtain ⟨p1, r1, L1, w1⟩ := y
    rfl
def LR10 (M : ZMem) (T : ZT) (y : Option ZMem) : Except Nat (Nat × ZRow × ZL × Nat × Nat) → Prop
  | .ok z => ∃ M', y = some M' ∧ RB10 M' T z.1 z.2.1 z.2.2.1 z.2.2.2.2 ∧ FR10 M M'
  | .error e => ∃ M', y = some M' ∧ EE M' e ∧ FR10 M M'
theorem LR10.fr {M0 M : ZMem} {T : ZT} {y : Option ZMem} {z : Except Nat (Nat × ZRow × ZL × Nat × Nat)} (h : LR10 M T y z) (f : FR10 M0 M) : LR10 M0 T y z := by
  cases z with
  | error e =>
    obtain ⟨M', a, b, c⟩ := h
    exact ⟨M', a, b, fr10_trans f c⟩
  | ok z =>
    obtain ⟨M', a, b, c⟩ := h
    exact ⟨M', a, b, fr10_trans f c⟩
theorem RB10.r {M : ZMem} {T : ZT} {r : ZRow} {L : ZL} {e mk p v : Nat} (h : RB10 M T e r L mk) (hp : p ≠ 11) : RB10 (zwr M 78 p (nI v)) T e (zat r p v) L mk := by
  obtain ⟨h1, h2, ⟨h3, h4, h5, h6⟩, h7⟩ := h
  exact ⟨h1.r hp, by rw [wrn (by omega)]; exact h2, ⟨by rw [wrn (by omega)]; exact h3, by rw [wrn (by omega)]; exact h4, by rw [wrn (by omega)]; exact h5, by rw [wrn (by omega)]; exact h6⟩, h7⟩
theorem QS10.row {M : ZMem} {T : ZT} {p mk : Nat} {r : ZRow} {L : ZL} (h : QS10 M T p r L mk) {j : Nat} (hj : j < 73) (h11 : j ≠ 11) : M 78 j = nI (r j) := by rw [h.1.2.1 j hj, rI_ne h11]
theorem RB10.row {M : ZMem} {T : ZT} {p mk : Nat} {r : ZRow} {L : ZL} (h : RB10 M T p r L mk) {j : Nat} (hj : j < 73) (h11 : j ≠ 11) : M 78 j = nI (r j) := by rw [h.1.2.1 j hj, rI_ne h11]
theorem body10_1 {M : ZMem} {T : ZT} {p w mk n : Nat} {r : ZRow} {L : ZL} (hQ : QS10 M T p r L mk) (hT : TT T) (hL : LX L) (hc : zcn L = 0) (hn : 400 < n) (m pl : Nat) (hm : m ≤ 99999) (hpl : pl < 11) :
    LR10 M T (zb2 (zf_X10_number n 0 (nI m) M) (fun v27 M28 => zb1 (zf_X10_closes n M28) (fun M29 => zst M29 78 73 (nI pl) v27 (fun M30 => some M30)))) (zfin T mk (zq1 T p 0 (m + 1) L w (fun v e L w => .ok (e, zat r pl v, L, w)))) := by
  rcases num10 (n := n) hQ hT hL (by omega) (hi_lit (m := m) (by omega)) (hj_lit (by omega)) (show 0 ≤ 100000 by omega) hn with ⟨v, e, M1, a1, a2, a3, a4, a5, a6, a7⟩ | ⟨v, M1, a1, a2, a3, a4⟩
  · rw [zq1_some a1, zb2_at (show zf_X10_number n 0 (nI m) M = _ from a2)]
    rcases clo10 (n := n) a3 hT hn with ⟨e', M2, b1, b2, b3, b4⟩ | ⟨M2, b1, b2, b3, b4⟩
    · rw [zb1_at b2, zst_at pl rfl (by omega), zfin_s b1]
      exact ⟨_, rfl, b3.r (by omega), fr10_trans a4 (fr10_trans b4 fr10_78)⟩
    · rw [zb1_at b2, zst_at pl rfl (by omega), zfin_n b1]
      exact ⟨_, rfl, b3.w (by omega), fr10_trans a4 (fr10_trans b4 fr10_78)⟩
  · rw [zq1_none a1, zb2_at (show zf_X10_number n 0 (nI m) M = _ from a2), zb1_at (clo10e a3), zst_at pl rfl (by omega), zfin_e]
    exact ⟨_, rfl, a3.w (by omega), fr10_trans a4 fr10_78⟩
theorem body10_4 {M : ZMem} {T : ZT} {p w mk n : Nat} {r : ZRow} {L : ZL} (hQ : QS10 M T p r L mk) (hT : TT T) (hL : LX L) (hc : zcn L = 0) (hn : 400 < n) :
    LR10 M T (zb2 (zf_X10_number n 0 99 M) (fun v30 M31 => zb2 (zf_X10_number n v30 99 M31) (fun v32 M33 => zb1 (zf_X10_closes n M33) (fun M34 => zst M34 78 73 (6 : Int32) v30 (fun M35 => zst M35 78 73 (7 : Int32) v32 (fun M36 => some M36)))))) (zfin T mk (zbody T 4 p r L w)) := by
  rw [zbody_4]
  have h0 := hQ.2.1
  rcases num10 (n := n) hQ hT hL (by omega) (hi_lit (m := 99) (by omega)) (hj_lit (by omega)) (show 0 ≤ 100000 by omega) hn with ⟨v, e, M1, a1, a2, a3, a4, a5, a6, a7⟩ | ⟨v, M1, a1, a2, a3, a4⟩
  · rw [zq1_some a1, zb2_at (show zf_X10_number n 0 99 M = _ from a2)]
    obtain ⟨l1, l2, l3⟩ := lx_adn (v := v) hL h0 (by omega) a7
    rcases num10 (n := n) a3 hT l1 (by omega) (hi_lit (m := 99) (by omega)) (hj_lit (by omega)) (show v ≤ 100000 by omega) hn with ⟨v', e', M2, b1, b2, b3, b4, b5, b6, b7⟩ | ⟨v', M2, b1, b2, b3, b4⟩
    · rw [zq1_some b1, zb2_at (show zf_X10_number n (nI v) 99 M1 = _ from b2)]
      rcases clo10 (n := n) b3 hT hn with ⟨e2, M3, c1, c2, c3, c4⟩ | ⟨M3, c1, c2, c3, c4⟩
      · rw [zb1_at c2, zst_at (i := (6 : Int32)) 6 rfl (by omega), zst_at (i := (7 : Int32)) 7 rfl (by omega), zfin_s c1]
        exact ⟨_, rfl, (c3.r (by omega)).r (by omega), fr10_trans a4 (fr10_trans b4 (fr10_trans c4 (fr10_trans fr10_78 fr10_78)))⟩
      · rw [zb1_at c2, zst_at (i := (6 : Int32)) 6 rfl (by omega), zst_at (i := (7 : Int32)) 7 rfl (by omega), zfin_n c1]
        exact ⟨_, rfl, (c3.w (by omega)).w (by omega), fr10_trans a4 (fr10_trans b4 (fr10_trans c4 (fr10_trans fr10_78 fr10_78)))⟩
    · rw [zq1_none b1, zb2_at (show zf_X10_number n (nI v) 99 M1 = _ from b2), zb1_at (clo10e b3), zst_at (i := (6 : Int32)) 6 rfl (by omega), zst_at (i := (7 : Int32)) 7 rfl (by omega), zfin_e]
      exact ⟨_, rfl, (b3.w (by omega)).w (by omega), fr10_trans a4 (fr10_trans b4 (fr10_trans fr10_78 fr10_78))⟩
  · rw [zq1_none a1, zb2_at (show zf_X10_number n 0 99 M = _ from a2), zb2_at (num10e a3 _ _), zb1_at (clo10e a3), zst_at (i := (6 : Int32)) 6 rfl (by omega), zst_at (i := (7 : Int32)) 7 rfl (by omega), zfin_e]
    exact ⟨_, rfl, (a3.w (by omega)).w (by omega), fr10_trans a4 (fr10_trans fr10_78 fr10_78)⟩
def zchk10 (n : Nat) (M37 : ZMem) : Option ZMem := zb2 (zf_X10_number n (0 : Int32) (99 : Int32) M37) (fun v38 M39 => zb2 (zf_X10_number n (1 : Int32) (30 : Int32) M39) (fun v40 M41 => zb1 (zf_X10_closes n M41) (fun M42 => (if (M42 77 12) = (-1 : Int32) then zrd M42 78 73 (1 : Int32) (fun v44 => zst M42 78 73 ((55 : Int32) + v44) v38 (fun M45 => zrd M45 78 73 (1 : Int32) (fun v46 => zst M45 78 73 ((59 : Int32) + v46) v40 (fun M47 => zrd M47 78 73 (1 : Int32) (fun v48 => zst M47 78 73 (1 : Int32) (v48 + (1 : Int32)) (fun M49 => (zf_X10_readChannel_j91 M49))))))) else (zf_X10_readChannel_j91 M42)))))
theorem body10_5 {M : ZMem} {T : ZT} {p w mk n : Nat} {r : ZRow} {L : ZL} (hQ : QS10 M T p r L mk) (hT : TT T) (hL : LX L) (hc : zcn L = 0) (h4 : r 1 < 4) (hn : 400 < n) :
    LR10 M T (zchk10 n M) (zfin T mk (zbody T 5 p r L w)) := by
  rw [zbody_5]
  unfold zchk10 zf_X10_readChannel_j91
  have h0 := hQ.2.1
  rcases num10 (n := n) hQ hT hL (by omega) (hi_lit (m := 99) (by omega)) (hj_lit (by omega)) (show 0 ≤ 100000 by omega) hn with ⟨v, e, M1, a1, a2, a3, a4, a5, a6, a7⟩ | ⟨v, M1, a1, a2, a3, a4⟩
  · rw [zq1_some a1, zb2_at (show zf_X10_number n 0 99 M = _ from a2)]
    obtain ⟨l1, l2, l3⟩ := lx_adn (v := v) hL h0 (by omega) a7
    rcases num10 (n := n) a3 hT l1 (by omega) (hi_lit (m := 30) (by omega)) (hj_lit (by omega)) (show 1 ≤ 100000 by omega) hn with ⟨v', e', M2, b1, b2, b3, b4, b5, b6, b7⟩ | ⟨v', M2, b1, b2, b3, b4⟩
    · rw [zq1_some b1, zb2_at (show zf_X10_number n 1 30 M1 = _ from b2)]
      rcases clo10 (n := n) b3 hT hn with ⟨e2, M3, c1, c2, c3, c4⟩ | ⟨M3, c1, c2, c3, c4⟩
      · have q1 : M3 78 1 = nI (r 1) := c3.row (by omega) (by omega)
        have q2 : zwr M3 78 (55 + r 1) (nI v) 78 1 = nI (r 1) := by rw [wrj (by omega)]; exact q1
        have q3 : zwr (zwr M3 78 (55 + r 1) (nI v)) 78 (59 + r 1) (nI v') 78 1 = nI (r 1) := by rw [wrj (by omega)]; exact q2
        rw [zb1_at c2, if_pos c3.2.1, zrd_at (i := (1 : Int32)) 1 rfl (by omega), q1, zst_at (i := (55 : Int32) + nI (r 1)) (55 + r 1) (nI_add 55 (r 1)) (by omega), zrd_at (i := (1 : Int32)) 1 rfl (by omega), q2, zst_at (i := (59 : Int32) + nI (r 1)) (59 + r 1) (nI_add 59 (r 1)) (by omega), zrd_at (i := (1 : Int32)) 1 rfl (by omega), q3, zst_at (i := (1 : Int32)) 1 rfl (by omega), nI_1, zfin_s c1]
        exact ⟨_, rfl, ((c3.r (by omega)).r (by omega)).r (by omega), fr10_trans a4 (fr10_trans b4 (fr10_trans c4 (fr10_trans fr10_78 (fr10_trans fr10_78 fr10_78))))⟩
      · rw [zb1_at c2, if_neg c3.ne, zfin_n c1]
        exact ⟨_, rfl, c3, fr10_trans a4 (fr10_trans b4 c4)⟩
    · rw [zq1_none b1, zb2_at (show zf_X10_number n 1 30 M1 = _ from b2), zb1_at (clo10e b3), if_neg b3.ne, zfin_e]
      exact ⟨_, rfl, b3, fr10_trans a4 b4⟩
  · rw [zq1_none a1, zb2_at (show zf_X10_number n 0 99 M = _ from a2), zb2_at (num10e a3 _ _), zb1_at (clo10e a3), if_neg a3.ne, zfin_e]
    exact ⟨_, rfl, a3, a4⟩
/-- what stands ahead, where one of the first c numbers is asked for -/
theorem tok10 {M : ZMem} {T : ZT} {p mk c : Nat} {r : ZRow} {L : ZL} (hQ : QS10 M T p r L mk) (hT : TT T) (hc : c ≤ 10) :
    (∃ v e, zN T p 0 c = some (v, e) ∧ M 77 12 = -1 ∧ M 77 9 = 2 ∧ M 77 11 = nI v ∧ M 77 10 = nI (zrun T zbl p) ∧ v < c ∧ zf_X10_isIn (nI v) 0 (nI c - 1) = some 1)
    ∨ (zN T p 0 c = none ∧ (¬ M 77 12 = -1 ∨ ¬ M 77 9 = 2 ∨ zf_X10_isIn (M 77 11) 0 (nI c - 1) = some 0)) := by
  obtain ⟨hB, h0, h70, hG, hp0, hp, ha⟩ := hQ
  have hin : ∀ a : Nat, a < 2147483648 → zf_X10_isIn (nI a) 0 (nI c - 1) = some (zB (decide (a < c))) := fun a h => by
    rw [show zf_X10_isIn (nI a) 0 (nI c - 1) = zf_X10_isIn (nI a) (nI 0) (nI c - nI 1) from rfl, isInM (nI a) (by omega), zmem_nI h]
  rcases hG with ⟨g1, g2⟩ | ⟨g1, g2, k1, k2, k3, k4⟩
  · exact Or.inr ⟨zN_glu hp g1, Or.inl (EE.ne (e := p) ⟨g2, by have := hT.1; omega⟩)⟩
  · cases hz : zN T p 0 c with
    | some y =>
      obtain ⟨v, e⟩ := y
      obtain ⟨a1, a2, a3, a4, a5, a6, a7, a8, a9, a10, a11, a12, a13⟩ := zN_some hp hz
      have hnl : zlet (T.2 (zrun T zbl p)) = false := by
        have := a2
        simp only [zdg, Bool.and_eq_true, decide_eq_true_eq] at this
        simp only [zlet, Bool.and_eq_false_iff, decide_eq_false_iff_not]
        omega
      have e1 : zkS T (zrun T zbl p) = 2 := by unfold zkS; rw [if_neg (by omega), if_neg (by rw [hnl]; decide), if_pos a2]
      have e3 : zkV T (zrun T zbl p) = v := by
        unfold zkV
        rw [if_neg (by omega), if_neg (by rw [hnl]; decide), if_pos a2, ← a5]
        unfold zkD
        rw [if_pos (by omega), a9]
      rw [e1] at k1
      rw [e3] at k3
      refine Or.inl ⟨v, e, rfl, g2, k1, k3, k2, a11, ?_⟩
      rw [hin v (by omega), decide_eq_true a11]
      rfl
    | none =>
      refine Or.inr ⟨rfl, ?_⟩
      by_cases c2 : M 77 9 = 2
      · refine Or.inr (Or.inr ?_)
        have hk : zkS T (zrun T zbl p) = 2 := by
          have hb : zkS T (zrun T zbl p) < 4 := by
            unfold zkS
            split
            · omega
            · split
              · omega
              · split <;> omega
          exact (nI_eq (by omega) (by omega)).mp (show nI (zkS T (zrun T zbl p)) = nI 2 from k1.symm.trans c2)
        have hd : zrun T zbl p < T.1 ∧ zlet (T.2 (zrun T zbl p)) = false ∧ zdg (T.2 (zrun T zbl p)) = true := by
          unfold zkS at hk
          split at hk
          · omega
          · split at hk
            · omega
            · split at hk
              · rename_i y1 y2 y3
                exact ⟨by omega, by simpa using y2, y3⟩
              · omega
        have hne : zrun T zbl p ≠ p := fun z => g1 ⟨by omega, hp0, by rw [← z]; unfold zan; rw [hd.2.2, Bool.or_true], ha⟩
        have hqg := zrun_ge T zbl p
        have hbl : zbl (T.2 (zrun T zbl p - 1)) = true := zrun_mem (p := p) (by omega) (by omega)
        have e3 : zkV T (zrun T zbl p) = zkD T (zrun T zbl p) (zrun T zdg (zrun T zbl p)) := by unfold zkV; rw [if_neg (by omega), if_neg (by rw [hd.2.1]; decide), if_pos hd.2.2]
        rw [k3, e3]
        unfold zkD
        by_cases c5 : zrun T zdg (zrun T zbl p) - zrun T zbl p ≤ 5
        · have g4 := zvl_lt (T := T) (q := zrun T zbl p) (zrun T zdg (zrun T zbl p) - zrun T zbl p) (fun j hj => zrun_mem (p := zrun T zbl p) (by omega) (by omega))
          have g5 : 10 ^ (zrun T zdg (zrun T zbl p) - zrun T zbl p) ≤ 10 ^ 5 := Nat.pow_le_pow_right (by decide) c5
          rw [if_pos c5, hin _ (by omega), decide_eq_false]
          · rfl
          · intro z
            unfold zN at hz
            rw [if_pos ⟨hd.1, hd.2.2, by omega, hbl, c5, by omega, z⟩] at hz
            cases hz
        · rw [if_neg c5, hin _ (by omega), decide_eq_false (by omega)]
          rfl
      · exact Or.inr (Or.inl c2)
theorem j90e {M : ZMem} {e n : Nat} {v : Int32} (h : EE M e) : zf_X10_readConflict_j90 n v M = some M := by
  unfold zf_X10_readConflict_j90 zf_X10_readConflict_j122
  rw [zrd_at (i := (0 : Int32)) 0 rfl (by omega), zb2_at (num10e h _ _), zb1_at (clo10e h), if_neg h.ne]
def zcfl10 (n : Nat) (M35 : ZMem) : Option ZMem := zrd M35 78 73 (0 : Int32) (fun v36 => zb2 (zf_X10_number n (0 : Int32) (v36 - (1 : Int32)) M35) (fun v37 M38 => (if (M38 77 12) = (-1 : Int32) then (if (M38 77 9) = (2 : Int32) then zrd M38 78 73 (0 : Int32) (fun v46 => zb1 (zf_X10_isIn (M38 77 11) (0 : Int32) (v46 - (1 : Int32))) (fun v47 => (if v47 = 0 then (zf_X10_readConflict_j90 n v37 M38) else (if (M38 77 11) = v37 then (zf_X10_readConflict_j82 M38 n v37) else zrd M38 78 73 ((63 : Int32) + v37) (fun v49 => zb1 (zf_X10_has v49 (M38 77 11)) (fun v50 => (if v50 = 0 then (zf_X10_readConflict_j90 n v37 M38) else (zf_X10_readConflict_j82 M38 n v37)))))))) else (zf_X10_readConflict_j90 n v37 M38)) else (zf_X10_readConflict_j90 n v37 M38))))
theorem body10_7 {M : ZMem} {T : ZT} {p w mk n : Nat} {r : ZRow} {L : ZL} (hQ : QS10 M T p r L mk) (hT : TT T) (hL : LX L) (hc : zcn L = 0) (hW : WR r) (hn : 400 < n) :
    LR10 M T (zcfl10 n M) (zfin T mk (zbody T 7 p r L w)) := by
  rw [zbody_7]
  have hl := hT.1
  have hb := hW.1.b
  have h0 := hQ.2.1
  unfold zcfl10
  rw [zrd_at (i := (0 : Int32)) 0 rfl (by omega), hQ.row (by omega) (by omega)]
  rcases num10 (n := n) hQ hT hL (by omega) (hi_m1 (c := r 0) (by omega)) (hj_m1 (by omega)) (show 0 ≤ 100000 by omega) hn with ⟨a, e, M1, a1, a2, a3, a4, a5, a6, a7⟩ | ⟨v, M1, a1, a2, a3, a4⟩
  · rw [zq1_some a1, zb2_at (show zf_X10_number n 0 _ M = _ from a2)]
    obtain ⟨l1, l2, l3⟩ := lx_adn (v := a) hL h0 (by omega) a7
    have he : zrun T zbl e ≤ 400 := by
      have := zrun_le (T := T) (f := zbl) a3.2.2.2.2.2.1
      omega
    have m0 : M1 78 0 = nI (r 0) := a3.row (by omega) (by omega)
    have go : ∀ (M2 : ZMem), M2 = M1 → (zN T e 0 (r 0) = none ∨ ∃ b e2, zN T e 0 (r 0) = some (b, e2) ∧ ¬ (a = b ∨ (r (63 + a)).testBit b = true)) → LR10 M T (zf_X10_readConflict_j90 n (nI a) M1) (zfin T mk (zq1 T e 0 (r 0) (zadn L a) (w + 1) (fun b e2 L w => if a = b ∨ (r (63 + a)).testBit b = true then .error (zrun T zbl e) else .ok (e2, ztog r a b, L, w)))) := by
      intro M2 _ hz
      unfold zf_X10_readConflict_j90 zf_X10_readConflict_j122
      rw [zrd_at (i := (0 : Int32)) 0 rfl (by omega), m0]
      rcases num10 (n := n) a3 hT l1 (by omega) (hi_m1 (c := r 0) (by omega)) (hj_m1 (by omega)) (show 0 ≤ 100000 by omega) hn with ⟨b, e', M2, b1, b2, b3, b4, b5, b6, b7⟩ | ⟨v', M2, b1, b2, b3, b4⟩
      · rcases hz with hz | ⟨b', e3, hz, hne⟩
        · rw [hz] at b1; cases b1
        · have hbb := Option.some.inj (hz.symm.trans b1)
          have hb1 : b' = b := congrArg Prod.fst hbb
          rw [hb1] at hne
          rw [zq1_some b1, if_neg hne, zb2_at (show zf_X10_number n 0 _ M1 = _ from b2)]
          rcases clo10 (n := n) b3 hT hn with ⟨e2, M3, c1, c2, c3, c4⟩ | ⟨M3, c1, c2, c3, c4⟩
          · have hab : a ≠ b := fun z => hne (Or.inl z)
            rw [zb1_at c2, if_pos c3.2.1, zb1_at (quarrels10 c3.1.2.1 (by omega) (by omega) hab), zfin_s c1]
            exact ⟨_, rfl, (c3.r (by omega)).r (by omega), fr10_trans a4 (fr10_trans b4 (fr10_trans c4 (fr10_trans fr10_78 fr10_78)))⟩
          · rw [zb1_at c2, if_neg c3.ne, zfin_n c1]
            exact ⟨_, rfl, c3, fr10_trans a4 (fr10_trans b4 c4)⟩
      · rw [zq1_none b1, zb2_at (show zf_X10_number n 0 _ M1 = _ from b2), zb1_at (clo10e b3), if_neg b3.ne, zfin_e]
        exact ⟨_, rfl, b3, fr10_trans a4 b4⟩
    rcases tok10 a3 hT (show r 0 ≤ 10 by omega) with ⟨b, e2, t1, t2, t3, t4, t5, t6, t7⟩ | ⟨t1, t2⟩
    · have bad : (a = b ∨ (r (63 + a)).testBit b = true) → LR10 M T (zf_X10_readConflict_j82 M1 n (nI a)) (zfin T mk (zq1 T e 0 (r 0) (zadn L a) (w + 1) (fun b e2 L w => if a = b ∨ (r (63 + a)).testBit b = true then .error (zrun T zbl e) else .ok (e2, ztog r a b, L, w)))) := by
        intro hz
        have hE : EE (zwr M1 77 12 (nI (zrun T zbl e))) (zrun T zbl e) := ⟨wre, he⟩
        unfold zf_X10_readConflict_j82
        rw [zq1_some t1, if_pos hz, zfin_e, t5, zb1_at (wrong10 _ t2), j90e hE]
        exact ⟨_, rfl, hE, fr10_trans a4 (fr10_w (by omega) (by omega))⟩
      have hfa := hW.1.foe (show a < 10 by omega)
      rw [if_pos t2, if_pos t3, zrd_at (i := (0 : Int32)) 0 rfl (by omega), m0, t4, zb1_at t7, if_neg (show ¬ (1 : Int32) = 0 by decide), zi_eq (by omega) (by omega)]
      by_cases eab : b = a
      · rw [if_pos eab]
        exact bad (Or.inl eab.symm)
      · rw [if_neg eab, zrd_at (i := (63 : Int32) + nI a) (63 + a) (nI_add 63 a) (by omega), a3.row (by omega) (by omega), zb1_at (has10 hfa (by omega)), zB0]
        by_cases hz : (r (63 + a)).testBit b = true
        · rw [if_pos hz]
          exact bad (Or.inr hz)
        · rw [if_neg hz]
          exact go M1 rfl (Or.inr ⟨b, e2, t1, fun z => by rcases z with z | z; exact eab z.symm; exact hz z⟩)
    · have g := go M1 rfl (Or.inl t1)
      by_cases c1 : M1 77 12 = -1
      · rw [if_pos c1]
        by_cases c2 : M1 77 9 = 2
        · rw [if_pos c2, zrd_at (i := (0 : Int32)) 0 rfl (by omega), m0]
          rcases t2 with t2 | t2 | t2
          · exact absurd c1 t2
          · exact absurd c2 t2
          · rw [zb1_at t2, if_pos rfl]
            exact g
        · rw [if_neg c2]
          exact g
      · rw [if_neg c1]
        exact g
  · rw [zq1_none a1, zb2_at (show zf_X10_number n 0 _ M = _ from a2), if_neg a3.ne, j90e a3, zfin_e]
    exact ⟨_, rfl, a3, a4⟩
