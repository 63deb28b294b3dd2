/-! LAYER 2: members, as the reference reads them -/
def YR10 (M : ZMem) (T : ZT) (r : ZRow) (mk : Nat) (y : Option ZMem) (K : Int32 → ZMem → Option ZMem) : Except Nat (Nat × Nat × ZL × Nat) → Prop
  | .ok z => ∃ M' e', y = K (nI z.1) M' ∧ z.2.1 = zrun T zbl e' ∧ QS10 M' T e' r z.2.2.1 mk ∧ FR10 M M'
  | .error e => ∃ x M', y = K x M' ∧ EE M' e ∧ FR10 M M'
theorem YR10.fr {M0 M : ZMem} {T : ZT} {r : ZRow} {mk : Nat} {y : Option ZMem} {K : Int32 → ZMem → Option ZMem} {z : Except Nat (Nat × Nat × ZL × Nat)} (h : YR10 M T r mk y K z) (f : FR10 M0 M) : YR10 M0 T r mk y K z := by
  cases z with
  | error e =>
    obtain ⟨x, M', a, b, c⟩ := h
    exact ⟨x, M', a, b, fr10_trans f c⟩
  | ok z =>
    obtain ⟨M', e', a, b, c, d⟩ := h
    exact ⟨M', e', a, b, c, fr10_trans f d⟩
theorem l77e {M : ZMem} {e n f : Nat} {x y : Int32} {K : Int32 → ZMem → Option ZMem} (h : EE M e) : zf_X10_readMember_L77 n K (f + 1) x y M = K x M := by
  rw [zf_X10_readMember_L77, if_neg h.ne]
theorem j137e {M M1 : ZMem} {e n f c : Nat} {a v : Int32} {K : Int32 → ZMem → Option ZMem} (h1 : M 78 1 = nI c) (h2 : zf_X10_number n 0 (nI c - 1) M = some (v, M1)) (h : EE M1 e) : ∃ x, zf_X10_readMember_j137 n (fun x0 x1 x2 => zf_X10_readMember_L77 n K (f + 1) x0 x1 x2) a M = K x M1 := by
  unfold zf_X10_readMember_j137 zf_X10_readMember_j173
  rw [zrd_at (i := (1 : Int32)) 1 rfl (by omega), h1, zb2_at h2]
  split
  · exact ⟨_, l77e h⟩
  · exact ⟨_, l77e h⟩
theorem by10 {T : ZT} {mk n : Nat} {r : ZRow} (hT : TT T) (hW : WR r) (hn : 400 < n) (K : Int32 → ZMem → Option ZMem) : ∀ d k fuel mask e (M : ZMem) (L : ZL) w, k + d = 5 → d + 1 < fuel → QS10 M T e r L mk → mask < 2 ^ r 1 → zpc mask = k → LX L → zcn L + d ≤ 8 → YR10 M T r mk (zf_X10_readMember_L77 n K fuel (nI mask) 1 M) K (zbyl T (r 1) d mask e L w) := by
  have hl := hT.1
  have hb := hW.1.b
  have hp16 : 2 ^ r 1 ≤ 2 ^ 4 := Nat.pow_le_pow_right (by decide) (by omega)
  intro d
  induction d with
  | zero =>
    intro k fuel mask e M L w hk hf hQ hm hpc
    have := zpc_le mask (by omega)
    omega
  | succ d ih =>
    intro k fuel mask e M L w hk hf hQ hm hpc hL h8
    obtain ⟨f, rfl⟩ : ∃ y, fuel = y + 1 + 1 := ⟨fuel - 2, by omega⟩
    have h0 := hQ.2.1
    have he : zrun T zbl e ≤ 400 := by
      have := zrun_le (T := T) (f := zbl) hQ.2.2.2.2.2.1
      omega
    have m1 : M 78 1 = nI (r 1) := hQ.row (by omega) (by omega)
    show YR10 M T r mk _ K (zq1 T e 0 (r 1) L w (fun v e2 L2 w2 => if mask.testBit v then .error (zrun T zbl e) else if zrun T zbl e2 < T.1 ∧ zdg (T.2 (zrun T zbl e2)) = true then zbyl T (r 1) d (mask ||| 2 ^ v) e2 L2 w2 else .ok (mask ||| 2 ^ v, zrun T zbl e2, L2, w2)))
    rw [zf_X10_readMember_L77]
    rcases tok10 hQ hT (show r 1 ≤ 10 by omega) with ⟨v, e2, t1, t2, t3, t4, t5, t6, t7⟩ | ⟨t1, t2⟩
    · rw [if_pos t2, if_neg (show ¬ (1 : Int32) = 0 by decide), if_pos t3, zrd_at (i := (1 : Int32)) 1 rfl (by omega), m1, t4, zb1_at t7, if_neg (show ¬ (1 : Int32) = 0 by decide), zb1_at (has10 (a := mask) (j := v) (by omega) (by omega)), zB0, zq1_some t1]
      by_cases hz : mask.testBit v = true
      · have hE : EE (zwr M 77 12 (nI (zrun T zbl e))) (zrun T zbl e) := ⟨wre, he⟩
        rw [if_pos hz, if_pos hz, t5, zb1_at (wrong10 _ t2)]
        obtain ⟨x, hx⟩ := j137e (M := zwr M 77 12 (nI (zrun T zbl e))) (n := n) (f := f) (a := nI mask) (K := K) (by rw [wrn (by omega)]; exact m1) (num10e hE _ _) hE
        exact ⟨x, _, hx, hE, fr10_w (by omega) (by omega)⟩
      · rw [if_neg hz, if_neg hz]
        rcases num10 (n := n) hQ hT hL (by omega) (hi_m1 (c := r 1) (by omega)) (hj_m1 (by omega)) (show 0 ≤ 100000 by omega) hn with ⟨v', e', M1, a1, a2, a3, a4, a5, a6, a7⟩ | ⟨v', M1, a1, a2, a3, a4⟩
        · have hbb := Option.some.inj (t1.symm.trans a1)
          obtain rfl : v = v' := congrArg Prod.fst hbb
          obtain rfl : e2 = e' := congrArg Prod.snd hbb
          obtain ⟨l1, l2, l3⟩ := lx_adn (v := v) hL h0 (by omega) a7
          have hm2 : mask ||| 2 ^ v < 2 ^ r 1 := Nat.or_lt_two_pow hm (Nat.pow_lt_pow_right (by decide) a6)
          have hzf : mask.testBit v = false := by simpa using hz
          have hsh : nI mask ||| ((1 : Int32) <<< ((nI v - nI v / (32 : Int32) * (32 : Int32)) &&& 31)) = nI (mask ||| 2 ^ v) := by
            rw [show (32 : Int32) = nI 32 from rfl, pk_rem (by omega) (by omega) (by omega), Nat.mod_eq_of_lt (by omega)]
            exact or_bit (by omega)
          unfold zf_X10_readMember_j137 zf_X10_readMember_j173
          rw [zrd_at (i := (1 : Int32)) 1 rfl (by omega), m1, zb2_at (show zf_X10_number n 0 _ M = _ from a2), hsh]
          have hnd : e2 < T.1 → zdg (T.2 e2) = false := fun z => by
            obtain ⟨-, -, -, -, a5', -⟩ := zN_some hQ.2.2.2.2.2.1 t1
            rw [a5'] at z ⊢
            exact zrun_end z
          have hQ3 := a3
          obtain ⟨hB, h0', h70, hG, hp0, hp, ha⟩ := hQ3
          rcases hG with ⟨g1, g2⟩ | ⟨g1, g2, k1, k2, k3, k4⟩
          · have hE : EE M1 e2 := ⟨g2, by omega⟩
            rw [zglu_q g1, if_neg (show ¬ (e2 < T.1 ∧ zdg (T.2 e2) = true) from fun z => by rw [hnd z.1] at z; cases z.2)]
            refine ⟨M1, e2, ?_, (zglu_q g1).symm, a3, a4⟩
            split
            · exact l77e hE
            · exact l77e hE
          · by_cases c : zrun T zbl e2 < T.1 ∧ zdg (T.2 (zrun T zbl e2)) = true
            · have hnl : zlet (T.2 (zrun T zbl e2)) = false := by
                have := c.2
                simp only [zdg, Bool.and_eq_true, decide_eq_true_eq] at this
                simp only [zlet, Bool.and_eq_false_iff, decide_eq_false_iff_not]
                omega
              have e1 : zkS T (zrun T zbl e2) = 2 := by unfold zkS; rw [if_neg (by omega), if_neg (by rw [hnl]; decide), if_pos c.2]
              rw [e1] at k1
              rw [if_pos c, if_pos (show M1 77 9 = 2 from k1)]
              exact (ih (k + 1) (f + 1) (mask ||| 2 ^ v) e2 M1 (zadn L v) (w + 1) (by omega) (by omega) a3 hm2 (by rw [zpc_or mask (by omega) v (by omega) hzf, hpc]) l1 (by omega)).fr a4
            · have e1 : ¬ M1 77 9 = 2 := fun z => by
                have hb4 : zkS T (zrun T zbl e2) < 4 := by
                  unfold zkS
                  split
                  · omega
                  · split
                    · omega
                    · split <;> omega
                have hk2 := (nI_eq (by omega) (by omega)).mp (show nI (zkS T (zrun T zbl e2)) = nI 2 from k1.symm.trans z)
                unfold zkS at hk2
                split at hk2
                · omega
                · split at hk2
                  · omega
                  · split at hk2
                    · rename_i y1 y2 y3
                      exact c ⟨by omega, y3⟩
                    · omega
              rw [if_neg c, if_neg e1]
              refine ⟨M1, e2, ?_, rfl, a3, a4⟩
              show zf_X10_readMember_L77 n K (f + 1) (nI (mask ||| 2 ^ v)) 0 M1 = _
              rw [zf_X10_readMember_L77, if_pos g2, if_pos rfl]
        · rw [t1] at a1
          cases a1
    · rw [zq1_none t1]
      by_cases c1 : M 77 12 = -1
      · have hfin : ∃ x M', zf_X10_readMember_j137 n (fun x0 x1 x2 => zf_X10_readMember_L77 n K (f + 1) x0 x1 x2) (nI mask) M = K x M' ∧ EE M' (zrun T zbl e) ∧ FR10 M M' := by
          rcases num10 (n := n) hQ hT hL (by omega) (hi_m1 (c := r 1) (by omega)) (hj_m1 (by omega)) (show 0 ≤ 100000 by omega) hn with ⟨v', e', M1, a1, a2, a3, a4, a5, a6, a7⟩ | ⟨v', M1, a1, a2, a3, a4⟩
          · rw [t1] at a1
            cases a1
          · obtain ⟨x, hx⟩ := j137e (n := n) (f := f) (a := nI mask) (K := K) m1 (show zf_X10_number n 0 _ M = _ from a2) a3
            exact ⟨x, M1, hx, a3, a4⟩
        rw [if_pos c1, if_neg (show ¬ (1 : Int32) = 0 by decide)]
        by_cases c2 : M 77 9 = 2
        · rcases t2 with t2 | t2 | t2
          · exact absurd c1 t2
          · exact absurd c2 t2
          · rw [if_pos c2, zrd_at (i := (1 : Int32)) 1 rfl (by omega), m1, zb1_at t2, if_pos rfl]
            exact hfin
        · rw [if_neg c2]
          exact hfin
      · rw [if_neg c1]
        rcases hQ.2.2.2.1 with ⟨g1, g2⟩ | ⟨g1, g2, -⟩
        · exact ⟨_, M, rfl, ⟨by rw [zglu_q g1]; exact g2, he⟩, fr10_refl M⟩
        · exact absurd g2 c1
theorem j178e {M : ZMem} {e n : Nat} {a b c d : Int32} (h : EE M e) : zf_X10_readMember_j178 n a b c d M = some M := by
  unfold zf_X10_readMember_j178 zf_X10_readMember_j253
  rw [zb1_at (clo10e h), if_neg h.ne]
theorem zEnd_idem (T : ZT) (p : Nat) : zEnd T (zrun T zbl p) = zEnd T p := by
  unfold zEnd
  rw [zrun_idem]
theorem j178 {M : ZMem} {T : ZT} {e w mk n a b c d : Nat} {r : ZRow} {L : ZL} (hQ : QS10 M T e r L mk) (hT : TT T) (h9 : r 0 < 10) (hn : 400 < n) : LR10 M T (zf_X10_readMember_j178 n (nI a) (nI b) (nI c) (nI d) M) (zfin T mk (.ok (zrun T zbl e, zmbr r a b c d, L, w))) := by
  unfold zf_X10_readMember_j178 zf_X10_readMember_j253
  rcases clo10 (n := n) hQ hT hn with ⟨e2, M3, c1, c2, c3, c4⟩ | ⟨M3, c1, c2, c3, c4⟩
  · have q0 : M3 78 0 = nI (r 0) := c3.row (by omega) (by omega)
    have q1 : zwr (zwr (zwr (zwr M3 78 (15 + r 0) (nI a)) 78 (25 + r 0) (nI b)) 78 (35 + r 0) (nI c)) 78 (45 + r 0) (nI d) 78 0 = nI (r 0) := by rw [wrj (by omega), wrj (by omega), wrj (by omega), wrj (by omega)]; exact q0
    rw [zb1_at c2, if_pos c3.2.1, zrd_at (i := (0 : Int32)) 0 rfl (by omega), q0, zst_at (i := (15 : Int32) + nI (r 0)) (15 + r 0) (nI_add 15 (r 0)) (by omega), zst_at (i := (25 : Int32) + nI (r 0)) (25 + r 0) (nI_add 25 (r 0)) (by omega), zst_at (i := (35 : Int32) + nI (r 0)) (35 + r 0) (nI_add 35 (r 0)) (by omega), zst_at (i := (45 : Int32) + nI (r 0)) (45 + r 0) (nI_add 45 (r 0)) (by omega), zrd_at (i := (0 : Int32)) 0 rfl (by omega), q1, zst_at (i := (0 : Int32)) 0 rfl (by omega), nI_1, zfin_s (by rw [zEnd_idem]; exact c1)]
    exact ⟨_, rfl, ((((c3.r (by omega)).r (by omega)).r (by omega)).r (by omega)).r (by omega), fr10_trans c4 (fr10_trans fr10_78 (fr10_trans fr10_78 (fr10_trans fr10_78 (fr10_trans fr10_78 fr10_78))))⟩
  · rw [zb1_at c2, if_neg c3.ne, zfin_n (by rw [zEnd_idem]; exact c1), zrun_idem]
    exact ⟨_, rfl, c3, c4⟩
def zmbd10 (n : Nat) (M49 : ZMem) : Option ZMem := zb2 (zf_X10_number n (0 : Int32) (99 : Int32) M49) (fun v50 M51 => zb2 (zf_X10_number n v50 (99 : Int32) M51) (fun v52 M53 => zb2 (zf_X10_number n (1 : Int32) (99 : Int32) M53) (fun v54 M55 => (if (M55 77 12) = (-1 : Int32) then zb1 (zf_X10_isWord n (79 : Int64) M55) (fun v67 => (if v67 = 0 then (zf_X10_readMember_j178 n v50 v52 v54 (0 : Int32) M55) else zb1 (zf_X10_nextToken n M55) (fun M68 => (zf_X10_readMember_L77 n (fun v83 M84 => (zf_X10_readMember_j178 n v50 v52 v54 v83 M84)) n (0 : Int32) (1 : Int32) M68)))) else (zf_X10_readMember_j178 n v50 v52 v54 (0 : Int32) M55)))))
theorem reach10 {M : ZMem} {T : ZT} {p w mk n a b c : Nat} {r : ZRow} {L : ZL} (hQ : QS10 M T p r L mk) (hT : TT T) (hL : LX L) (hc : zcn L + 5 ≤ 8) (hW : WR r) (h9 : r 0 < 10) (hn : 400 < n) :
    LR10 M T (if (M 77 12) = (-1 : Int32) then zb1 (zf_X10_isWord n (79 : Int64) M) (fun v67 => (if v67 = 0 then (zf_X10_readMember_j178 n (nI a) (nI b) (nI c) (0 : Int32) M) else zb1 (zf_X10_nextToken n M) (fun M68 => (zf_X10_readMember_L77 n (fun v83 M84 => (zf_X10_readMember_j178 n (nI a) (nI b) (nI c) v83 M84)) n (0 : Int32) (1 : Int32) M68)))) else (zf_X10_readMember_j178 n (nI a) (nI b) (nI c) (0 : Int32) M)) (zfin T mk (match zreach T (r 1) p L w with
    | .ok (d, e, L, w) => .ok (e, zmbr r a b c d, L, w)
    | .error x => .error x)) := by
  have hl := hT.1
  have hQ2 := hQ
  obtain ⟨hB, h0, h70, hG, hp0, hp, ha⟩ := hQ2
  have hq := zrun_le (T := T) (f := zbl) hp
  have hqg := zrun_ge T zbl p
  rcases hG with ⟨g1, g2⟩ | ⟨g1, g2, g3⟩
  · have hE : EE M p := ⟨g2, by omega⟩
    rw [if_neg hE.ne, j178e hE]
    have hz : zreach T (r 1) p L w = .error p ∨ zreach T (r 1) p L w = .ok (0, p, L, w) := by
      unfold zreach
      rw [zglu_q g1]
      by_cases c1 : p < T.1 ∧ zlet (T.2 p) = true
      · rw [if_pos c1, if_neg (fun z => by
          have := z.1.2
          rw [zan_nb g1.2.2.2] at this
          cases this)]
        exact Or.inl rfl
      · rw [if_neg c1]
        exact Or.inr rfl
    rcases hz with hz | hz
    · rw [hz]
      exact ⟨M, rfl, hE, fr10_refl M⟩
    · rw [hz]
      have hN : zEnd T p = none := by
        unfold zEnd
        rw [zglu_q g1, if_neg (fun z => by
          have := g1.2.2.1
          rw [z.2] at this
          cases this)]
      show LR10 M T _ (zfin T mk (.ok (p, zmbr r a b c 0, L, w)))
      rw [zfin_n hN, zglu_q g1]
      exact ⟨M, rfl, hE, fr10_refl M⟩
  · rw [if_pos g2, zb1_at (show zf_X10_isWord n (79 : Int64) M = _ from isWord10 (s := 8) hT hB.1 g3 hq (by omega) hn), zB0]
    by_cases c1 : zrun T zbl p < T.1 ∧ zlet (T.2 (zrun T zbl p)) = true
    · have hne : zrun T zbl p ≠ p := fun z => g1 ⟨by omega, hp0, by rw [← z]; unfold zan; rw [c1.2]; rfl, ha⟩
      have hbl : zbl (T.2 (zrun T zbl p - 1)) = true := zrun_mem (p := p) (by omega) (by omega)
      rw [decide_eq_true c1.1, c1.2, Bool.and_true, Bool.true_and]
      by_cases c2 : zisw T (zrun T zbl p) (zrun T zlet (zrun T zbl p)) 8 = true
      · have hz : zreach T (r 1) p L w = zbyl T (r 1) 5 0 (zrun T zlet (zrun T zbl p)) L w := by
          unfold zreach
          rw [if_pos c1, if_pos ⟨⟨by omega, hbl⟩, c2⟩]
        have hin := zrun_in c1.1 c1.2
        have hle := zrun_le (T := T) (f := zlet) hq
        have hlast : zlet (T.2 (zrun T zlet (zrun T zbl p) - 1)) = true := zrun_mem (p := zrun T zbl p) (by omega) (by omega)
        have e2 : zkE T (zrun T zbl p) = zrun T zlet (zrun T zbl p) := by unfold zkE; rw [if_neg (by omega), if_pos c1.2]
        have k4 := g3.2.2.2
        rw [e2] at k4
        obtain ⟨M1, b1, b2, b3⟩ := look10 (n := n) (p := zrun T zlet (zrun T zbl p)) hT hB h0 h70 k4 g2 (by omega) hle (by unfold zan; rw [hlast]; rfl) hn
        rw [if_pos c2, zb1_at b1, hz]
        have g := by10 (mk := mk) (n := n) hT hW hn (fun v83 M84 => (zf_X10_readMember_j178 n (nI a) (nI b) (nI c) v83 M84)) 5 0 n 0 (zrun T zlet (zrun T zbl p)) M1 L w rfl (by omega) b2 (Nat.two_pow_pos _) rfl hL hc
        have g' : YR10 M1 T r mk (zf_X10_readMember_L77 n (fun v83 M84 => (zf_X10_readMember_j178 n (nI a) (nI b) (nI c) v83 M84)) n (0 : Int32) (1 : Int32) M1) (fun v83 M84 => (zf_X10_readMember_j178 n (nI a) (nI b) (nI c) v83 M84)) _ := g
        revert g'
        cases zbyl T (r 1) 5 0 (zrun T zlet (zrun T zbl p)) L w with
        | error e =>
          rintro ⟨x, M2, d1, d2, d3⟩
          have d1' := d1.trans (j178e d2)
          rw [d1']
          exact ⟨M2, rfl, d2, fr10_trans b3 d3⟩
        | ok z =>
          obtain ⟨zd, ze, zL, zw⟩ := z
          rintro ⟨M2, e', d1, d2, d3, d4⟩
          have d2' : ze = zrun T zbl e' := d2
          have d1' : _ = zf_X10_readMember_j178 n (nI a) (nI b) (nI c) (nI zd) M2 := d1
          rw [d1']
          show LR10 M T _ (zfin T mk (.ok (ze, zmbr r a b c zd, zL, zw)))
          rw [d2']
          exact (j178 (show QS10 M2 T e' r zL mk from d3) hT h9 hn).fr (fr10_trans b3 d4)
      · have hz : zreach T (r 1) p L w = .error (zrun T zbl p) := by
          unfold zreach
          rw [if_pos c1, if_neg (fun z => c2 z.2)]
        rw [if_neg c2, hz]
        have hj := j178 (w := w) (a := a) (b := b) (c := c) (d := 0) hQ hT h9 hn
        have hN : zEnd T (zrun T zbl p) = none := by
          unfold zEnd
          rw [zrun_idem, if_neg (fun z => by
            have := c1.2
            rw [z.2] at this
            cases this)]
        rw [zfin_n hN, zrun_idem] at hj
        exact hj
    · have hD : (decide (zrun T zbl p < T.1) && zlet (T.2 (zrun T zbl p))) = false := by
        cases hz : zlet (T.2 (zrun T zbl p)) with
        | false => rw [Bool.and_false]
        | true => rw [decide_eq_false (fun z => c1 ⟨z, hz⟩)]; rfl
      have hz : zreach T (r 1) p L w = .ok (0, zrun T zbl p, L, w) := by
        unfold zreach
        rw [if_neg c1]
      rw [hD, Bool.false_and, if_neg (show ¬ false = true by decide), hz]
      exact j178 hQ hT h9 hn
theorem body10_6 {M : ZMem} {T : ZT} {p w mk n : Nat} {r : ZRow} {L : ZL} (hQ : QS10 M T p r L mk) (hT : TT T) (hL : LX L) (hc : zcn L = 0) (hW : WR r) (h9 : r 0 < 10) (hn : 400 < n) :
    LR10 M T (zmbd10 n M) (zfin T mk (zbody T 6 p r L w)) := by
  rw [zbody_6]
  unfold zmbd10
  have h0 := hQ.2.1
  rcases num10 (n := n) hQ hT hL (by omega) (hi_lit (m := 99) (by omega)) (hj_lit (by omega)) (show 0 ≤ 100000 by omega) hn with ⟨v, e, M1, a1, a2, a3, a4, a5, a6, a7⟩ | ⟨v, M1, a1, a2, a3, a4⟩
  · rw [zq1_some a1, zb2_at (show zf_X10_number n 0 99 M = _ from a2)]
    obtain ⟨l1, l2, l3⟩ := lx_adn (v := v) hL h0 (by omega) a7
    rcases num10 (n := n) a3 hT l1 (by omega) (hi_lit (m := 99) (by omega)) (hj_lit (by omega)) (show v ≤ 100000 by omega) hn with ⟨v', e', M2, b1, b2, b3, b4, b5, b6, b7⟩ | ⟨v', M2, b1, b2, b3, b4⟩
    · rw [zq1_some b1, zb2_at (show zf_X10_number n (nI v) 99 M1 = _ from b2)]
      obtain ⟨m1, m2, m3⟩ := lx_adn (v := v') l1 l3 (by omega) b7
      rcases num10 (n := n) b3 hT m1 (by omega) (hi_lit (m := 99) (by omega)) (hj_lit (by omega)) (show 1 ≤ 100000 by omega) hn with ⟨u, e2, M3, c1, c2, c3, c4, c5, c6, c7⟩ | ⟨u, M3, c1, c2, c3, c4⟩
      · rw [zq1_some c1, zb2_at (show zf_X10_number n 1 99 M2 = _ from c2)]
        obtain ⟨n1, n2, n3⟩ := lx_adn (v := u) m1 m3 (by omega) c7
        exact (reach10 c3 hT n1 (by omega) hW h9 hn).fr (fr10_trans a4 (fr10_trans b4 c4))
      · rw [zq1_none c1, zb2_at (show zf_X10_number n 1 99 M2 = _ from c2), if_neg c3.ne, j178e c3, zfin_e]
        exact ⟨_, rfl, c3, fr10_trans a4 (fr10_trans b4 c4)⟩
    · rw [zq1_none b1, zb2_at (show zf_X10_number n (nI v) 99 M1 = _ from b2), zb2_at (num10e b3 _ _), if_neg b3.ne, j178e b3, zfin_e]
      exact ⟨_, rfl, b3, fr10_trans a4 b4⟩
  · rw [zq1_none a1, zb2_at (show zf_X10_number n 0 99 M = _ from a2), zb2_at (num10e a3 _ _), zb2_at (num10e a3 _ _), if_neg a3.ne, j178e a3, zfin_e]
    exact ⟨_, rfl, a3, a4⟩
