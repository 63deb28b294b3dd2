/-! LAYER 2: the law's switch -/
theorem zxl_at {β : Type} {xs : Nat → Int32} {L j : Nat} {i : Int32} (K : Int32 → Option β) (e : i = nI j) (h : j < L) (hL : L ≤ 3072) : zxl xs L i K = K (xs j) := by
  subst e
  unfold zxl
  rw [if_neg (by rw [nI_clamp (by omega)]; exact fun z => z.elim (nI_pos (by omega)) (fun z => absurd h (by omega))), nI_clamp (by omega)]
theorem law_end {L i : Nat} (hL : L ≤ 3072) (hi : i ≤ 10000) : (nI L - (6 : Int32)) < nI i ↔ ¬ i + 6 ≤ L := by
  by_cases h : 6 ≤ L
  · rw [show nI L - (6 : Int32) = nI (L - 6) from pk_sub (b := 6) h, nI_ltI (by omega) (by omega)]
    omega
  · have h1 : nI L - (6 : Int32) < nI 0 := by
      have : L = 0 ∨ L = 1 ∨ L = 2 ∨ L = 3 ∨ L = 4 ∨ L = 5 := by omega
      rcases this with rfl | rfl | rfl | rfl | rfl | rfl <;> decide
    exact ⟨fun _ => by omega, fun _ => zneg_lt h1 (by omega)⟩
set_option maxHeartbeats 20000000 in
set_option maxRecDepth 100000 in
theorem law_step {L n : Nat} {xs : Nat → Int32} (hL : L ≤ 3072) (hn : 400000000001 < n) (K : ZMem → Option Int32) {m i : Nat} {M : ZMem} (hi : i + 6 ≤ L) (hI : INV M) (ih : ∀ M', INV M' → zf_L_law_L18 L xs n K m (nI i + 6) M' = some 1) : zf_L_law_L18 L xs n K (m + 1) (nI i) M = some 1 := by
  have x0 : ∀ (J : Int32 → Option Int32), zxl xs L (nI i) J = J (xs i) := fun J => zxl_at J rfl (by omega) hL
  have x1 : ∀ (J : Int32 → Option Int32), zxl xs L (nI i + 1) J = J (xs (i + 1)) := fun J => zxl_at J (nI_add i 1) (by omega) hL
  have x2 : ∀ (J : Int32 → Option Int32), zxl xs L (nI i + 2) J = J (xs (i + 2)) := fun J => zxl_at J (nI_add i 2) (by omega) hL
  have x3 : ∀ (J : Int32 → Option Int32), zxl xs L (nI i + 3) J = J (xs (i + 3)) := fun J => zxl_at J (nI_add i 3) (by omega) hL
  have x4 : ∀ (J : Int32 → Option Int32), zxl xs L (nI i + 4) J = J (xs (i + 4)) := fun J => zxl_at J (nI_add i 4) (by omega) hL
  have x5 : ∀ (J : Int32 → Option Int32), zxl xs L (nI i + 5) J = J (xs (i + 5)) := fun J => zxl_at J (nI_add i 5) (by omega) hL
  have hj : ∀ M', INV M' → zf_L_law_j1608 (fun x0 x1 => zf_L_law_L18 L xs n K m x0 x1) (nI i) M' = some 1 := fun M' h => ih M' h
  rw [zf_L_law_L18, if_neg (fun z => absurd hi ((law_end hL (by omega)).mp z)), x0]
  generalize xs i &&& (63 : Int32) = c
  by_cases h0 : c = (0 : Int32)
  · obtain ⟨v, M1, M2, e1, e2, e3⟩ := op_feed (n := n) (by omega) hI (xs (i + 1)) (xs (i + 2)) (xs (i + 3)) (xs (i + 4)) (xs (i + 5))
    rw [if_pos h0, x1, x2, x3, x4, x5, zb2_at e1, x1, x2, x3, x4, x5, zb2_at e2, if_pos rfl]
    exact hj M2 e3
  rw [if_neg h0]
  by_cases h1 : c = (1 : Int32)
  · obtain ⟨v, M1, M2, e1, e2, e3⟩ := op_back hI (xs (i + 1))
    rw [if_pos h1, x1, zb2_at e1, x1, zb2_at e2, if_pos rfl]
    exact hj M2 e3
  rw [if_neg h1]
  by_cases h2 : c = (2 : Int32)
  · obtain ⟨v, M1, M2, e1, e2, e3⟩ := op_text (n := n) (by omega) hI
    rw [if_pos h2, zb2_at e1, zb2_at e2, if_pos rfl]
    exact hj M2 e3
  rw [if_neg h2]
  by_cases h3 : c = (3 : Int32)
  · obtain ⟨v, M1, M2, e1, e2, e3⟩ := op_days (n := n) (by omega) hI (xs (i + 1))
    rw [if_pos h3, x1, zb2_at e1, x1, zb2_at e2, if_pos rfl]
    exact hj M2 e3
  rw [if_neg h3]
  by_cases h4 : c = (4 : Int32)
  · obtain ⟨v, M1, M2, e1, e2, e3⟩ := op_order (n := n) (by omega) hI (xs (i + 1))
    rw [if_pos h4, x1, zb2_at e1, x1, zb2_at e2, if_pos rfl]
    exact hj M2 e3
  rw [if_neg h4]
  by_cases h5 : c = (5 : Int32)
  · obtain ⟨v, M1, M2, e1, e2, e3⟩ := op_send (n := n) (by omega) hI
    rw [if_pos h5, zb2_at e1, zb2_at e2, if_pos rfl]
    exact hj M2 e3
  rw [if_neg h5]
  by_cases h6 : c = (6 : Int32)
  · obtain ⟨v, M1, M2, e1, e2, e3⟩ := op_out (n := n) (by omega) hI (xs (i + 1))
    rw [if_pos h6, x1, zb2_at e1, x1, zb2_at e2, if_pos rfl]
    exact hj M2 e3
  rw [if_neg h6]
  by_cases h7 : c = (7 : Int32)
  · obtain ⟨v, M1, M2, e1, e2, e3⟩ := op_file (n := n) (by omega) hI (xs (i + 1))
    rw [if_pos h7, x1, zb2_at e1, x1, zb2_at e2, if_pos rfl]
    exact hj M2 e3
  rw [if_neg h7]
  by_cases h8 : c = (8 : Int32)
  · rw [if_pos h8, x1, x2]
    have hz : ∀ b : Bool, zf_L_law_j479 (xs (i + 1)) M xs L (nI i) n (fun x0 x1 => zf_L_law_L18 L xs n K m x0 x1) (zB b) = if xs (i + 2) = 0 then zb2 (zf_X9_lazy (xs (i + 1)) (zB b) M) (fun v391 M392 => zf_L_law_j501 n (xs (i + 1)) M392 v391 (fun x0 x1 => zf_L_law_L18 L xs n K m x0 x1) (nI i) (0 : Int32)) else zb2 (zf_X9_lazy (xs (i + 1)) (zB b) M) (fun v391 M392 => zf_L_law_j501 n (xs (i + 1)) M392 v391 (fun x0 x1 => zf_L_law_L18 L xs n K m x0 x1) (nI i) (1 : Int32)) := fun b => by
      obtain ⟨v, M1, M2, e1, e2, e3⟩ := op_lazy (n := n) (by omega) hI (xs (i + 1)) b
      unfold zf_L_law_j479
      rw [zb2_at e1, x1, x2, zb2_at e1, zb2_at e1]
    by_cases g : xs (i + 2) = 0
    · rw [if_pos g]
      refine (hz false).trans ?_
      obtain ⟨v, M1, M2, e1, e2, e3⟩ := op_lazy (n := n) (by omega) hI (xs (i + 1)) false
      rw [if_pos g, zb2_at e1]
      unfold zf_L_law_j501
      rw [zb2_at (show zf_X10_lazy n (xs (i + 1)) 0 M1 = _ from e2), if_pos rfl]
      exact hj M2 e3
    · rw [if_neg g]
      refine (hz true).trans ?_
      obtain ⟨v, M1, M2, e1, e2, e3⟩ := op_lazy (n := n) (by omega) hI (xs (i + 1)) true
      rw [if_neg g, zb2_at e1]
      unfold zf_L_law_j501
      rw [zb2_at (show zf_X10_lazy n (xs (i + 1)) 1 M1 = _ from e2), if_pos rfl]
      exact hj M2 e3
  rw [if_neg h8]
  by_cases h9 : c = (9 : Int32)
  · obtain ⟨v, M1, M2, e1, e2, e3⟩ := op_fund (n := n) (by omega) hI (xs (i + 1))
    rw [if_pos h9, x1, zb2_at e1, x1, zb2_at e2, if_pos rfl]
    exact hj M2 e3
  rw [if_neg h9]
  by_cases h10 : c = (10 : Int32)
  · obtain ⟨v, M1, M2, e1, e2, e3⟩ := op_rule (n := n) (by omega) hI (xs (i + 1))
    rw [if_pos h10, x1, zb2_at e1, x1, zb2_at e2, if_pos rfl]
    exact hj M2 e3
  rw [if_neg h10]
  by_cases h11 : c = (11 : Int32)
  · obtain ⟨v, M1, M2, e1, e2, e3⟩ := op_period (n := n) (by omega) hI (xs (i + 1)) (xs (i + 2))
    rw [if_pos h11, x1, x2, zb2_at e1, x1, x2, zb2_at e2, if_pos rfl]
    exact hj M2 e3
  rw [if_neg h11]
  by_cases h12 : c = (12 : Int32)
  · obtain ⟨v, M1, M2, e1, e2, e3⟩ := op_quarrel (n := n) (by omega) hI (xs (i + 1)) (xs (i + 2))
    rw [if_pos h12, x1, x2, zb2_at e1, x1, x2, zb2_at e2, if_pos rfl]
    exact hj M2 e3
  rw [if_neg h12]
  by_cases h13 : c = (13 : Int32)
  · obtain ⟨v, M1, M2, e1, e2, e3⟩ := op_undo (n := n) (by omega) hI
    rw [if_pos h13, zb2_at e1, zb2_at e2, if_pos rfl]
    exact hj M2 e3
  rw [if_neg h13]
  by_cases h14 : c = (14 : Int32)
  · obtain ⟨v, e1, e2⟩ := op_member (n := n) (by omega) hI (xs (i + 1)) (xs (i + 2))
    rw [if_pos h14, x1, x2, zb1_at e1, x1, x2, zb1_at e2, if_pos rfl]
    exact hj M hI
  rw [if_neg h14]
  by_cases h15 : c = (15 : Int32)
  · obtain ⟨v, e1, e2⟩ := op_channel (n := n) (by omega) hI (xs (i + 1)) (xs (i + 2))
    rw [if_pos h15, x1, x2, zb1_at e1, x1, x2, zb1_at e2, if_pos rfl]
    exact hj M hI
  rw [if_neg h15]
  by_cases h16 : c = (16 : Int32)
  · obtain ⟨v, e1, e2⟩ := op_line hI (xs (i + 1)) (xs (i + 2))
    rw [if_pos h16, x1, x2, zb1_at e1, x1, x2, zb1_at e2, if_pos rfl]
    exact hj M hI
  rw [if_neg h16]
  by_cases h17 : c = (17 : Int32)
  · obtain ⟨v, e1, e2⟩ := op_ranked (n := n) (by omega) hI (xs (i + 1))
    rw [if_pos h17, x1, zb1_at e1, x1, zb1_at e2, if_pos rfl]
    exact hj M hI
  rw [if_neg h17]
  by_cases h18 : c = (18 : Int32)
  · obtain ⟨v, e1, e2⟩ := op_together (n := n) (by omega) hI (xs (i + 1)) (xs (i + 2))
    rw [if_pos h18, x1, x2, zb1_at e1, x1, x2, zb1_at e2, if_pos rfl]
    exact hj M hI
  rw [if_neg h18]
  by_cases h19 : c = (19 : Int32)
  · obtain ⟨v, e1, e2⟩ := op_busiest (n := n) (by omega) hI (xs (i + 1))
    rw [if_pos h19, x1, zb1_at e1, x1, zb1_at e2, if_pos rfl]
    exact hj M hI
  rw [if_neg h19]
  by_cases h20 : c = (20 : Int32)
  · obtain ⟨v, M1, M2, e1, e2, e3⟩ := op_classes (n := n) (by omega) hI
    rw [if_pos h20, zb2_at e1, zb2_at e2, if_pos rfl]
    exact hj M2 e3
  rw [if_neg h20]
  by_cases h21 : c = (21 : Int32)
  · obtain ⟨v, M1, M2, e1, e2, e3⟩ := op_classOf (n := n) (by omega) hI (xs (i + 1))
    rw [if_pos h21, x1, zb2_at e1, x1, zb2_at e2, if_pos rfl]
    exact hj M2 e3
  rw [if_neg h21]
  by_cases h22 : c = (22 : Int32)
  · obtain ⟨v, M1, M2, e1, e2, e3⟩ := op_classBits (n := n) (by omega) hI (xs (i + 1))
    rw [if_pos h22, x1, zb2_at e1, x1, zb2_at e2, if_pos rfl]
    exact hj M2 e3
  rw [if_neg h22]
  by_cases h23 : c = (23 : Int32)
  · obtain ⟨v, M1, M2, e1, e2, e3⟩ := op_splits (n := n) (by omega) hI (xs (i + 1))
    rw [if_pos h23, x1, zb2_at e1, x1, zb2_at e2, if_pos rfl]
    exact hj M2 e3
  rw [if_neg h23]
  by_cases h24 : c = (24 : Int32)
  · obtain ⟨v, M1, e1, e2, e3⟩ := op_feud (n := n) (by omega) hI
    rw [if_pos h24, zb2_at e1, zb1_at e2, if_pos rfl]
    exact hj M1 e3
  rw [if_neg h24]
  by_cases h25 : c = (25 : Int32)
  · obtain ⟨v, M1, M2, e1, e2, e3⟩ := op_settles (n := n) (by omega) hI
    rw [if_pos h25, zb2_at e1, zb2_at e2, if_pos rfl]
    exact hj M2 e3
  rw [if_neg h25]
  by_cases h26 : c = (26 : Int32)
  · obtain ⟨v, M1, M2, e1, e2, e3⟩ := op_lead (n := n) (by omega) hI (xs (i + 1))
    rw [if_pos h26, x1, zb2_at e1, x1, zb2_at e2, if_pos rfl]
    exact hj M2 e3
  rw [if_neg h26]
  by_cases h27 : c = (27 : Int32)
  · obtain ⟨v, e1, e2⟩ := op_costFor (n := n) (by omega) hI (xs (i + 1))
    rw [if_pos h27, x1, zb1_at e1, x1, zb1_at e2, if_pos rfl]
    exact hj M hI
  rw [if_neg h27]
  by_cases h28 : c = (28 : Int32)
  · obtain ⟨v, e1, e2⟩ := op_reachFor (n := n) (by omega) hI (xs (i + 1)) (xs (i + 2))
    rw [if_pos h28, x1, x2, zb1_at e1, x1, x2, zb1_at e2, if_pos rfl]
    exact hj M hI
  rw [if_neg h28]
  by_cases h29 : c = (29 : Int32)
  · obtain ⟨v, e1, e2⟩ := op_cheapest (n := n) (by omega) hI (xs (i + 1)) (xs (i + 2))
    rw [if_pos h29, x1, x2, zb1_at e1, x1, x2, zb1_at e2, if_pos rfl]
    exact hj M hI
  rw [if_neg h29]
  by_cases h30 : c = (30 : Int32)
  · obtain ⟨v, e1, e2⟩ := op_reachedBy (n := n) (by omega) hI (xs (i + 1))
    rw [if_pos h30, x1, zb1_at e1, x1, zb1_at e2, if_pos rfl]
    exact hj M hI
  rw [if_neg h30]
  by_cases h31 : c = (31 : Int32)
  · obtain ⟨v, M1, M2, e1, e2, e3⟩ := op_fundOf (n := n) (by omega) hI (xs (i + 1))
    rw [if_pos h31, x1, zb2_at e1, x1, zb2_at e2, if_pos rfl]
    exact hj M2 e3
  rw [if_neg h31]
  by_cases h32 : c = (32 : Int32)
  · obtain ⟨v, M1, M2, e1, e2, e3⟩ := op_pot (n := n) (by omega) hI (xs (i + 1))
    rw [if_pos h32, x1, zb2_at e1, x1, zb2_at e2, if_pos rfl]
    exact hj M2 e3
  rw [if_neg h32]
  by_cases h33 : c = (33 : Int32)
  · obtain ⟨v, M1, M2, e1, e2, e3⟩ := op_paid (n := n) (by omega) hI (xs (i + 1))
    rw [if_pos h33, x1, zb2_at e1, x1, zb2_at e2, if_pos rfl]
    exact hj M2 e3
  rw [if_neg h33]
  by_cases h34 : c = (34 : Int32)
  · obtain ⟨v, M1, M2, e1, e2, e3⟩ := op_had (n := n) (by omega) hI (xs (i + 1)) (xs (i + 2))
    rw [if_pos h34, x1, x2, zb2_at e1, x1, x2, zb2_at e2, if_pos rfl]
    exact hj M2 e3
  rw [if_neg h34]
  by_cases h35 : c = (35 : Int32)
  · obtain ⟨v, M1, M2, e1, e2, e3⟩ := op_share (n := n) (by omega) hI
    rw [if_pos h35, zb2_at e1, zb2_at e2, if_pos rfl]
    exact hj M2 e3
  rw [if_neg h35]
  by_cases h36 : c = (36 : Int32)
  · obtain ⟨v, M1, M2, e1, e2, e3⟩ := op_votes (n := n) (by omega) hI (xs (i + 1))
    rw [if_pos h36, x1, zb2_at e1, x1, zb2_at e2, if_pos rfl]
    exact hj M2 e3
  rw [if_neg h36]
  by_cases h37 : c = (37 : Int32)
  · obtain ⟨v, M1, M2, e1, e2, e3⟩ := op_wereOut (n := n) (by omega) hI (xs (i + 1)) (xs (i + 2))
    rw [if_pos h37, x1, x2, zb2_at e1, x1, x2, zb2_at e2, if_pos rfl]
    exact hj M2 e3
  rw [if_neg h37]
  by_cases h38 : c = (38 : Int32)
  · obtain ⟨v, M1, M2, e1, e2, e3⟩ := op_wereFund (n := n) (by omega) hI (xs (i + 1)) (xs (i + 2))
    rw [if_pos h38, x1, x2, zb2_at e1, x1, x2, zb2_at e2, if_pos rfl]
    exact hj M2 e3
  rw [if_neg h38]
  by_cases h39 : c = (39 : Int32)
  · obtain ⟨v, M1, M2, e1, e2, e3⟩ := op_wereRule (n := n) (by omega) hI (xs (i + 1)) (xs (i + 2))
    rw [if_pos h39, x1, x2, zb2_at e1, x1, x2, zb2_at e2, if_pos rfl]
    exact hj M2 e3
  rw [if_neg h39]
  by_cases h40 : c = (40 : Int32)
  · obtain ⟨v, M1, M2, e1, e2, e3⟩ := op_ruleFor (n := n) (by omega) hI (xs (i + 1))
    rw [if_pos h40, x1, zb2_at e1, x1, zb2_at e2, if_pos rfl]
    exact hj M2 e3
  rw [if_neg h40]
  by_cases h41 : c = (41 : Int32)
  · obtain ⟨v, M1, M2, e1, e2, e3⟩ := op_leaver (n := n) (by omega) hI (xs (i + 1))
    rw [if_pos h41, x1, zb2_at e1, x1, zb2_at e2, if_pos rfl]
    exact hj M2 e3
  rw [if_neg h41]
  by_cases h42 : c = (42 : Int32)
  · obtain ⟨v, M1, M2, e1, e2, e3⟩ := op_alone (n := n) (by omega) hI (xs (i + 1))
    rw [if_pos h42, x1, zb2_at e1, x1, zb2_at e2, if_pos rfl]
    exact hj M2 e3
  rw [if_neg h42]
  by_cases h43 : c = (43 : Int32)
  · obtain ⟨v, M1, M2, e1, e2, e3⟩ := op_needs (n := n) (by omega) hI
    rw [if_pos h43, zb2_at e1, zb2_at e2, if_pos rfl]
    exact hj M2 e3
  rw [if_neg h43]
  by_cases h44 : c = (44 : Int32)
  · obtain ⟨v, M1, M2, e1, e2, e3⟩ := op_rests (n := n) (by omega) hI (xs (i + 1)) (xs (i + 2)) (xs (i + 3))
    rw [if_pos h44, x1, x2, x3, zb2_at e1, x1, x2, x3, zb2_at e2, if_pos rfl]
    exact hj M2 e3
  rw [if_neg h44]
  by_cases h45 : c = (45 : Int32)
  · obtain ⟨v, e1, e2⟩ := op_sample (n := n) (by omega) hI (xs (i + 1)) (xs (i + 2))
    rw [if_pos h45, x1, x2, zb1_at e1, x1, x2, zb1_at e2, if_pos rfl]
    exact hj M hI
  rw [if_neg h45]
  by_cases h46 : c = (46 : Int32)
  · obtain ⟨v, e1, e2⟩ := op_estimate (n := n) (by omega) hI (xs (i + 1))
    rw [if_pos h46, x1, zb1_at e1, x1, zb1_at e2, if_pos rfl]
    exact hj M hI
  rw [if_neg h46]
  by_cases h47 : c = (47 : Int32)
  · obtain ⟨v, e1, e2⟩ := op_nearest (n := n) (by omega) hI (xs (i + 1)) (xs (i + 2))
    rw [if_pos h47, x1, x2, zb1_at e1, x1, x2, zb1_at e2, if_pos rfl]
    exact hj M hI
  rw [if_neg h47]
  by_cases h48 : c = (48 : Int32)
  · obtain ⟨v, e1, e2⟩ := op_within (n := n) (by omega) hI (xs (i + 1)) (xs (i + 2))
    rw [if_pos h48, x1, x2, zb1_at e1, x1, x2, zb1_at e2, if_pos rfl]
    exact hj M hI
  rw [if_neg h48]
  by_cases h49 : c = (49 : Int32)
  · obtain ⟨v, M1, M2, e1, e2, e3⟩ := op_spell (n := n) (by omega) hI (xs (i + 1))
    rw [if_pos h49, x1, zb2_at e1, x1, zb2_at e2, if_pos rfl]
    exact hj M2 e3
  rw [if_neg h49]
  by_cases h50 : c = (50 : Int32)
  · obtain ⟨v, M1, M2, e1, e2, e3⟩ := op_report (n := n) (by omega) hI (xs (i + 1))
    rw [if_pos h50, x1, zb2_at e1, x1, zb2_at e2, if_pos rfl]
    exact hj M2 e3
  rw [if_neg h50]
  by_cases h51 : c = (51 : Int32)
  · obtain ⟨v, e1, e2⟩ := op_count (n := n) (by omega) hI (xs (i + 1))
    rw [if_pos h51, x1, zb1_at e1, x1, zb1_at e2, if_pos rfl]
    exact hj M hI
  rw [if_neg h51]
  exact hj M hI
theorem law_go {L n : Nat} {xs : Nat → Int32} (hL : L ≤ 3072) (hn : 400000000001 < n) : ∀ d i m (M : ZMem), L ≤ i + d → i ≤ 4000 → d < m → INV M → zf_L_law_L18 L xs n (fun _ => some 1) m (nI i) M = some 1 := by
  intro d
  induction d with
  | zero =>
    intro i m M h1 h2 h3 hI
    obtain ⟨m, rfl⟩ : ∃ y, m = y + 1 := ⟨m - 1, by omega⟩
    rw [zf_L_law_L18, if_pos ((law_end hL (by omega)).mpr (by omega))]
  | succ d ih =>
    intro i m M h1 h2 h3 hI
    obtain ⟨m, rfl⟩ : ∃ y, m = y + 1 := ⟨m - 1, by omega⟩
    by_cases c : i + 6 ≤ L
    · refine law_step hL hn _ c hI (fun M' hI' => ?_)
      rw [show nI i + 6 = nI (i + 6) from nI_add i 6]
      exact ih (i + 6) m M' (by omega) (by omega) (by omega) hI'
    · rw [zf_L_law_L18, if_pos ((law_end hL (by omega)).mpr c)]
theorem zpure (L : Nat) (xs : Nat → Int32) (hL : L ≤ 3072) : ∃ n, zf_law n L xs zM0 = some 1 := by
  obtain ⟨n, hn⟩ : ∃ n, 400000000001 < n := ⟨400000000002, by omega⟩
  exact ⟨n, law_go hL hn L 0 n zM0 (by omega) (by omega) (by omega) inv0⟩
