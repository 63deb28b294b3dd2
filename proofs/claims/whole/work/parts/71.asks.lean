/-! LAYER 2: what is asked (3) -/
def zon (r : ZRow) (d : Nat) : Nat := zsum (fun i => (decide (r (15 + i) ≤ d ∧ d ≤ r (25 + i))).toNat) (r 0)
theorem zon_le (r : ZRow) (d : Nat) : zon r d ≤ r 0 := zsum_le1
theorem on9 {M : ZMem} {t nx u : Nat} {r : ZRow} {U : Nat → ZRow} {T : ZT} {L : ZL} (h : IC M t nx r u U T L) (hw : WF r) {d n : Nat} (hd : d < 2147483648) (hn : 10 < n) : zf_X9_claimantsOn n (nI d) M = some (nI (zon r d)) := by
  have hb := hw.b
  obtain ⟨a0, -⟩ := h.rd
  have hdy := fun (K : Nat → Option Int32) => h.1.dy (K := K)
  obtain ⟨h0, h1, h2, h3, h4, h5, h6, h7, h8, h9, h10, h11, h12, h13, h14, hm, hc, hf⟩ := id hw
  unfold zf_X9_claimantsOn
  refine zloop (fun n i (s : Nat) => zf_X9_claimantsOn_L4 M (nI d) (fun v => some v) n (nI s) (nI i)) (zsum (fun i => (decide (r (15 + i) ≤ d ∧ d ≤ r (25 + i))).toNat)) (some (nI (zon r d))) (r 0) ?_ ?_ n 0 (Nat.zero_le _) (by omega)
  · intro n i hi
    obtain ⟨m1, m2, m3, m4⟩ := h.tm hi
    obtain ⟨b1, b2, b3, b4, b5⟩ := hm i hi
    show zf_X9_claimantsOn_L4 M (nI d) _ (n + 1) (nI _) (nI i) = zf_X9_claimantsOn_L4 M (nI d) _ n (nI _) (nI (i + 1))
    have e : ∀ f : Nat → Nat, zsum f (i + 1) = zsum f i + f i := fun f => rfl
    rw [e]
    by_cases g1 : r (15 + i) ≤ d
    · by_cases g2 : d ≤ r (25 + i)
      · rw [decide_eq_true ⟨g1, g2⟩]
        simp (disch := (first | assumption | omega)) only [zf_X9_claimantsOn_L4, zf_X9_claimantsOn_j44, zlp, ↓hdy, a0, ↓ev_ifB, ↓ev_iflt, ↓ev_ifle, ↓ev_ifeq, ↓ifp, ↓ifn, ↓ev_b1, ↓ev_b2, ↓ev_put, ↓ev_z0, ↓ev_z1, ↓ev_zB, ↓ev_has9, ↓ev_has10, ↓ev_shl, ↓ev_bit, ↓ev_in, ↓ev_inG, ↓ev_rd, ↓ev_st, decide_eq_true_eq, nI_add, ev_sub, pk_mul, nI_or, nI_xor, zBt, zBf, if_true, if_false, eq_self, Bool.false_eq_true, m1, m2, Bool.toNat_true]
      · rw [decide_eq_false (fun z => g2 z.2)]
        simp (disch := (first | assumption | omega)) only [zf_X9_claimantsOn_L4, zf_X9_claimantsOn_j44, zlp, ↓hdy, a0, ↓ev_ifB, ↓ev_iflt, ↓ev_ifle, ↓ev_ifeq, ↓ifp, ↓ifn, ↓ev_b1, ↓ev_b2, ↓ev_put, ↓ev_z0, ↓ev_z1, ↓ev_zB, ↓ev_has9, ↓ev_has10, ↓ev_shl, ↓ev_bit, ↓ev_in, ↓ev_inG, ↓ev_rd, ↓ev_st, decide_eq_true_eq, nI_add, ev_sub, pk_mul, nI_or, nI_xor, zBt, zBf, if_true, if_false, eq_self, Bool.false_eq_true, m1, m2, Bool.toNat_false, Nat.add_zero]
    · rw [decide_eq_false (fun z => g1 z.1)]
      simp (disch := (first | assumption | omega)) only [zf_X9_claimantsOn_L4, zf_X9_claimantsOn_j44, zlp, ↓hdy, a0, ↓ev_ifB, ↓ev_iflt, ↓ev_ifle, ↓ev_ifeq, ↓ifp, ↓ifn, ↓ev_b1, ↓ev_b2, ↓ev_put, ↓ev_z0, ↓ev_z1, ↓ev_zB, ↓ev_has9, ↓ev_has10, ↓ev_shl, ↓ev_bit, ↓ev_in, ↓ev_inG, ↓ev_rd, ↓ev_st, decide_eq_true_eq, nI_add, ev_sub, pk_mul, nI_or, nI_xor, zBt, zBf, if_true, if_false, eq_self, Bool.false_eq_true, m1, m2, Bool.toNat_false, Nat.add_zero]
  · intro n
    show zf_X9_claimantsOn_L4 M (nI d) _ (n + 1) (nI _) (nI (r 0)) = _
    simp (disch := (first | assumption | omega)) only [zf_X9_claimantsOn_L4, zlp, ↓hdy, a0, ↓ev_ifB, ↓ev_iflt, ↓ev_ifle, ↓ev_ifeq, ↓ifp, ↓ifn, ↓ev_b1, ↓ev_b2, ↓ev_put, ↓ev_z0, ↓ev_z1, ↓ev_zB, ↓ev_has9, ↓ev_has10, ↓ev_shl, ↓ev_bit, ↓ev_in, ↓ev_inG, ↓ev_rd, ↓ev_st, decide_eq_true_eq, nI_add, ev_sub, pk_mul, nI_or, nI_xor, zBt, zBf, if_true, if_false, eq_self, Bool.false_eq_true, zon]
theorem on10 {M : ZMem} {r : ZRow} (h : IR M r) (hw : WF r) {d n : Nat} (hd : d < 2147483648) (hn : 10 < n) (K : Int32 → Option Int32) : zf_X10_busiest_L31 M (nI d) K n (nI 0) (nI 0) = K (nI (zon r d)) := by
  have hb := hw.b
  refine zloop (fun n i (s : Nat) => zf_X10_busiest_L31 M (nI d) K n (nI s) (nI i)) (zsum (fun i => (decide (r (15 + i) ≤ d ∧ d ≤ r (25 + i))).toNat)) (K (nI (zon r d))) (r 0) ?_ ?_ n 0 (Nat.zero_le _) (by omega)
  · intro n i hi
    have ho := isOn10 h hw hi hd
    show zf_X10_busiest_L31 M (nI d) _ (n + 1) (nI _) (nI i) = zf_X10_busiest_L31 M (nI d) _ n (nI _) (nI (i + 1))
    have e : ∀ f : Nat → Nat, zsum f (i + 1) = zsum f i + f i := fun f => rfl
    rw [e]
    by_cases g1 : r (15 + i) ≤ d ∧ d ≤ r (25 + i)
    · rw [decide_eq_true g1]
      simp (disch := (first | assumption | omega)) only [zf_X10_busiest_L31, zf_X10_busiest_j60, zlp, ↓rd78 h, ↓ev_ifB, ↓ev_iflt, ↓ev_ifle, ↓ev_ifeq, ↓ifp, ↓ifn, ↓ev_b1, ↓ev_b2, ↓ev_put, ↓ev_z0, ↓ev_z1, ↓ev_zB, ↓ev_has9, ↓ev_has10, ↓ev_shl, ↓ev_bit, ↓ev_in, ↓ev_inG, ↓ev_rd, ↓ev_st, decide_eq_true_eq, nI_add, ev_sub, pk_mul, nI_or, nI_xor, zBt, zBf, if_true, if_false, eq_self, Bool.false_eq_true, ↓zb1_at ho, Bool.toNat_true]
    · rw [decide_eq_false g1]
      simp (disch := (first | assumption | omega)) only [zf_X10_busiest_L31, zf_X10_busiest_j60, zlp, ↓rd78 h, ↓ev_ifB, ↓ev_iflt, ↓ev_ifle, ↓ev_ifeq, ↓ifp, ↓ifn, ↓ev_b1, ↓ev_b2, ↓ev_put, ↓ev_z0, ↓ev_z1, ↓ev_zB, ↓ev_has9, ↓ev_has10, ↓ev_shl, ↓ev_bit, ↓ev_in, ↓ev_inG, ↓ev_rd, ↓ev_st, decide_eq_true_eq, nI_add, ev_sub, pk_mul, nI_or, nI_xor, zBt, zBf, if_true, if_false, eq_self, Bool.false_eq_true, ↓zb1_at ho, Bool.toNat_false, Nat.add_zero]
  · intro n
    show zf_X10_busiest_L31 M (nI d) _ (n + 1) (nI _) (nI (r 0)) = _
    simp (disch := (first | assumption | omega)) only [zf_X10_busiest_L31, zlp, ↓rd78 h, ↓ev_ifB, ↓ev_iflt, ↓ev_ifle, ↓ev_ifeq, ↓ifp, ↓ifn, ↓ev_b1, ↓ev_b2, ↓ev_put, ↓ev_z0, ↓ev_z1, ↓ev_zB, ↓ev_has9, ↓ev_has10, ↓ev_shl, ↓ev_bit, ↓ev_in, ↓ev_inG, ↓ev_rd, ↓ev_st, decide_eq_true_eq, nI_add, ev_sub, pk_mul, nI_or, nI_xor, zBt, zBf, if_true, if_false, eq_self, Bool.false_eq_true, zon]
/-- the busiest of x + 1 days: how many, which -/
def zbus (r : ZRow) : Nat → Nat × Nat
  | 0 => (zon r (r 6), r 6)
  | x + 1 => if zon r (r 6 + (x + 1)) ≤ (zbus r x).1 then zbus r x else (zon r (r 6 + (x + 1)), r 6 + (x + 1))
theorem zbus_le (r : ZRow) : ∀ x, (zbus r x).1 ≤ r 0
  | 0 => zon_le r _
  | x + 1 => by
    unfold zbus
    split
    · exact zbus_le r x
    · exact zon_le r _
theorem op_busiest {n : Nat} (hn : 803 < n) {M : ZMem} (hI : INV M) (a : Int32) : OPQ (zf_X9_busiest n a) (zf_X10_busiest n a) M := by
  obtain ⟨t, nx, r, u, U, T, L, hS, hC, hM⟩ := id hI
  have hw := hS.1.1
  have hb := hw.b
  obtain ⟨a0, a1, a2, a3, a4, a5, a6, a7, a8, a9, a10, a11, a12, a13, a14, -⟩ := hC.rd
  have h9 : ∀ (K : Int32 → Int32 → Option Int32) k, 101 < k → zf_X9_busiest_L30 M n K k (-nI 1) (nI (r 6)) (nI (r 6)) = K (nI (zbus r (r 7 - r 6)).1) (nI (zbus r (r 7 - r 6)).2) := by
    intro K k hk
    obtain ⟨k, rfl⟩ : ∃ m, k = m + 1 := ⟨k - 1, by omega⟩
    have ho := on9 (n := n) hC hw (d := r 6) (by omega) (by omega)
    have hz := zon_le r (r 6)
    have step1 : zf_X9_busiest_L30 M n K (k + 1) (-nI 1) (nI (r 6)) (nI (r 6)) = zf_X9_busiest_L30 M n K k (nI (zbus r 0).1) (nI (zbus r 0).2) (nI (r 6 + (0 + 1))) := by
      simp (disch := (first | assumption | omega)) only [zf_X9_busiest_L30, zf_X9_busiest_j62, zlp, a14, ↓ev_ifB, ↓ev_iflt, ↓ev_ifle, ↓ev_ifeq, ↓ifp, ↓ifn, ↓ev_b1, ↓ev_b2, ↓ev_put, ↓ev_z0, ↓ev_z1, ↓ev_zB, ↓ev_has9, ↓ev_has10, ↓ev_shl, ↓ev_bit, ↓ev_in, ↓ev_inG, ↓ev_rd, ↓ev_st, decide_eq_true_eq, nI_add, ev_sub, pk_mul, nI_or, nI_xor, zBt, zBf, if_true, if_false, eq_self, Bool.false_eq_true, ↓zb1_at ho, ↓m1_le, zbus]
    rw [step1]
    refine zloop (fun m x (s : Nat × Nat) => zf_X9_busiest_L30 M n K m (nI s.1) (nI s.2) (nI (r 6 + (x + 1)))) (zbus r) _ (r 7 - r 6) (fun m x hx => ?_) (fun m => ?_) k 0 (by omega) (by omega)
    · show zf_X9_busiest_L30 M n K (m + 1) (nI _) (nI _) (nI (r 6 + (x + 1))) = zf_X9_busiest_L30 M n K m (nI (zbus r (x + 1)).1) (nI (zbus r (x + 1)).2) (nI (r 6 + (x + 1 + 1)))
      have e : zbus r (x + 1) = if zon r (r 6 + (x + 1)) ≤ (zbus r x).1 then zbus r x else (zon r (r 6 + (x + 1)), r 6 + (x + 1)) := rfl
      have ho := on9 (n := n) hC hw (d := r 6 + (x + 1)) (by omega) (by omega)
      have hz := zon_le r (r 6 + (x + 1))
      have hl := zbus_le r x
      rw [e]
      by_cases g : zon r (r 6 + (x + 1)) ≤ (zbus r x).1
      · simp (disch := (first | assumption | omega)) only [zf_X9_busiest_L30, zf_X9_busiest_j62, zlp, a14, ↓ev_ifB, ↓ev_iflt, ↓ev_ifle, ↓ev_ifeq, ↓ifp, ↓ifn, ↓ev_b1, ↓ev_b2, ↓ev_put, ↓ev_z0, ↓ev_z1, ↓ev_zB, ↓ev_has9, ↓ev_has10, ↓ev_shl, ↓ev_bit, ↓ev_in, ↓ev_inG, ↓ev_rd, ↓ev_st, decide_eq_true_eq, nI_add, ev_sub, pk_mul, nI_or, nI_xor, zBt, zBf, if_true, if_false, eq_self, Bool.false_eq_true, ↓zb1_at ho, Nat.add_assoc]
      · simp (disch := (first | assumption | omega)) only [zf_X9_busiest_L30, zf_X9_busiest_j62, zlp, a14, ↓ev_ifB, ↓ev_iflt, ↓ev_ifle, ↓ev_ifeq, ↓ifp, ↓ifn, ↓ev_b1, ↓ev_b2, ↓ev_put, ↓ev_z0, ↓ev_z1, ↓ev_zB, ↓ev_has9, ↓ev_has10, ↓ev_shl, ↓ev_bit, ↓ev_in, ↓ev_inG, ↓ev_rd, ↓ev_st, decide_eq_true_eq, nI_add, ev_sub, pk_mul, nI_or, nI_xor, zBt, zBf, if_true, if_false, eq_self, Bool.false_eq_true, ↓zb1_at ho, Nat.add_assoc]
    · show zf_X9_busiest_L30 M n K (m + 1) (nI _) (nI _) (nI (r 6 + (r 7 - r 6 + 1))) = _
      simp (disch := (first | assumption | omega)) only [zf_X9_busiest_L30, zlp, a14, ↓ev_ifB, ↓ev_iflt, ↓ev_ifle, ↓ev_ifeq, ↓ifp, ↓ifn, ↓ev_b1, ↓ev_b2, ↓ev_put, ↓ev_z0, ↓ev_z1, ↓ev_zB, ↓ev_has9, ↓ev_has10, ↓ev_shl, ↓ev_bit, ↓ev_in, ↓ev_inG, ↓ev_rd, ↓ev_st, decide_eq_true_eq, nI_add, ev_sub, pk_mul, nI_or, nI_xor, zBt, zBf, if_true, if_false, eq_self, Bool.false_eq_true]
  have h10 : ∀ (K : Int32 → Int32 → Option Int32) k, 101 < k → zf_X10_busiest_L13 M n K k (-nI 1) (-nI 1) (nI (r 6)) = K (nI (zbus r (r 7 - r 6)).1) (nI (zbus r (r 7 - r 6)).2) := by
    intro K k hk
    obtain ⟨k, rfl⟩ : ∃ m, k = m + 1 := ⟨k - 1, by omega⟩
    have ho := fun K => on10 (n := n) hM.1 hw (d := r 6) (by omega) (by omega) K
    have hz := zon_le r (r 6)
    have step1 : zf_X10_busiest_L13 M n K (k + 1) (-nI 1) (-nI 1) (nI (r 6)) = zf_X10_busiest_L13 M n K k (nI (zbus r 0).1) (nI (zbus r 0).2) (nI (r 6 + (0 + 1))) := by
      simp (disch := (first | assumption | omega)) only [zf_X10_busiest_L13, zf_X10_busiest_j81, zf_X10_busiest_j94, zlp, ↓rd78 hM.1, ↓ev_ifB, ↓ev_iflt, ↓ev_ifle, ↓ev_ifeq, ↓ifp, ↓ifn, ↓ev_b1, ↓ev_b2, ↓ev_put, ↓ev_z0, ↓ev_z1, ↓ev_zB, ↓ev_has9, ↓ev_has10, ↓ev_shl, ↓ev_bit, ↓ev_in, ↓ev_inG, ↓ev_rd, ↓ev_st, decide_eq_true_eq, nI_add, ev_sub, pk_mul, nI_or, nI_xor, zBt, zBf, if_true, if_false, eq_self, Bool.false_eq_true, ↓ho, ↓m1_le, zbus]
    rw [step1]
    refine zloop (fun m x (s : Nat × Nat) => zf_X10_busiest_L13 M n K m (nI s.1) (nI s.2) (nI (r 6 + (x + 1)))) (zbus r) _ (r 7 - r 6) (fun m x hx => ?_) (fun m => ?_) k 0 (by omega) (by omega)
    · show zf_X10_busiest_L13 M n K (m + 1) (nI _) (nI _) (nI (r 6 + (x + 1))) = zf_X10_busiest_L13 M n K m (nI (zbus r (x + 1)).1) (nI (zbus r (x + 1)).2) (nI (r 6 + (x + 1 + 1)))
      have e : zbus r (x + 1) = if zon r (r 6 + (x + 1)) ≤ (zbus r x).1 then zbus r x else (zon r (r 6 + (x + 1)), r 6 + (x + 1)) := rfl
      have ho := fun K => on10 (n := n) hM.1 hw (d := r 6 + (x + 1)) (by omega) (by omega) K
      have hz := zon_le r (r 6 + (x + 1))
      have hl := zbus_le r x
      rw [e]
      by_cases g : zon r (r 6 + (x + 1)) ≤ (zbus r x).1
      · simp (disch := (first | assumption | omega)) only [zf_X10_busiest_L13, zf_X10_busiest_j81, zf_X10_busiest_j94, zlp, ↓rd78 hM.1, ↓ev_ifB, ↓ev_iflt, ↓ev_ifle, ↓ev_ifeq, ↓ifp, ↓ifn, ↓ev_b1, ↓ev_b2, ↓ev_put, ↓ev_z0, ↓ev_z1, ↓ev_zB, ↓ev_has9, ↓ev_has10, ↓ev_shl, ↓ev_bit, ↓ev_in, ↓ev_inG, ↓ev_rd, ↓ev_st, decide_eq_true_eq, nI_add, ev_sub, pk_mul, nI_or, nI_xor, zBt, zBf, if_true, if_false, eq_self, Bool.false_eq_true, ↓ho, Nat.add_assoc]
      · simp (disch := (first | assumption | omega)) only [zf_X10_busiest_L13, zf_X10_busiest_j81, zf_X10_busiest_j94, zlp, ↓rd78 hM.1, ↓ev_ifB, ↓ev_iflt, ↓ev_ifle, ↓ev_ifeq, ↓ifp, ↓ifn, ↓ev_b1, ↓ev_b2, ↓ev_put, ↓ev_z0, ↓ev_z1, ↓ev_zB, ↓ev_has9, ↓ev_has10, ↓ev_shl, ↓ev_bit, ↓ev_in, ↓ev_inG, ↓ev_rd, ↓ev_st, decide_eq_true_eq, nI_add, ev_sub, pk_mul, nI_or, nI_xor, zBt, zBf, if_true, if_false, eq_self, Bool.false_eq_true, ↓ho, Nat.add_assoc]
    · show zf_X10_busiest_L13 M n K (m + 1) (nI _) (nI _) (nI (r 6 + (r 7 - r 6 + 1))) = _
      simp (disch := (first | assumption | omega)) only [zf_X10_busiest_L13, zlp, ↓rd78 hM.1, ↓ev_ifB, ↓ev_iflt, ↓ev_ifle, ↓ev_ifeq, ↓ifp, ↓ifn, ↓ev_b1, ↓ev_b2, ↓ev_put, ↓ev_z0, ↓ev_z1, ↓ev_zB, ↓ev_has9, ↓ev_has10, ↓ev_shl, ↓ev_bit, ↓ev_in, ↓ev_inG, ↓ev_rd, ↓ev_st, decide_eq_true_eq, nI_add, ev_sub, pk_mul, nI_or, nI_xor, zBt, zBf, if_true, if_false, eq_self, Bool.false_eq_true]
  have h9' := fun K => h9 K n (by omega)
  have h10' := fun K => h10 K n (by omega)
  rcases zint a with ha | ⟨k, hk, rfl⟩
  · refine ⟨-nI 1, ?_, ?_⟩
    · simp (disch := (first | assumption | omega)) only [zf_X9_busiest, zlp, ↓in2]
    · simp (disch := (first | assumption | omega)) only [zf_X10_busiest, zf_X10_busiest_j119, zlp, ↓rd78 hM.1, ↓h10', ↓in2]
  · rcases (by omega : k = 0 ∨ k = 1 ∨ 2 ≤ k) with rfl | rfl | g
    · refine ⟨nI (zbus r (r 7 - r 6)).1, ?_, ?_⟩
      · simp (disch := (first | assumption | omega)) only [zf_X9_busiest, zf_X9_busiest_j11, zf_X9_busiest_j77, zlp, ↓ev_ifB, ↓ev_iflt, ↓ev_ifle, ↓ev_ifeq, ↓ifp, ↓ifn, ↓ev_b1, ↓ev_b2, ↓ev_put, ↓ev_z0, ↓ev_z1, ↓ev_zB, ↓ev_has9, ↓ev_has10, ↓ev_shl, ↓ev_bit, ↓ev_in, ↓ev_inG, ↓ev_rd, ↓ev_st, decide_eq_true_eq, nI_add, ev_sub, pk_mul, nI_or, nI_xor, zBt, zBf, if_true, if_false, eq_self, Bool.false_eq_true, a13, ↓h9']
      · simp (disch := (first | assumption | omega)) only [zf_X10_busiest, zf_X10_busiest_j119, zlp, ↓rd78 hM.1, ↓h10', ↓ev_ifB, ↓ev_iflt, ↓ev_ifle, ↓ev_ifeq, ↓ifp, ↓ifn, ↓ev_b1, ↓ev_b2, ↓ev_put, ↓ev_z0, ↓ev_z1, ↓ev_zB, ↓ev_has9, ↓ev_has10, ↓ev_shl, ↓ev_bit, ↓ev_in, ↓ev_inG, ↓ev_rd, ↓ev_st, decide_eq_true_eq, nI_add, ev_sub, pk_mul, nI_or, nI_xor, zBt, zBf, if_true, if_false, eq_self, Bool.false_eq_true]
    · refine ⟨nI (zbus r (r 7 - r 6)).2, ?_, ?_⟩
      · simp (disch := (first | assumption | omega)) only [zf_X9_busiest, zf_X9_busiest_j11, zf_X9_busiest_j77, zlp, ↓ev_ifB, ↓ev_iflt, ↓ev_ifle, ↓ev_ifeq, ↓ifp, ↓ifn, ↓ev_b1, ↓ev_b2, ↓ev_put, ↓ev_z0, ↓ev_z1, ↓ev_zB, ↓ev_has9, ↓ev_has10, ↓ev_shl, ↓ev_bit, ↓ev_in, ↓ev_inG, ↓ev_rd, ↓ev_st, decide_eq_true_eq, nI_add, ev_sub, pk_mul, nI_or, nI_xor, zBt, zBf, if_true, if_false, eq_self, Bool.false_eq_true, a13, ↓h9']
      · simp (disch := (first | assumption | omega)) only [zf_X10_busiest, zf_X10_busiest_j119, zlp, ↓rd78 hM.1, ↓h10', ↓ev_ifB, ↓ev_iflt, ↓ev_ifle, ↓ev_ifeq, ↓ifp, ↓ifn, ↓ev_b1, ↓ev_b2, ↓ev_put, ↓ev_z0, ↓ev_z1, ↓ev_zB, ↓ev_has9, ↓ev_has10, ↓ev_shl, ↓ev_bit, ↓ev_in, ↓ev_inG, ↓ev_rd, ↓ev_st, decide_eq_true_eq, nI_add, ev_sub, pk_mul, nI_or, nI_xor, zBt, zBf, if_true, if_false, eq_self, Bool.false_eq_true]
    · refine ⟨-nI 1, ?_, ?_⟩
      · simp (disch := (first | assumption | omega)) only [zf_X9_busiest, zlp, ↓ev_ifB, ↓ev_iflt, ↓ev_ifle, ↓ev_ifeq, ↓ifp, ↓ifn, ↓ev_b1, ↓ev_b2, ↓ev_put, ↓ev_z0, ↓ev_z1, ↓ev_zB, ↓ev_has9, ↓ev_has10, ↓ev_shl, ↓ev_bit, ↓ev_in, ↓ev_inG, ↓ev_rd, ↓ev_st, decide_eq_true_eq, nI_add, ev_sub, pk_mul, nI_or, nI_xor, zBt, zBf, if_true, if_false, eq_self, Bool.false_eq_true]
      · simp (disch := (first | assumption | omega)) only [zf_X10_busiest, zf_X10_busiest_j119, zlp, ↓rd78 hM.1, ↓h10', ↓ev_ifB, ↓ev_iflt, ↓ev_ifle, ↓ev_ifeq, ↓ifp, ↓ifn, ↓ev_b1, ↓ev_b2, ↓ev_put, ↓ev_z0, ↓ev_z1, ↓ev_zB, ↓ev_has9, ↓ev_has10, ↓ev_shl, ↓ev_bit, ↓ev_in, ↓ev_inG, ↓ev_rd, ↓ev_st, decide_eq_true_eq, nI_add, ev_sub, pk_mul, nI_or, nI_xor, zBt, zBf, if_true, if_false, eq_self, Bool.false_eq_true]
theorem op_costFor {n : Nat} (hn : 803 < n) {M : ZMem} (hI : INV M) (a : Int32) : OPQ (zf_X9_costFor n a) (zf_X10_costFor n a) M := by
  obtain ⟨t, nx, r, u, U, T, L, hS, hC, hM⟩ := id hI
  have hw := hS.1.1
  have hb := hw.b
  have hdy := fun (K : Nat → Option Int32) => hC.1.dy (K := K)
  have ho9 := hC.ord (n := n) hS.1.1 (by omega) a
  have ho10 := hM.1.ord (n := n) hS.1.1 (by omega) a
  cases hz : zordI (r 1) a with
  | false =>
    refine ⟨-nI 1, ?_, ?_⟩
    · simp (disch := (first | assumption | omega)) only [zf_X9_costFor, zf_X9_costFor_j23, zlp, ↓hdy, ↓zb1_at ho9, hz, ↓ev_ifB, ↓ev_ifeq, ↓ifp, ↓ifn, zBt, zBf, if_true, if_false, eq_self, Bool.false_eq_true]
    · simp (disch := (first | assumption | omega)) only [zf_X10_costFor, zf_X10_costFor_j17, zlp, ↓zb1_at ho10, hz, ↓ev_ifB, ↓ev_ifeq, ↓ifp, ↓ifn, zBt, zBf, if_true, if_false, eq_self, Bool.false_eq_true]
  | true =>
    obtain ⟨o, ho, rfl, hzo⟩ := zordI_of hz (by omega)
    have hc9 := costsBy1 (n := n) hC.2.2.1 hw ho hzo (by omega)
    have hc10 := costsFor10 (n := n) hM.1 hw ho hzo (by omega)
    refine ⟨nI (zcosts r o), ?_, ?_⟩
    · simp (disch := (first | assumption | omega)) only [zf_X9_costFor, zf_X9_costFor_j23, zlp, ↓hdy, ↓zb1_at ho9, hz, ↓ev_ifB, ↓ev_ifeq, ↓ifp, ↓ifn, zBt, zBf, if_true, if_false, eq_self, Bool.false_eq_true, ↓zb1_at hc9]
    · simp (disch := (first | assumption | omega)) only [zf_X10_costFor, zf_X10_costFor_j17, zlp, ↓zb1_at ho10, hz, ↓ev_ifB, ↓ev_ifeq, ↓ifp, ↓ifn, zBt, zBf, if_true, if_false, eq_self, Bool.false_eq_true, ↓zb1_at hc10]
theorem op_reachFor {n : Nat} (hn : 803 < n) {M : ZMem} (hI : INV M) (a b : Int32) : OPQ (zf_X9_reachFor n a b) (zf_X10_reachFor n a b) M := by
  obtain ⟨t, nx, r, u, U, T, L, hS, hC, hM⟩ := id hI
  have hw := hS.1.1
  have hb := hw.b
  have hdy := fun (K : Nat → Option Int32) => hC.1.dy (K := K)
  have ho9 := hC.ord (n := n) hS.1.1 (by omega) a
  have ho10 := hM.1.ord (n := n) hS.1.1 (by omega) a
  cases hz2 : zmem (r 0) b with
  | false =>
    refine ⟨-nI 1, ?_, ?_⟩
    · simp (disch := (first | assumption | omega)) only [zf_X9_reachFor, zf_X9_reachFor_j19, zlp, ↓zb1_at (hC.mem hw b), hz2, ↓ev_ifB, ↓ev_ifeq, ↓ifp, ↓ifn, zBt, zBf, if_true, if_false, eq_self, Bool.false_eq_true]
    · cases hz : zordI (r 1) a <;> simp (disch := (first | assumption | omega)) only [zf_X10_reachFor, zf_X10_reachFor_j25, zf_X10_reachFor_j26, zlp, ↓zb1_at ho10, ↓zb1_at (hM.1.mem hw b), hz, hz2, zB_t, zB_f, ↓ev_ifB, ↓ev_iflt, ↓ev_ifle, ↓ev_ifeq, ↓ifp, ↓ifn, ↓ev_b1, ↓ev_b2, ↓ev_put, ↓ev_z0, ↓ev_z1, ↓ev_zB, ↓ev_has9, ↓ev_has10, ↓ev_shl, ↓ev_bit, ↓ev_in, ↓ev_inG, ↓ev_rd, ↓ev_st, decide_eq_true_eq, nI_add, ev_sub, pk_mul, nI_or, nI_xor, zBt, zBf, if_true, if_false, eq_self, Bool.false_eq_true]
  | true =>
    obtain ⟨i, hi, rfl⟩ := zmem_of hz2
    cases hz : zordI (r 1) a with
    | false =>
      refine ⟨-nI 1, ?_, ?_⟩
      · simp (disch := (first | assumption | omega)) only [zf_X9_reachFor, zf_X9_reachFor_j19, zlp, ↓hdy, ↓zb1_at (hC.mem hw _), hz2, ↓ev_ifB, ↓ev_ifeq, ↓ifp, ↓ifn, zBt, zBf, if_true, if_false, eq_self, Bool.false_eq_true, ↓zb1_at ho9, hz, ↓ev_ifB, ↓ev_ifeq, ↓ifp, ↓ifn, zBt, zBf, if_true, if_false, eq_self, Bool.false_eq_true]
      · simp (disch := (first | assumption | omega)) only [zf_X10_reachFor, zf_X10_reachFor_j25, zf_X10_reachFor_j26, zlp, ↓zb1_at ho10, hz, ↓ev_ifB, ↓ev_ifeq, ↓ifp, ↓ifn, zBt, zBf, if_true, if_false, eq_self, Bool.false_eq_true]
    | true =>
      obtain ⟨o, ho, rfl, hzo⟩ := zordI_of hz (by omega)
      have hc9 := daysTo1 (n := n) hC.2.2.1 hw ho hzo hi (by omega)
      have hc10 := waitFor10 (n := n) hM.1 hw ho hzo hi (by omega)
      refine ⟨zdI 0 (zdaysTo r o i), ?_, ?_⟩
      · simp (disch := (first | assumption | omega)) only [zf_X9_reachFor, zf_X9_reachFor_j19, zlp, ↓hdy, ↓zb1_at (hC.mem hw _), hz2, ↓ev_ifB, ↓ev_ifeq, ↓ifp, ↓ifn, zBt, zBf, if_true, if_false, eq_self, Bool.false_eq_true, ↓zb1_at ho9, hz, ↓zb1_at hc9]
      · simp (disch := (first | assumption | omega)) only [zf_X10_reachFor, zf_X10_reachFor_j25, zf_X10_reachFor_j26, zlp, ↓zb1_at ho10, ↓zb1_at (hM.1.mem hw _), hz, hz2, ↓ev_ifB, ↓ev_ifeq, ↓ifp, ↓ifn, zBt, zBf, if_true, if_false, eq_self, Bool.false_eq_true, ↓zb1_at hc10]
/-- whom NOTICES have reached by a day -/
def zby (r : ZRow) (day i : Nat) : Bool := match zrd0 r i with
  | none => false
  | some d => decide (d ≤ day)
theorem op_reachedBy {n : Nat} (hn : 803 < n) {M : ZMem} (hI : INV M) (a : Int32) : OPQ (zf_X9_reachedBy n a) (zf_X10_reachedBy n a) M := by
  obtain ⟨t, nx, r, u, U, T, L, hS, hC, hM⟩ := id hI
  have hw := hS.1.1
  have hb := hw.b
  obtain ⟨a0, -⟩ := hC.rd
  have hdy := fun (K : Nat → Option Int32) => hC.1.dy (K := K)
  rcases zint a with ha | ⟨k, hk, rfl⟩
  · refine ⟨-nI 1, ?_, ?_⟩
    · simp (disch := (first | assumption | omega)) only [zf_X9_reachedBy, zf_X9_reachedBy_j11, zlp, ↓in1]
    · simp (disch := (first | assumption | omega)) only [zf_X10_reachedBy, zlp, ↓ev_ifB, ↓ev_iflt, ↓ev_ifle, ↓ev_ifeq, ↓ifp, ↓ifn, ↓ev_b1, ↓ev_b2, ↓ev_put, ↓ev_z0, ↓ev_z1, ↓ev_zB, ↓ev_has9, ↓ev_has10, ↓ev_shl, ↓ev_bit, ↓ev_in, ↓ev_inG, ↓ev_rd, ↓ev_st, decide_eq_true_eq, nI_add, ev_sub, pk_mul, nI_or, nI_xor, zBt, zBf, if_true, if_false, eq_self, Bool.false_eq_true]
  · by_cases g : k ≤ 199
    · have es : ∀ i, zset (zby r k) (i + 1) = if zby r k i then zset (zby r k) i ||| 2 ^ i else zset (zby r k) i := fun i => rfl
      have h9 : zf_X9_reachedBy_L17 M n (nI k) (fun v => some v) n (nI 0) (nI 0) = some (nI (zset (zby r k) (r 0))) := by
        refine zloop (fun m i (s : Nat) => zf_X9_reachedBy_L17 M n (nI k) (fun v => some v) m (nI s) (nI i)) (zset (zby r k)) _ (r 0) ?_ ?_ n 0 (Nat.zero_le _) (by omega)
        · intro m i hi
          have hr := reachDay9 (n := n) hC hS.1 hi (by omega)
          show zf_X9_reachedBy_L17 M n (nI k) _ (m + 1) (nI _) (nI i) = zf_X9_reachedBy_L17 M n (nI k) _ m (nI _) (nI (i + 1))
          rw [es]
          cases e : zrd0 r i with
          | none =>
            rw [e] at hr
            have hr' : zf_X9_reachDay n (nI i) M = some (-nI 2) := hr
            have ez : zby r k i = false := by unfold zby; rw [e]
            rw [ez]
            simp (disch := (first | assumption | omega)) only [zf_X9_reachedBy_L17, zf_X9_reachedBy_j54, zlp, ↓hdy, a0, ↓ev_ifB, ↓ev_iflt, ↓ev_ifle, ↓ev_ifeq, ↓ifp, ↓ifn, ↓ev_b1, ↓ev_b2, ↓ev_put, ↓ev_z0, ↓ev_z1, ↓ev_zB, ↓ev_has9, ↓ev_has10, ↓ev_shl, ↓ev_bit, ↓ev_in, ↓ev_inG, ↓ev_rd, ↓ev_st, decide_eq_true_eq, nI_add, ev_sub, pk_mul, nI_or, nI_xor, zBt, zBf, if_true, if_false, eq_self, Bool.false_eq_true, ↓zb1_at hr', ↓m2_rf, Bool.false_eq_true]
          | some d =>
            rw [e] at hr
            have hd := zrd0_le hS.1 e
            have hr' : zf_X9_reachDay n (nI i) M = some (nI d) := by rw [hr]; show some (nI (0 + d)) = _; rw [Nat.zero_add]
            by_cases g2 : d ≤ k
            · have ez : zby r k i = true := by unfold zby; rw [e]; exact decide_eq_true g2
              rw [ez]
              simp (disch := (first | assumption | omega)) only [zf_X9_reachedBy_L17, zf_X9_reachedBy_j54, zlp, ↓hdy, a0, ↓ev_ifB, ↓ev_iflt, ↓ev_ifle, ↓ev_ifeq, ↓ifp, ↓ifn, ↓ev_b1, ↓ev_b2, ↓ev_put, ↓ev_z0, ↓ev_z1, ↓ev_zB, ↓ev_has9, ↓ev_has10, ↓ev_shl, ↓ev_bit, ↓ev_in, ↓ev_inG, ↓ev_rd, ↓ev_st, decide_eq_true_eq, nI_add, ev_sub, pk_mul, nI_or, nI_xor, zBt, zBf, if_true, if_false, eq_self, Bool.false_eq_true, ↓zb1_at hr', ↓m2_eq]
            · have ez : zby r k i = false := by unfold zby; rw [e]; exact decide_eq_false g2
              rw [ez]
              simp (disch := (first | assumption | omega)) only [zf_X9_reachedBy_L17, zf_X9_reachedBy_j54, zlp, ↓hdy, a0, ↓ev_ifB, ↓ev_iflt, ↓ev_ifle, ↓ev_ifeq, ↓ifp, ↓ifn, ↓ev_b1, ↓ev_b2, ↓ev_put, ↓ev_z0, ↓ev_z1, ↓ev_zB, ↓ev_has9, ↓ev_has10, ↓ev_shl, ↓ev_bit, ↓ev_in, ↓ev_inG, ↓ev_rd, ↓ev_st, decide_eq_true_eq, nI_add, ev_sub, pk_mul, nI_or, nI_xor, zBt, zBf, if_true, if_false, eq_self, Bool.false_eq_true, ↓zb1_at hr', ↓m2_eq, Bool.false_eq_true]
        · intro m
          show zf_X9_reachedBy_L17 M n (nI k) _ (m + 1) (nI _) (nI (r 0)) = _
          simp (disch := (first | assumption | omega)) only [zf_X9_reachedBy_L17, zlp, ↓hdy, a0, ↓ev_ifB, ↓ev_iflt, ↓ev_ifle, ↓ev_ifeq, ↓ifp, ↓ifn, ↓ev_b1, ↓ev_b2, ↓ev_put, ↓ev_z0, ↓ev_z1, ↓ev_zB, ↓ev_has9, ↓ev_has10, ↓ev_shl, ↓ev_bit, ↓ev_in, ↓ev_inG, ↓ev_rd, ↓ev_st, decide_eq_true_eq, nI_add, ev_sub, pk_mul, nI_or, nI_xor, zBt, zBf, if_true, if_false, eq_self, Bool.false_eq_true]
      have h10 : zf_X10_reachedBy_L17 M n (nI k) (fun v => some v) n (nI 0) (nI 0) = some (nI (zset (zby r k) (r 0))) := by
        refine zloop (fun m i (s : Nat) => zf_X10_reachedBy_L17 M n (nI k) (fun v => some v) m (nI s) (nI i)) (zset (zby r k)) _ (r 0) ?_ ?_ n 0 (Nat.zero_le _) (by omega)
        · intro m i hi
          have hr := reachedOn10 (n := n) hM.1 hS.1 hi (by omega)
          show zf_X10_reachedBy_L17 M n (nI k) _ (m + 1) (nI _) (nI i) = zf_X10_reachedBy_L17 M n (nI k) _ m (nI _) (nI (i + 1))
          rw [es]
          cases e : zrd0 r i with
          | none =>
            rw [e] at hr
            have hr' : zf_X10_reachedOn n (nI i) M = some (-nI 2) := hr
            have ez : zby r k i = false := by unfold zby; rw [e]
            rw [ez]
            simp (disch := (first | assumption | omega)) only [zf_X10_reachedBy_L17, zf_X10_reachedBy_j51, zf_X10_reachedBy_j52, zlp, ↓rd78 hM.1, ↓ev_ifB, ↓ev_iflt, ↓ev_ifle, ↓ev_ifeq, ↓ifp, ↓ifn, ↓ev_b1, ↓ev_b2, ↓ev_put, ↓ev_z0, ↓ev_z1, ↓ev_zB, ↓ev_has9, ↓ev_has10, ↓ev_shl, ↓ev_bit, ↓ev_in, ↓ev_inG, ↓ev_rd, ↓ev_st, decide_eq_true_eq, nI_add, ev_sub, pk_mul, nI_or, nI_xor, zBt, zBf, if_true, if_false, eq_self, Bool.false_eq_true, ↓zb1_at hr', ↓m2_lt, Bool.false_eq_true, Nat.or_zero]
          | some d =>
            rw [e] at hr
            have hd := zrd0_le hS.1 e
            have hr' : zf_X10_reachedOn n (nI i) M = some (nI d) := by rw [hr]; show some (nI (0 + d)) = _; rw [Nat.zero_add]
            by_cases g2 : d ≤ k
            · have ez : zby r k i = true := by unfold zby; rw [e]; exact decide_eq_true g2
              rw [ez]
              simp (disch := (first | assumption | omega)) only [zf_X10_reachedBy_L17, zf_X10_reachedBy_j51, zf_X10_reachedBy_j52, zlp, ↓rd78 hM.1, ↓ev_ifB, ↓ev_iflt, ↓ev_ifle, ↓ev_ifeq, ↓ifp, ↓ifn, ↓ev_b1, ↓ev_b2, ↓ev_put, ↓ev_z0, ↓ev_z1, ↓ev_zB, ↓ev_has9, ↓ev_has10, ↓ev_shl, ↓ev_bit, ↓ev_in, ↓ev_inG, ↓ev_rd, ↓ev_st, decide_eq_true_eq, nI_add, ev_sub, pk_mul, nI_or, nI_xor, zBt, zBf, if_true, if_false, eq_self, Bool.false_eq_true, ↓zb1_at hr']
            · have ez : zby r k i = false := by unfold zby; rw [e]; exact decide_eq_false g2
              rw [ez]
              simp (disch := (first | assumption | omega)) only [zf_X10_reachedBy_L17, zf_X10_reachedBy_j51, zf_X10_reachedBy_j52, zlp, ↓rd78 hM.1, ↓ev_ifB, ↓ev_iflt, ↓ev_ifle, ↓ev_ifeq, ↓ifp, ↓ifn, ↓ev_b1, ↓ev_b2, ↓ev_put, ↓ev_z0, ↓ev_z1, ↓ev_zB, ↓ev_has9, ↓ev_has10, ↓ev_shl, ↓ev_bit, ↓ev_in, ↓ev_inG, ↓ev_rd, ↓ev_st, decide_eq_true_eq, nI_add, ev_sub, pk_mul, nI_or, nI_xor, zBt, zBf, if_true, if_false, eq_self, Bool.false_eq_true, ↓zb1_at hr', Bool.false_eq_true, Nat.or_zero]
        · intro m
          show zf_X10_reachedBy_L17 M n (nI k) _ (m + 1) (nI _) (nI (r 0)) = _
          simp (disch := (first | assumption | omega)) only [zf_X10_reachedBy_L17, zlp, ↓rd78 hM.1, ↓ev_ifB, ↓ev_iflt, ↓ev_ifle, ↓ev_ifeq, ↓ifp, ↓ifn, ↓ev_b1, ↓ev_b2, ↓ev_put, ↓ev_z0, ↓ev_z1, ↓ev_zB, ↓ev_has9, ↓ev_has10, ↓ev_shl, ↓ev_bit, ↓ev_in, ↓ev_inG, ↓ev_rd, ↓ev_st, decide_eq_true_eq, nI_add, ev_sub, pk_mul, nI_or, nI_xor, zBt, zBf, if_true, if_false, eq_self, Bool.false_eq_true]
      refine ⟨nI (zset (zby r k) (r 0)), ?_, ?_⟩
      · simp (disch := (first | assumption | omega)) only [zf_X9_reachedBy, zf_X9_reachedBy_j11, zlp, ↓ev_ifB, ↓ev_iflt, ↓ev_ifle, ↓ev_ifeq, ↓ifp, ↓ifn, ↓ev_b1, ↓ev_b2, ↓ev_put, ↓ev_z0, ↓ev_z1, ↓ev_zB, ↓ev_has9, ↓ev_has10, ↓ev_shl, ↓ev_bit, ↓ev_in, ↓ev_inG, ↓ev_rd, ↓ev_st, decide_eq_true_eq, nI_add, ev_sub, pk_mul, nI_or, nI_xor, zBt, zBf, if_true, if_false, eq_self, Bool.false_eq_true, h9]
      · simp (disch := (first | assumption | omega)) only [zf_X10_reachedBy, zlp, ↓ev_ifB, ↓ev_iflt, ↓ev_ifle, ↓ev_ifeq, ↓ifp, ↓ifn, ↓ev_b1, ↓ev_b2, ↓ev_put, ↓ev_z0, ↓ev_z1, ↓ev_zB, ↓ev_has9, ↓ev_has10, ↓ev_shl, ↓ev_bit, ↓ev_in, ↓ev_inG, ↓ev_rd, ↓ev_st, decide_eq_true_eq, nI_add, ev_sub, pk_mul, nI_or, nI_xor, zBt, zBf, if_true, if_false, eq_self, Bool.false_eq_true, h10]
    · refine ⟨-nI 1, ?_, ?_⟩
      · simp (disch := (first | assumption | omega)) only [zf_X9_reachedBy, zf_X9_reachedBy_j11, zlp, ↓ev_ifB, ↓ev_iflt, ↓ev_ifle, ↓ev_ifeq, ↓ifp, ↓ifn, ↓ev_b1, ↓ev_b2, ↓ev_put, ↓ev_z0, ↓ev_z1, ↓ev_zB, ↓ev_has9, ↓ev_has10, ↓ev_shl, ↓ev_bit, ↓ev_in, ↓ev_inG, ↓ev_rd, ↓ev_st, decide_eq_true_eq, nI_add, ev_sub, pk_mul, nI_or, nI_xor, zBt, zBf, if_true, if_false, eq_self, Bool.false_eq_true]
      · simp (disch := (first | assumption | omega)) only [zf_X10_reachedBy, zlp, ↓ev_ifB, ↓ev_iflt, ↓ev_ifle, ↓ev_ifeq, ↓ifp, ↓ifn, ↓ev_b1, ↓ev_b2, ↓ev_put, ↓ev_z0, ↓ev_z1, ↓ev_zB, ↓ev_has9, ↓ev_has10, ↓ev_shl, ↓ev_bit, ↓ev_in, ↓ev_inG, ↓ev_rd, ↓ev_st, decide_eq_true_eq, nI_add, ev_sub, pk_mul, nI_or, nI_xor, zBt, zBf, if_true, if_false, eq_self, Bool.false_eq_true]
