/-! LAYER 2: what is asked (2) -/
theorem IR.z0 {β : Type} {M : ZMem} {r : ZRow} (hM : IR M r) {K : Int32 → Option β} : zrd M 78 73 0 K = K (nI (r 0)) := rd78 hM (j := 0) K (by omega) (by omega)
/-- how many are ahead of one by claims -/
def zahead (r : ZRow) (i j : Nat) : Bool := decide (zclaim r i < zclaim r j) || (decide (zclaim r j = zclaim r i) && decide (j < i))
def zrank (r : ZRow) (i : Nat) : Nat := zsum (fun j => (zahead r i j).toNat) (r 0)
theorem zsum_le1 {f : Nat → Bool} {n : Nat} : zsum (fun j => (f j).toNat) n ≤ n := by
  have := zsum_le (f := fun j => (f j).toNat) (c := 1) (n := n) (fun i _ => Bool.toNat_le _)
  omega
theorem rank9 {M : ZMem} {t nx u : Nat} {r : ZRow} {U : Nat → ZRow} {T : ZT} {L : ZL} (h : IC M t nx r u U T L) (hw : WF r) {i n : Nat} (hi : i < r 0) (hn : 10 < n) : zf_X9_rankOf n (nI i) M = some (nI (zrank r i)) := by
  have hb := hw.b
  obtain ⟨a0, -⟩ := h.rd
  have hdy := fun (K : Nat → Option Int32) => h.1.dy (K := K)
  have hci := zclaim_le hw hi
  unfold zf_X9_rankOf
  rw [h.1.dy, zb1_at (claim7 h.2.2.1 h.2.2.2.1.1 hw hi)]
  refine zloop (fun n j (s : Nat) => zf_X9_rankOf_L18 M (nI (zclaim r i)) (nI i) (fun v => some v) n (nI s) (nI j)) (zsum (fun j => (zahead r i j).toNat)) (some (nI (zrank r i))) (r 0) ?_ ?_ n 0 (Nat.zero_le _) (by omega)
  · intro n j hj
    have hcj := zclaim_le hw hj
    have hcl := claim7 h.2.2.1 h.2.2.2.1.1 hw hj
    show zf_X9_rankOf_L18 M _ (nI i) _ (n + 1) (nI _) (nI j) = zf_X9_rankOf_L18 M _ (nI i) _ n (nI _) (nI (j + 1))
    have e : zsum (fun j => (zahead r i j).toNat) (j + 1) = zsum (fun j => (zahead r i j).toNat) j + (zahead r i j).toNat := rfl
    rw [e]
    by_cases g1 : zclaim r i < zclaim r j
    · have : zahead r i j = true := by simp [zahead, g1]
      rw [this]
      simp (disch := (first | assumption | omega)) only [zf_X9_rankOf_L18, zf_X9_rankOf_j63, zf_X9_rankOf_j66, zlp, ↓hdy, a0, ↓ev_ifB, ↓ev_iflt, ↓ev_ifle, ↓ev_ifeq, ↓ifp, ↓ifn, ↓ev_b1, ↓ev_b2, ↓ev_put, ↓ev_z0, ↓ev_z1, ↓ev_zB, ↓ev_has9, ↓ev_has10, ↓ev_shl, ↓ev_bit, ↓ev_in, ↓ev_inG, ↓ev_rd, ↓ev_st, decide_eq_true_eq, nI_add, ev_sub, pk_mul, nI_or, nI_xor, zBt, zBf, if_true, if_false, eq_self, Bool.false_eq_true, ↓zb1_at hcl, Bool.toNat_true]
    · by_cases g2 : zclaim r j = zclaim r i
      · by_cases g3 : j < i
        · have : zahead r i j = true := by simp [zahead, g2, g3]
          rw [this]
          simp (disch := (first | assumption | omega)) only [zf_X9_rankOf_L18, zf_X9_rankOf_j63, zf_X9_rankOf_j66, zlp, ↓hdy, a0, ↓ev_ifB, ↓ev_iflt, ↓ev_ifle, ↓ev_ifeq, ↓ifp, ↓ifn, ↓ev_b1, ↓ev_b2, ↓ev_put, ↓ev_z0, ↓ev_z1, ↓ev_zB, ↓ev_has9, ↓ev_has10, ↓ev_shl, ↓ev_bit, ↓ev_in, ↓ev_inG, ↓ev_rd, ↓ev_st, decide_eq_true_eq, nI_add, ev_sub, pk_mul, nI_or, nI_xor, zBt, zBf, if_true, if_false, eq_self, Bool.false_eq_true, ↓zb1_at hcl, Bool.toNat_true]
        · have : zahead r i j = false := by simp [zahead, g1, g3]
          rw [this]
          simp (disch := (first | assumption | omega)) only [zf_X9_rankOf_L18, zf_X9_rankOf_j63, zf_X9_rankOf_j66, zlp, ↓hdy, a0, ↓ev_ifB, ↓ev_iflt, ↓ev_ifle, ↓ev_ifeq, ↓ifp, ↓ifn, ↓ev_b1, ↓ev_b2, ↓ev_put, ↓ev_z0, ↓ev_z1, ↓ev_zB, ↓ev_has9, ↓ev_has10, ↓ev_shl, ↓ev_bit, ↓ev_in, ↓ev_inG, ↓ev_rd, ↓ev_st, decide_eq_true_eq, nI_add, ev_sub, pk_mul, nI_or, nI_xor, zBt, zBf, if_true, if_false, eq_self, Bool.false_eq_true, ↓zb1_at hcl, Bool.toNat_false, Nat.add_zero]
      · have : zahead r i j = false := by simp [zahead, g1, g2]
        rw [this]
        simp (disch := (first | assumption | omega)) only [zf_X9_rankOf_L18, zf_X9_rankOf_j63, zf_X9_rankOf_j66, zlp, ↓hdy, a0, ↓ev_ifB, ↓ev_iflt, ↓ev_ifle, ↓ev_ifeq, ↓ifp, ↓ifn, ↓ev_b1, ↓ev_b2, ↓ev_put, ↓ev_z0, ↓ev_z1, ↓ev_zB, ↓ev_has9, ↓ev_has10, ↓ev_shl, ↓ev_bit, ↓ev_in, ↓ev_inG, ↓ev_rd, ↓ev_st, decide_eq_true_eq, nI_add, ev_sub, pk_mul, nI_or, nI_xor, zBt, zBf, if_true, if_false, eq_self, Bool.false_eq_true, ↓zb1_at hcl, Bool.toNat_false, Nat.add_zero]
  · intro n
    show zf_X9_rankOf_L18 M _ (nI i) _ (n + 1) (nI _) (nI (r 0)) = _
    simp (disch := (first | assumption | omega)) only [zf_X9_rankOf_L18, zlp, ↓hdy, a0, ↓ev_ifB, ↓ev_iflt, ↓ev_ifle, ↓ev_ifeq, ↓ifp, ↓ifn, ↓ev_b1, ↓ev_b2, ↓ev_put, ↓ev_z0, ↓ev_z1, ↓ev_zB, ↓ev_has9, ↓ev_has10, ↓ev_shl, ↓ev_bit, ↓ev_in, ↓ev_inG, ↓ev_rd, ↓ev_st, decide_eq_true_eq, nI_add, ev_sub, pk_mul, nI_or, nI_xor, zBt, zBf, if_true, if_false, eq_self, Bool.false_eq_true, zrank]
theorem rank10 {M : ZMem} {r : ZRow} (h : IR M r) (hw : WF r) {i n : Nat} (hi : i < r 0) (hn : 10 < n) (K : Int32 → Option Int32) : zf_X10_ranked_L17 M (nI i) K n (nI 0) (nI 0) = K (nI (zrank r i)) := by
  have hb := hw.b
  have hci := zclaim_le hw hi
  have hcli := claim10 h hw hi
  refine zloop (fun n j (s : Nat) => zf_X10_ranked_L17 M (nI i) K n (nI s) (nI j)) (zsum (fun j => (zahead r i j).toNat)) (K (nI (zrank r i))) (r 0) ?_ ?_ n 0 (Nat.zero_le _) (by omega)
  · intro n j hj
    have hcj := zclaim_le hw hj
    have hcl := claim10 h hw hj
    show zf_X10_ranked_L17 M (nI i) _ (n + 1) (nI _) (nI j) = zf_X10_ranked_L17 M (nI i) _ n (nI _) (nI (j + 1))
    have e : zsum (fun j => (zahead r i j).toNat) (j + 1) = zsum (fun j => (zahead r i j).toNat) j + (zahead r i j).toNat := rfl
    rw [e]
    by_cases g1 : zclaim r i < zclaim r j
    · have : zahead r i j = true := by simp [zahead, g1]
      rw [this]
      simp (disch := (first | assumption | omega)) only [zf_X10_ranked_L17, zf_X10_ranked_j63, zf_X10_ranked_j67, zf_X10_ranked_j68, zlp, ↓rd78 h, ↓ev_ifB, ↓ev_iflt, ↓ev_ifle, ↓ev_ifeq, ↓ifp, ↓ifn, ↓ev_b1, ↓ev_b2, ↓ev_put, ↓ev_z0, ↓ev_z1, ↓ev_zB, ↓ev_has9, ↓ev_has10, ↓ev_shl, ↓ev_bit, ↓ev_in, ↓ev_inG, ↓ev_rd, ↓ev_st, decide_eq_true_eq, nI_add, ev_sub, pk_mul, nI_or, nI_xor, zBt, zBf, if_true, if_false, eq_self, Bool.false_eq_true, ↓zb1_at hcl, ↓zb1_at hcli, Bool.toNat_true]
    · by_cases g2 : zclaim r j = zclaim r i
      · by_cases g3 : j < i
        · have : zahead r i j = true := by simp [zahead, g2, g3]
          rw [this]
          simp (disch := (first | assumption | omega)) only [zf_X10_ranked_L17, zf_X10_ranked_j63, zf_X10_ranked_j67, zf_X10_ranked_j68, zlp, ↓rd78 h, ↓ev_ifB, ↓ev_iflt, ↓ev_ifle, ↓ev_ifeq, ↓ifp, ↓ifn, ↓ev_b1, ↓ev_b2, ↓ev_put, ↓ev_z0, ↓ev_z1, ↓ev_zB, ↓ev_has9, ↓ev_has10, ↓ev_shl, ↓ev_bit, ↓ev_in, ↓ev_inG, ↓ev_rd, ↓ev_st, decide_eq_true_eq, nI_add, ev_sub, pk_mul, nI_or, nI_xor, zBt, zBf, if_true, if_false, eq_self, Bool.false_eq_true, ↓zb1_at hcl, ↓zb1_at hcli, Bool.toNat_true]
        · have : zahead r i j = false := by simp [zahead, g1, g3]
          rw [this]
          simp (disch := (first | assumption | omega)) only [zf_X10_ranked_L17, zf_X10_ranked_j63, zf_X10_ranked_j67, zf_X10_ranked_j68, zlp, ↓rd78 h, ↓ev_ifB, ↓ev_iflt, ↓ev_ifle, ↓ev_ifeq, ↓ifp, ↓ifn, ↓ev_b1, ↓ev_b2, ↓ev_put, ↓ev_z0, ↓ev_z1, ↓ev_zB, ↓ev_has9, ↓ev_has10, ↓ev_shl, ↓ev_bit, ↓ev_in, ↓ev_inG, ↓ev_rd, ↓ev_st, decide_eq_true_eq, nI_add, ev_sub, pk_mul, nI_or, nI_xor, zBt, zBf, if_true, if_false, eq_self, Bool.false_eq_true, ↓zb1_at hcl, ↓zb1_at hcli, Bool.toNat_false, Nat.add_zero]
      · have : zahead r i j = false := by simp [zahead, g1, g2]
        rw [this]
        simp (disch := (first | assumption | omega)) only [zf_X10_ranked_L17, zf_X10_ranked_j63, zf_X10_ranked_j67, zf_X10_ranked_j68, zlp, ↓rd78 h, ↓ev_ifB, ↓ev_iflt, ↓ev_ifle, ↓ev_ifeq, ↓ifp, ↓ifn, ↓ev_b1, ↓ev_b2, ↓ev_put, ↓ev_z0, ↓ev_z1, ↓ev_zB, ↓ev_has9, ↓ev_has10, ↓ev_shl, ↓ev_bit, ↓ev_in, ↓ev_inG, ↓ev_rd, ↓ev_st, decide_eq_true_eq, nI_add, ev_sub, pk_mul, nI_or, nI_xor, zBt, zBf, if_true, if_false, eq_self, Bool.false_eq_true, ↓zb1_at hcl, ↓zb1_at hcli, Bool.toNat_false, Nat.add_zero]
  · intro n
    show zf_X10_ranked_L17 M (nI i) _ (n + 1) (nI _) (nI (r 0)) = _
    simp (disch := (first | assumption | omega)) only [zf_X10_ranked_L17, zlp, ↓rd78 h, ↓ev_ifB, ↓ev_iflt, ↓ev_ifle, ↓ev_ifeq, ↓ifp, ↓ifn, ↓ev_b1, ↓ev_b2, ↓ev_put, ↓ev_z0, ↓ev_z1, ↓ev_zB, ↓ev_has9, ↓ev_has10, ↓ev_shl, ↓ev_bit, ↓ev_in, ↓ev_inG, ↓ev_rd, ↓ev_st, decide_eq_true_eq, nI_add, ev_sub, pk_mul, nI_or, nI_xor, zBt, zBf, if_true, if_false, eq_self, Bool.false_eq_true, zrank]
def zfr (r : ZRow) (a : Int32) : Nat → Nat → Int32
  | 0, _ => -1
  | d + 1, i => if nI (zrank r i) = a then nI i else zfr r a d (i + 1)
theorem op_ranked {n : Nat} (hn : 803 < n) {M : ZMem} (hI : INV M) (a : Int32) : OPQ (zf_X9_ranked n a) (zf_X10_ranked n a) M := by
  obtain ⟨t, nx, r, u, U, T, L, hS, hC, hM⟩ := id hI
  have hw := hS.1.1
  have hb := hw.b
  obtain ⟨a0, -⟩ := hC.rd
  have hdy := fun (K : Nat → Option Int32) => hC.1.dy (K := K)
  have h9 : ∀ d i k, i + d = r 0 → d < k → zf_X9_ranked_L2 M n a (some (-1)) k (nI i) = some (zfr r a d i) := by
    intro d
    induction d with
    | zero =>
      intro i k hi hk
      obtain ⟨k, rfl⟩ : ∃ m, k = m + 1 := ⟨k - 1, by omega⟩
      rw [zf_X9_ranked_L2, hC.1.dy, a0, zi_le (by omega) (by omega), if_pos (by omega)]
      rfl
    | succ d ih =>
      intro i k hi hk
      obtain ⟨k, rfl⟩ : ∃ m, k = m + 1 := ⟨k - 1, by omega⟩
      rw [zf_X9_ranked_L2, hC.1.dy, a0, zi_le (by omega) (by omega), if_neg (by omega), zb1_at (rank9 hC hw (by omega) (by omega)), nI_1, ih (i + 1) k (by omega) (by omega)]
      have e : zfr r a (d + 1) i = if nI (zrank r i) = a then nI i else zfr r a d (i + 1) := rfl
      rw [e]
      split <;> rfl
  have h10 : ∀ d i k, i + d = r 0 → d < k → zf_X10_ranked_L2 M a n (some (-1)) k (nI i) = some (zfr r a d i) := by
    intro d
    induction d with
    | zero =>
      intro i k hi hk
      obtain ⟨k, rfl⟩ : ∃ m, k = m + 1 := ⟨k - 1, by omega⟩
      rw [zf_X10_ranked_L2, hM.1.z0, zi_le (by omega) (by omega), if_pos (by omega)]
      rfl
    | succ d ih =>
      intro i k hi hk
      obtain ⟨k, rfl⟩ : ∃ m, k = m + 1 := ⟨k - 1, by omega⟩
      rw [zf_X10_ranked_L2, hM.1.z0, zi_le (by omega) (by omega), if_neg (by omega)]
      have e' := rank10 (n := n) hM.1 hw (i := i) (by omega) (by omega) (fun v38 => (if v38 = a then some (nI i) else (zf_X10_ranked_L2 M a n (some (-1)) k (nI i + 1))))
      refine e'.trans ?_
      rw [nI_1, ih (i + 1) k (by omega) (by omega)]
      have e : zfr r a (d + 1) i = if nI (zrank r i) = a then nI i else zfr r a d (i + 1) := rfl
      rw [e]
      split <;> rfl
  exact ⟨zfr r a (r 0) 0, h9 (r 0) 0 n (by omega) (by omega), h10 (r 0) 0 n (by omega) (by omega)⟩
theorem isOn10 {M : ZMem} {r : ZRow} (h : IR M r) (hw : WF r) {i d : Nat} (hi : i < r 0) (hd : d < 2147483648) : zf_X10_isOn (nI i) (nI d) M = some (zB (decide (r (15 + i) ≤ d ∧ d ≤ r (25 + i)))) := by
  have hb := hw.b
  obtain ⟨h0, h1, h2, h3, h4, h5, h6, h7, h8, h9, h10, h11, h12, h13, h14, hm, hc, hf⟩ := hw
  obtain ⟨b1, b2, b3, b4, b5⟩ := hm i hi
  simp (disch := (first | assumption | omega)) only [zf_X10_isOn, zlp, ↓rd78 h, ↓ev_ifB, ↓ev_iflt, ↓ev_ifle, ↓ev_ifeq, ↓ifp, ↓ifn, ↓ev_b1, ↓ev_b2, ↓ev_put, ↓ev_z0, ↓ev_z1, ↓ev_zB, ↓ev_has9, ↓ev_has10, ↓ev_shl, ↓ev_bit, ↓ev_in, ↓ev_inG, ↓ev_rd, ↓ev_st, decide_eq_true_eq, nI_add, ev_sub, pk_mul, nI_or, nI_xor, zBt, zBf, if_true, if_false, eq_self, Bool.false_eq_true]
theorem zcount {A B p : Nat} : ∀ n, zsum (fun x => (decide (A ≤ p + x ∧ p + x ≤ B)).toNat) n = min (B + 1) (p + n) - max A p
  | 0 => by simp only [zsum]; omega
  | n + 1 => by
    have := zcount (A := A) (B := B) (p := p) n
    show zsum _ n + (decide (A ≤ p + n ∧ p + n ≤ B)).toNat = _
    rw [this]
    by_cases g : A ≤ p + n ∧ p + n ≤ B
    · rw [decide_eq_true g]
      show _ + 1 = _
      omega
    · rw [decide_eq_false g]
      show _ + 0 = _
      omega
theorem op_together {n : Nat} (hn : 803 < n) {M : ZMem} (hI : INV M) (a b : Int32) : OPQ (zf_X9_together a b) (zf_X10_together n a b) M := by
  obtain ⟨t, nx, r, u, U, T, L, hS, hC, hM⟩ := id hI
  have hw := hS.1.1
  have hb := hw.b
  obtain ⟨a0, a1, a2, a3, a4, a5, a6, a7, a8, a9, a10, a11, a12, a13, a14, -⟩ := hC.rd
  have hdy := fun (K : Nat → Option Int32) => hC.1.dy (K := K)
  cases hz : ztwo (r 0) a b with
  | false =>
    refine ⟨-nI 1, ?_, ?_⟩
    · simp (disch := (first | assumption | omega)) only [zf_X9_together, zlp, ↓zb1_at (hC.two hw a b), hz, ↓ev_ifB, ↓ev_ifeq, ↓ifp, ↓ifn, zBt, zBf, if_true, if_false, eq_self, Bool.false_eq_true]
    · simp (disch := (first | assumption | omega)) only [zf_X10_together, zlp, ↓zb1_at (hM.1.two hw a b), hz, ↓ev_ifB, ↓ev_ifeq, ↓ifp, ↓ifn, zBt, zBf, if_true, if_false, eq_self, Bool.false_eq_true]
  | true =>
    obtain ⟨i, j, hi, hj, hij, rfl, rfl⟩ := ztwo_of hz
    obtain ⟨m1, m2, m3, m4⟩ := hC.tm hi
    obtain ⟨k1, k2, k3, k4⟩ := hC.tm hj
    obtain ⟨h0, h1, h2, h3, h4, h5, h6, h7, h8, h9, h10, h11, h12, h13, h14, hm, hc, hf⟩ := id hw
    obtain ⟨b1, b2, b3, b4, b5⟩ := hm i hi
    obtain ⟨c1, c2, c3, c4, c5⟩ := hm j hj
    refine ⟨nI (min (r 7) (min (r (25 + i)) (r (25 + j))) + 1 - max (r 6) (max (r (15 + i)) (r (15 + j)))), ?_, ?_⟩
    · rw [zf_X9_together, zb1_at (hC.two hw _ _), hz]
      rw [if_neg (by decide), hC.1.dy, zrd_at i rfl (by omega), hC.1.dy, zrd_at j rfl (by omega), hC.1.dy, zrd_at i rfl (by omega), hC.1.dy, zrd_at j rfl (by omega), m1, m2, k1, k2, a13, a14, zz_min (by omega) (by omega), zz_min (by omega) (by omega), zz_max (by omega) (by omega), zz_max (by omega) (by omega), zz_days (by omega) (by omega)]
    · have key := zloop (fun n x (s : Nat) => zf_X10_together_L22 M (nI i) (nI j) (fun v => some v) n (nI s) (nI (r 6 + x))) (zsum (fun x => (decide (max (r (15 + i)) (r (15 + j)) ≤ r 6 + x ∧ r 6 + x ≤ min (r (25 + i)) (r (25 + j)))).toNat)) (some (nI (zsum (fun x => (decide (max (r (15 + i)) (r (15 + j)) ≤ r 6 + x ∧ r 6 + x ≤ min (r (25 + i)) (r (25 + j)))).toNat) (r 7 + 1 - r 6)))) (r 7 + 1 - r 6) (fun n x hx => by
          show zf_X10_together_L22 M (nI i) (nI j) _ (n + 1) (nI _) (nI (r 6 + x)) = zf_X10_together_L22 M (nI i) (nI j) _ n (nI _) (nI (r 6 + (x + 1)))
          have e : ∀ f : Nat → Nat, zsum f (x + 1) = zsum f x + f x := fun f => rfl
          rw [e]
          have o1 := isOn10 hM.1 hw hi (d := r 6 + x) (by omega)
          have o2 := isOn10 hM.1 hw hj (d := r 6 + x) (by omega)
          by_cases g1 : r (15 + i) ≤ r 6 + x ∧ r 6 + x ≤ r (25 + i)
          · by_cases g2 : r (15 + j) ≤ r 6 + x ∧ r 6 + x ≤ r (25 + j)
            · rw [decide_eq_true (show max (r (15 + i)) (r (15 + j)) ≤ r 6 + x ∧ r 6 + x ≤ min (r (25 + i)) (r (25 + j)) by omega)]
              simp (disch := (first | assumption | omega)) only [zf_X10_together_L22, zf_X10_together_j59, zf_X10_together_j60, zlp, ↓rd78 hM.1, ↓ev_ifB, ↓ev_iflt, ↓ev_ifle, ↓ev_ifeq, ↓ifp, ↓ifn, ↓ev_b1, ↓ev_b2, ↓ev_put, ↓ev_z0, ↓ev_z1, ↓ev_zB, ↓ev_has9, ↓ev_has10, ↓ev_shl, ↓ev_bit, ↓ev_in, ↓ev_inG, ↓ev_rd, ↓ev_st, decide_eq_true_eq, nI_add, ev_sub, pk_mul, nI_or, nI_xor, zBt, zBf, if_true, if_false, eq_self, Bool.false_eq_true, ↓zb1_at o1, ↓zb1_at o2, Bool.toNat_true, Nat.add_assoc]
            · rw [decide_eq_false (show ¬ (max (r (15 + i)) (r (15 + j)) ≤ r 6 + x ∧ r 6 + x ≤ min (r (25 + i)) (r (25 + j))) by omega)]
              simp (disch := (first | assumption | omega)) only [zf_X10_together_L22, zf_X10_together_j59, zf_X10_together_j60, zlp, ↓rd78 hM.1, ↓ev_ifB, ↓ev_iflt, ↓ev_ifle, ↓ev_ifeq, ↓ifp, ↓ifn, ↓ev_b1, ↓ev_b2, ↓ev_put, ↓ev_z0, ↓ev_z1, ↓ev_zB, ↓ev_has9, ↓ev_has10, ↓ev_shl, ↓ev_bit, ↓ev_in, ↓ev_inG, ↓ev_rd, ↓ev_st, decide_eq_true_eq, nI_add, ev_sub, pk_mul, nI_or, nI_xor, zBt, zBf, if_true, if_false, eq_self, Bool.false_eq_true, ↓zb1_at o1, ↓zb1_at o2, Bool.toNat_false, Nat.add_assoc]
          · rw [decide_eq_false (show ¬ (max (r (15 + i)) (r (15 + j)) ≤ r 6 + x ∧ r 6 + x ≤ min (r (25 + i)) (r (25 + j))) by omega)]
            simp (disch := (first | assumption | omega)) only [zf_X10_together_L22, zf_X10_together_j59, zf_X10_together_j60, zlp, ↓rd78 hM.1, ↓ev_ifB, ↓ev_iflt, ↓ev_ifle, ↓ev_ifeq, ↓ifp, ↓ifn, ↓ev_b1, ↓ev_b2, ↓ev_put, ↓ev_z0, ↓ev_z1, ↓ev_zB, ↓ev_has9, ↓ev_has10, ↓ev_shl, ↓ev_bit, ↓ev_in, ↓ev_inG, ↓ev_rd, ↓ev_st, decide_eq_true_eq, nI_add, ev_sub, pk_mul, nI_or, nI_xor, zBt, zBf, if_true, if_false, eq_self, Bool.false_eq_true, ↓zb1_at o1, ↓zb1_at o2, Bool.toNat_false, Nat.add_assoc]) (fun n => by
          show zf_X10_together_L22 M (nI i) (nI j) _ (n + 1) (nI _) (nI (r 6 + (r 7 + 1 - r 6))) = _
          simp (disch := (first | assumption | omega)) only [zf_X10_together_L22, zlp, ↓rd78 hM.1, ↓ev_ifB, ↓ev_iflt, ↓ev_ifle, ↓ev_ifeq, ↓ifp, ↓ifn, ↓ev_b1, ↓ev_b2, ↓ev_put, ↓ev_z0, ↓ev_z1, ↓ev_zB, ↓ev_has9, ↓ev_has10, ↓ev_shl, ↓ev_bit, ↓ev_in, ↓ev_inG, ↓ev_rd, ↓ev_st, decide_eq_true_eq, nI_add, ev_sub, pk_mul, nI_or, nI_xor, zBt, zBf, if_true, if_false, eq_self, Bool.false_eq_true]) n 0 (by omega) (by omega)
      have e2 : zsum (fun x => (decide (max (r (15 + i)) (r (15 + j)) ≤ r 6 + x ∧ r 6 + x ≤ min (r (25 + i)) (r (25 + j)))).toNat) (r 7 + 1 - r 6) = min (r 7) (min (r (25 + i)) (r (25 + j))) + 1 - max (r 6) (max (r (15 + i)) (r (15 + j))) := by rw [zcount]; omega
      rw [← e2]
      have key2 : zf_X10_together_L22 M (nI i) (nI j) (fun v => some v) n (nI 0) (nI (r 6)) = _ := key
      simp (disch := (first | assumption | omega)) only [zf_X10_together, zlp, ↓zb1_at (hM.1.two hw _ _), hz, ↓ev_ifB, ↓ev_ifeq, ↓ifp, ↓ifn, zBt, zBf, if_true, if_false, eq_self, Bool.false_eq_true, ↓rd78 hM.1, key2]
