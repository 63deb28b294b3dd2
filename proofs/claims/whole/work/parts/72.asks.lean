/-! LAYER 2: what is asked (4) -/
theorem zcostP_le {r : ZRow} (h : WF r) {o i : Nat} (ho : o < 256) (hz : zord (r 1) o = true) : ∀ {k p : Nat}, p + k = r 1 → zcostP r o i k p ≤ 99 * k
  | 0, p, _ => Nat.le_refl _
  | k + 1, p, hp => by
    have hc := h.2.1
    have hch := zord_ch (r 1) (by omega) o ho hz p (by omega)
    have hw := (h.2.2.2.2.2.2.2.2.2.2.2.2.2.2.2.2.1 _ hch).1
    have ih := zcostP_le h (o := o) (i := i) ho hz (k := k) (p := p + 1) (by omega)
    unfold zcostP
    split <;> omega
theorem zcosts_le {r : ZRow} (h : WF r) {o : Nat} (ho : o < 256) (hz : zord (r 1) o = true) : zcosts r o ≤ 3960 := by
  have hb := h.b
  have := zsum_le (f := fun i => zcostTo r o i) (c := 396) (n := r 0) (fun i _ => by
    have := zcostP_le h (o := o) (i := i) ho hz (Nat.zero_add (r 1))
    unfold zcostTo
    omega)
  unfold zcosts
  omega
theorem zcostN_le {r : ZRow} (h : GD r) : zcostN r ≤ 3960 := by
  have hb := h.1.b
  unfold zcostN
  split
  · omega
  · exact zcosts_le h.1 (by omega) h.2
/-- for d numbers from i on -/
def zallF (f : Nat → Bool) : Nat → Nat → Bool
  | 0, _ => true
  | d + 1, i => f i && zallF f d (i + 1)
/-- one is reached in time, or never -/
def zsn (k : Nat) (d : Option Nat) : Bool := match d with
  | none => true
  | some d => decide (d ≤ k)
def zsoon (r : ZRow) (o k i : Nat) : Bool := zsn k (zdaysTo r o i)
theorem zallF_s (f : Nat → Bool) (d i : Nat) : zallF f (d + 1) i = (f i && zallF f d (i + 1)) := rfl
theorem zdaysP_0 {r : ZRow} {o i : Nat} (h : r (45 + i) = 0) : ∀ {k p : Nat}, zdaysP r o i k p = none
  | 0, _ => rfl
  | k + 1, p => by
    unfold zdaysP
    rw [h, Nat.zero_testBit, if_neg (by decide), zdaysP_0 h]
    rfl
theorem zdI_le {k : Nat} {d : Option Nat} (hk : k < 2147483648) (hd : ∀ x, d = some x → x ≤ 120) {α : Type} (A B : α) : (if zdI 0 d ≤ nI k then A else B) = if zsn k d = true then A else B := by
  cases d with
  | none => exact if_pos (Int32.le_of_lt (zneg_lt (by decide) hk))
  | some x =>
    have := hd x rfl
    show (if nI (0 + x) ≤ nI k then A else B) = _
    rw [zi_le (by omega) hk, Nat.zero_add]
    simp [zsn]
theorem zdI_lt {k : Nat} {d : Option Nat} (hk : k < 2147483648) (hd : ∀ x, d = some x → x ≤ 120) {α : Type} (A B : α) : (if nI k < zdI 0 d then A else B) = if zsn k d = true then B else A := by
  cases d with
  | none => exact if_neg (fun z => zneg_nle (show (-2 : Int32) < nI 0 by decide) hk (Int32.le_of_lt z))
  | some x =>
    have := hd x rfl
    show (if nI k < nI (0 + x) then A else B) = _
    rw [zi_lt hk (by omega), Nat.zero_add]
    by_cases g : x ≤ k
    · rw [if_neg (by omega), if_pos (show zsn k (some x) = true from decide_eq_true g)]
    · rw [if_pos (by omega), if_neg (show ¬ zsn k (some x) = true from fun z => g (of_decide_eq_true z))]
theorem inTime1 {M : ZMem} {t nx u : Nat} {r : ZRow} {U : Nat → ZRow} {T : ZT} {L : ZL} (h : IC M t nx r u U T L) (hw : WF r) {o k n : Nat} (ho : o < 256) (hz : zord (r 1) o = true) (hk : k < 2147483648) (hn : 10 < n) : zf_X1_isInTime n t (nI o) (nI k) M = some (zB (zallF (zsoon r o k) (r 0) 0)) := by
  have hb := hw.b
  obtain ⟨a0, -⟩ := h.rd
  have key : ∀ d i m, i + d = r 0 → d < m → zf_X1_isInTime_L2 M t n (nI o) (nI k) (some 1) m (nI i) = some (zB (zallF (zsoon r o k) d i)) := by
    intro d
    induction d with
    | zero =>
      intro i m hi hm
      obtain ⟨m, rfl⟩ : ∃ x, m = x + 1 := ⟨m - 1, by omega⟩
      rw [zf_X1_isInTime_L2, a0, zi_le (by omega) (by omega), if_pos (by omega)]
      rfl
    | succ d ih =>
      intro i m hi hm
      obtain ⟨m, rfl⟩ : ∃ x, m = x + 1 := ⟨m - 1, by omega⟩
      rw [zf_X1_isInTime_L2, a0, zi_le (by omega) (by omega), if_neg (by omega), zb1_at (daysTo1 h.2.2.1 hw ho hz (by omega) (by omega)), zdI_le hk (fun x e => zdaysTo_le hw ho hz e), nI_1, ih (i + 1) m (by omega) (by omega)]
      rw [zallF_s]
      show (if zsoon r o k i = true then _ else _) = _
      cases zsoon r o k i <;> rfl
  exact key (r 0) 0 n (by omega) (by omega)
theorem soon10 {M : ZMem} {r : ZRow} (h : IR M r) (hw : WF r) {o k n : Nat} (ho : o < 256) (hz : zord (r 1) o = true) (hk : k < 2147483648) (hn : 10 < n) : zf_X10_isSoon n (nI o) (nI k) M = some (zB (zallF (zsoon r o k) (r 0) 0)) := by
  have hb := hw.b
  have key : ∀ d i m b, i + d = r 0 → d < m → zf_X10_isSoon_L5 M n (nI o) (nI k) (fun v31 => zbz v31 (some v31)) m (zB b) (nI i) = some (zB (b && zallF (zsoon r o k) d i)) := by
    intro d
    induction d with
    | zero =>
      intro i m b hi hm
      obtain ⟨m, rfl⟩ : ∃ x, m = x + 1 := ⟨m - 1, by omega⟩
      rw [zf_X10_isSoon_L5, h.z0, zi_le (by omega) (by omega), if_pos (by omega), ev_zB]
      unfold zallF
      rw [Bool.and_true]
    | succ d ih =>
      intro i m b hi hm
      obtain ⟨m, rfl⟩ : ∃ x, m = x + 1 := ⟨m - 1, by omega⟩
      have hlt := zreach_lt hw (show i < r 0 by omega)
      rw [zf_X10_isSoon_L5, h.z0, zi_le (by omega) (by omega), if_neg (by omega)]
      unfold zf_X10_isSoon_j48 zf_X10_isSoon_j44 zf_X10_isSoon_j49
      rw [nI_1, zallF_s]
      cases b with
      | false =>
        rw [if_pos (show zB false = 0 from rfl)]
        exact ih (i + 1) m false (by omega) (by omega)
      | true =>
        rw [if_neg (by decide), show (45 : Int32) + nI i = nI (45 + i) from nI_add 45 i, rd78 h _ (by omega) (by omega)]
        by_cases g : r (45 + i) = 0
        · rw [if_pos (by rw [g]; rfl)]
          have e : zsoon r o k i = true := by unfold zsoon zdaysTo; rw [zdaysP_0 g]; rfl
          rw [e, Bool.true_and]
          exact ih (i + 1) m true (by omega) (by omega)
        · rw [if_neg (nI_ne0 (by omega) (by omega)), zb1_at (waitFor10 h hw ho hz (by omega) (by omega)), zdI_lt hk (fun x e => zdaysTo_le hw ho hz e)]
          show (if zsoon r o k i = true then _ else _) = _
          cases zsoon r o k i with
          | true => exact ih (i + 1) m true (by omega) (by omega)
          | false => exact ih (i + 1) m false (by omega) (by omega)
  have := key (r 0) 0 n true (by omega) (by omega)
  rw [Bool.true_and] at this
  exact this
/-- the cheapest of the first orders -/
def zchp (r : ZRow) (k : Nat) : Nat → Option Nat
  | 0 => none
  | o + 1 => if zord (r 1) o && zallF (zsoon r o k) (r 0) 0 then (match zchp r k o with
    | none => some o
    | some b => if zcosts r b ≤ zcosts r o then some b else some o) else zchp r k o
theorem zchp_ok {r : ZRow} {k b : Nat} : ∀ {o : Nat}, zchp r k o = some b → b < o ∧ zord (r 1) b = true
  | 0, e => by cases e
  | o + 1, e => by
    unfold zchp at e
    split at e
    · next h =>
      rw [Bool.and_eq_true] at h
      cases e2 : zchp r k o with
      | none => rw [e2] at e; cases e; exact ⟨by omega, h.1⟩
      | some b2 =>
        rw [e2] at e
        have := zchp_ok e2
        simp only at e
        split at e
        · cases e; exact ⟨by omega, this.2⟩
        · cases e; exact ⟨by omega, h.1⟩
    · have := zchp_ok e
      exact ⟨by omega, this.2⟩
def zoI (d : Option Nat) : Int32 := match d with
  | none => -nI 2
  | some d => nI d
theorem op_cheapest {n : Nat} (hn : 803 < n) {M : ZMem} (hI : INV M) (a b : Int32) : OPQ (zf_X9_cheapest n a b) (zf_X10_cheapest n a b) M := by
  obtain ⟨t, nx, r, u, U, T, L, hS, hC, hM⟩ := id hI
  have hw := hS.1.1
  have hb := hw.b
  obtain ⟨a0, a1, -⟩ := hC.rd
  have hdy := fun (K : Nat → Option Int32) => hC.1.dy (K := K)
  have q := z4 (r 1) (by omega)
  by_cases g0 : r 1 = 0
  · refine ⟨-nI 1, ?_, ?_⟩
    · simp (disch := (first | assumption | omega)) only [zf_X9_cheapest, zf_X9_cheapest_j23, zlp, ↓hdy, a1, ↓ev_ifB, ↓ev_iflt, ↓ev_ifle, ↓ev_ifeq, ↓ifp, ↓ifn, ↓ev_b1, ↓ev_b2, ↓ev_put, ↓ev_z0, ↓ev_z1, ↓ev_zB, ↓ev_has9, ↓ev_has10, ↓ev_shl, ↓ev_bit, ↓ev_in, ↓ev_inG, ↓ev_rd, ↓ev_st, decide_eq_true_eq, nI_add, ev_sub, pk_mul, nI_or, nI_xor, zBt, zBf, if_true, if_false, eq_self, Bool.false_eq_true]
    · simp (disch := (first | assumption | omega)) only [zf_X10_cheapest, zf_X10_cheapest_j22, zlp, ↓rd78 hM.1, ↓ev_ifB, ↓ev_iflt, ↓ev_ifle, ↓ev_ifeq, ↓ifp, ↓ifn, ↓ev_b1, ↓ev_b2, ↓ev_put, ↓ev_z0, ↓ev_z1, ↓ev_zB, ↓ev_has9, ↓ev_has10, ↓ev_shl, ↓ev_bit, ↓ev_in, ↓ev_inG, ↓ev_rd, ↓ev_st, decide_eq_true_eq, nI_add, ev_sub, pk_mul, nI_or, nI_xor, zBt, zBf, if_true, if_false, eq_self, Bool.false_eq_true]
  · rcases zint a with ha | ⟨k, hk, rfl⟩
    · refine ⟨-nI 1, ?_, ?_⟩
      · simp (disch := (first | assumption | omega)) only [zf_X9_cheapest, zf_X9_cheapest_j23, zlp, ↓hdy, a1, ↓ev_ifB, ↓ev_iflt, ↓ev_ifle, ↓ev_ifeq, ↓ifp, ↓ifn, ↓ev_b1, ↓ev_b2, ↓ev_put, ↓ev_z0, ↓ev_z1, ↓ev_zB, ↓ev_has9, ↓ev_has10, ↓ev_shl, ↓ev_bit, ↓ev_in, ↓ev_inG, ↓ev_rd, ↓ev_st, decide_eq_true_eq, nI_add, ev_sub, pk_mul, nI_or, nI_xor, zBt, zBf, if_true, if_false, eq_self, Bool.false_eq_true, ↓in1]
      · simp (disch := (first | assumption | omega)) only [zf_X10_cheapest, zf_X10_cheapest_j22, zlp, ↓rd78 hM.1, ↓ev_ifB, ↓ev_iflt, ↓ev_ifle, ↓ev_ifeq, ↓ifp, ↓ifn, ↓ev_b1, ↓ev_b2, ↓ev_put, ↓ev_z0, ↓ev_z1, ↓ev_zB, ↓ev_has9, ↓ev_has10, ↓ev_shl, ↓ev_bit, ↓ev_in, ↓ev_inG, ↓ev_rd, ↓ev_st, decide_eq_true_eq, nI_add, ev_sub, pk_mul, nI_or, nI_xor, zBt, zBf, if_true, if_false, eq_self, Bool.false_eq_true, ↓in1]
    · have h9 : ∀ (K : Int32 → Int32 → Option Int32), zf_X9_cheapest_L47 (nI (4 ^ r 1)) M n (nI k) K n (-nI 2) (-nI 2) (nI 0) = K (zoI ((zchp r k (4 ^ r 1)).map (zcosts r))) (zoI (zchp r k (4 ^ r 1))) := by
        intro K
        refine zloop (fun m o (s : Option Nat) => zf_X9_cheapest_L47 (nI (4 ^ r 1)) M n (nI k) K m (zoI (s.map (zcosts r))) (zoI s) (nI o)) (zchp r k) _ (4 ^ r 1) (fun m o ho => ?_) (fun m => ?_) n 0 (by omega) (by omega)
        · have e : zchp r k (o + 1) = if zord (r 1) o && zallF (zsoon r o k) (r 0) 0 then (match zchp r k o with | none => some o | some b => if zcosts r b ≤ zcosts r o then some b else some o) else zchp r k o := rfl
          have ho9 : zf_X1_isOrder n t (nI o) M = some (zB (zord (r 1) o)) := by
            rw [hC.ord (n := n) hw (by omega)]
            unfold zordI
            rw [nI_clamp (by omega), decide_eq_true (nI_pos (by omega)), Bool.true_and]
          show zf_X9_cheapest_L47 (nI (4 ^ r 1)) M n (nI k) K (m + 1) (zoI ((zchp r k o).map (zcosts r))) (zoI (zchp r k o)) (nI o) = zf_X9_cheapest_L47 (nI (4 ^ r 1)) M n (nI k) K m (zoI ((zchp r k (o + 1)).map (zcosts r))) (zoI (zchp r k (o + 1))) (nI (o + 1))
          rw [e, zf_X9_cheapest_L47, zi_le (by omega) (by omega), if_neg (by omega), hC.1.dy, zb1_at ho9]
          unfold zf_X9_cheapest_j103 zf_X9_cheapest_j110
          rw [nI_1]
          cases hz : zord (r 1) o with
          | false => rfl
          | true =>
            have hit := inTime1 (n := n) hC hw (o := o) (by omega) hz hk (by omega)
            have hcb := costsBy1 (n := n) hC.2.2.1 hw (show o < 256 by omega) hz (by omega)
            have hle := zcosts_le hw (show o < 256 by omega) hz
            rw [if_neg (by decide), hC.1.dy, zb1_at hit, hC.1.dy, zb1_at hcb]
            cases zallF (zsoon r o k) (r 0) 0 with
            | false => rfl
            | true =>
              rw [if_neg (by decide)]
              cases e2 : zchp r k o with
              | none => rfl
              | some b =>
                obtain ⟨p1, p2⟩ := zchp_ok e2
                have hle2 := zcosts_le hw (show b < 256 by omega) p2
                show (if nI b = -nI 2 then _ else if nI (zcosts r b) ≤ nI (zcosts r o) then _ else _) = _
                rw [m2_eq (by omega), zi_le (by omega) (by omega)]
                by_cases g : zcosts r b ≤ zcosts r o
                · rw [if_pos g]; simp [g]
                · rw [if_neg g]; simp [g]; rfl
        · show zf_X9_cheapest_L47 (nI (4 ^ r 1)) M n (nI k) K (m + 1) _ _ (nI (4 ^ r 1)) = _
          rw [zf_X9_cheapest_L47, zi_le (by omega) (by omega), if_pos (by omega)]
      have h10 : ∀ (K : Int32 → Option Int32), zf_X10_cheapest_L30 M n (nI k) K n (-nI 2) (nI 0) = K (zoI (zchp r k (4 ^ r 1))) := by
        intro K
        have hor : zf_X10_orders M = some (nI (4 ^ r 1)) := by
          unfold zf_X10_orders
          rw [zrd_at (i := (1 : Int32)) 1 rfl (by omega), hM.1 1 (by omega), rI_ne (by omega), zpow4 (r 1) (by omega)]
        refine zloop (fun m o (s : Option Nat) => zf_X10_cheapest_L30 M n (nI k) K m (zoI s) (nI o)) (zchp r k) _ (4 ^ r 1) (fun m o ho => ?_) (fun m => ?_) n 0 (by omega) (by omega)
        · have e : zchp r k (o + 1) = if zord (r 1) o && zallF (zsoon r o k) (r 0) 0 then (match zchp r k o with | none => some o | some b => if zcosts r b ≤ zcosts r o then some b else some o) else zchp r k o := rfl
          have ho10 : zf_X10_isOrder n (nI o) M = some (zB (zord (r 1) o)) := by
            rw [hM.1.ord (n := n) hw (by omega)]
            unfold zordI
            rw [nI_clamp (by omega), decide_eq_true (nI_pos (by omega)), Bool.true_and]
          show zf_X10_cheapest_L30 M n (nI k) K (m + 1) (zoI (zchp r k o)) (nI o) = zf_X10_cheapest_L30 M n (nI k) K m (zoI (zchp r k (o + 1))) (nI (o + 1))
          rw [e, zf_X10_cheapest_L30, zb1_at hor, zi_le (by omega) (by omega), if_neg (by omega), zb1_at ho10]
          unfold zf_X10_cheapest_j78 zf_X10_cheapest_j81
          rw [nI_1]
          cases hz : zord (r 1) o with
          | false => rfl
          | true =>
            have hit := soon10 (n := n) hM.1 hw (o := o) (by omega) hz hk (by omega)
            have hcb := costsFor10 (n := n) hM.1 hw (show o < 256 by omega) hz (by omega)
            have hle := zcosts_le hw (show o < 256 by omega) hz
            rw [if_neg (by decide), zb1_at hit]
            cases zallF (zsoon r o k) (r 0) 0 with
            | false => rfl
            | true =>
              rw [if_neg (by decide)]
              cases e2 : zchp r k o with
              | none => rfl
              | some b =>
                obtain ⟨p1, p2⟩ := zchp_ok e2
                have hle2 := zcosts_le hw (show b < 256 by omega) p2
                have hcb2 := costsFor10 (n := n) hM.1 hw (show b < 256 by omega) p2 (by omega)
                show (if nI b = -nI 2 then _ else zb1 (zf_X10_costsFor n (nI o) M) (fun v38 => zb1 (zf_X10_costsFor n (nI b) M) (fun v39 => _))) = _
                rw [m2_eq (by omega), zb1_at hcb, zb1_at hcb2, zi_le (by omega) (by omega)]
                by_cases g : zcosts r b ≤ zcosts r o
                · rw [if_pos g]; simp [g]
                · rw [if_neg g]; simp [g]; rfl
        · show zf_X10_cheapest_L30 M n (nI k) K (m + 1) _ (nI (4 ^ r 1)) = _
          rw [zf_X10_cheapest_L30, zb1_at hor, zi_le (by omega) (by omega), if_pos (by omega)]
      have hno : zf_X1_numbersOf (nI (r 1)) = some (nI (4 ^ r 1)) := by
        unfold zf_X1_numbersOf
        rw [zpow4 (r 1) (by omega)]
      rcases zint b with hb' | ⟨w, hw', rfl⟩
      · refine ⟨-nI 1, ?_, ?_⟩
        · simp (disch := (first | assumption | omega)) only [zf_X9_cheapest, zf_X9_cheapest_j23, zlp, ↓hdy, a1, ↓ev_ifB, ↓ev_iflt, ↓ev_ifle, ↓ev_ifeq, ↓ifp, ↓ifn, ↓ev_b1, ↓ev_b2, ↓ev_put, ↓ev_z0, ↓ev_z1, ↓ev_zB, ↓ev_has9, ↓ev_has10, ↓ev_shl, ↓ev_bit, ↓ev_in, ↓ev_inG, ↓ev_rd, ↓ev_st, decide_eq_true_eq, nI_add, ev_sub, pk_mul, nI_or, nI_xor, zBt, zBf, if_true, if_false, eq_self, Bool.false_eq_true, ↓in2]
        · simp (disch := (first | assumption | omega)) only [zf_X10_cheapest, zf_X10_cheapest_j22, zlp, ↓rd78 hM.1, ↓ev_ifB, ↓ev_iflt, ↓ev_ifle, ↓ev_ifeq, ↓ifp, ↓ifn, ↓ev_b1, ↓ev_b2, ↓ev_put, ↓ev_z0, ↓ev_z1, ↓ev_zB, ↓ev_has9, ↓ev_has10, ↓ev_shl, ↓ev_bit, ↓ev_in, ↓ev_inG, ↓ev_rd, ↓ev_st, decide_eq_true_eq, nI_add, ev_sub, pk_mul, nI_or, nI_xor, zBt, zBf, if_true, if_false, eq_self, Bool.false_eq_true]
      · by_cases g : w ≤ 1
        · refine ⟨if w = 0 then zoI ((zchp r k (4 ^ r 1)).map (zcosts r)) else zoI (zchp r k (4 ^ r 1)), ?_, ?_⟩
          · have e1 : zf_X9_cheapest n (nI k) (nI w) M = zf_X9_cheapest_j25 M n (nI k) (nI w) := by
              rcases (by omega : w = 0 ∨ w = 1) with rfl | rfl <;> simp (disch := (first | assumption | omega)) only [zf_X9_cheapest, zf_X9_cheapest_j23, zlp, ↓hdy, a1, ↓ev_ifB, ↓ev_iflt, ↓ev_ifle, ↓ev_ifeq, ↓ifp, ↓ifn, ↓ev_b1, ↓ev_b2, ↓ev_put, ↓ev_z0, ↓ev_z1, ↓ev_zB, ↓ev_has9, ↓ev_has10, ↓ev_shl, ↓ev_bit, ↓ev_in, ↓ev_inG, ↓ev_rd, ↓ev_st, decide_eq_true_eq, nI_add, ev_sub, pk_mul, nI_or, nI_xor, zBt, zBf, if_true, if_false, eq_self, Bool.false_eq_true]
            rw [e1]
            unfold zf_X9_cheapest_j25
            rw [hC.1.dy, a1, zb1_at hno]
            refine (h9 _).trans ?_
            unfold zf_X9_cheapest_j126
            rcases (by omega : w = 0 ∨ w = 1) with rfl | rfl <;> rfl
          · have e1 : zf_X10_cheapest n (nI k) (nI w) M = zf_X10_cheapest_L30 M n (nI k) (fun v40 => (if v40 = (-2) then (zf_X10_cheapest_j111 (-2)) else (if nI w = 0 then zb1 (zf_X10_costsFor n v40 M) (fun v42 => (zf_X10_cheapest_j111 v42)) else (zf_X10_cheapest_j111 v40)))) n (-nI 2) (nI 0) := by
              simp (disch := (first | assumption | omega)) only [zf_X10_cheapest, zf_X10_cheapest_j22, zlp, ↓rd78 hM.1, ↓ev_ifB, ↓ev_iflt, ↓ev_ifle, ↓ev_ifeq, ↓ifp, ↓ifn, ↓ev_b1, ↓ev_b2, ↓ev_put, ↓ev_z0, ↓ev_z1, ↓ev_zB, ↓ev_has9, ↓ev_has10, ↓ev_shl, ↓ev_bit, ↓ev_in, ↓ev_inG, ↓ev_rd, ↓ev_st, decide_eq_true_eq, nI_add, ev_sub, pk_mul, nI_or, nI_xor, zBt, zBf, if_true, if_false, eq_self, Bool.false_eq_true]
            rw [e1, h10]
            unfold zf_X10_cheapest_j111
            cases e2 : zchp r k (4 ^ r 1) with
            | none => rcases (by omega : w = 0 ∨ w = 1) with rfl | rfl <;> rfl
            | some b =>
              obtain ⟨p1, p2⟩ := zchp_ok e2
              have hcb2 := costsFor10 (n := n) hM.1 hw (show b < 256 by omega) p2 (by omega)
              show (if nI b = -nI 2 then _ else if nI w = 0 then zb1 (zf_X10_costsFor n (nI b) M) (fun v42 => some v42) else some (nI b)) = _
              rw [m2_eq (by omega), zb1_at hcb2]
              rcases (by omega : w = 0 ∨ w = 1) with rfl | rfl <;> rfl
        · refine ⟨-nI 1, ?_, ?_⟩
          · simp (disch := (first | assumption | omega)) only [zf_X9_cheapest, zf_X9_cheapest_j23, zlp, ↓hdy, a1, ↓ev_ifB, ↓ev_iflt, ↓ev_ifle, ↓ev_ifeq, ↓ifp, ↓ifn, ↓ev_b1, ↓ev_b2, ↓ev_put, ↓ev_z0, ↓ev_z1, ↓ev_zB, ↓ev_has9, ↓ev_has10, ↓ev_shl, ↓ev_bit, ↓ev_in, ↓ev_inG, ↓ev_rd, ↓ev_st, decide_eq_true_eq, nI_add, ev_sub, pk_mul, nI_or, nI_xor, zBt, zBf, if_true, if_false, eq_self, Bool.false_eq_true]
          · simp (disch := (first | assumption | omega)) only [zf_X10_cheapest, zf_X10_cheapest_j22, zlp, ↓rd78 hM.1, ↓ev_ifB, ↓ev_iflt, ↓ev_ifle, ↓ev_ifeq, ↓ifp, ↓ifn, ↓ev_b1, ↓ev_b2, ↓ev_put, ↓ev_z0, ↓ev_z1, ↓ev_zB, ↓ev_has9, ↓ev_has10, ↓ev_shl, ↓ev_bit, ↓ev_in, ↓ev_inG, ↓ev_rd, ↓ev_st, decide_eq_true_eq, nI_add, ev_sub, pk_mul, nI_or, nI_xor, zBt, zBf, if_true, if_false, eq_self, Bool.false_eq_true]
/-- how many conflicts -/
def zcon (r : ZRow) : Nat := zsum (fun i => zbc (r (63 + i))) (r 0)
theorem zbc_le (a : Nat) : zbc a ≤ 10 := zsum_le1
theorem zcon_le {r : ZRow} (h : WF r) : zcon r ≤ 100 := by
  have hb := h.b
  have := zsum_le (f := fun i => zbc (r (63 + i))) (c := 10) (n := r 0) (fun i _ => zbc_le _)
  unfold zcon
  omega
theorem con9 {M : ZMem} {t nx u : Nat} {r : ZRow} {U : Nat → ZRow} {T : ZT} {L : ZL} (h : IC M t nx r u U T L) (hw : WF r) {n : Nat} (hn : 10 < n) : zf_X9_conflictCount n M = some (nI (zcon r / 2)) := by
  have hb := hw.b
  obtain ⟨a0, -⟩ := h.rd
  have hdy := fun (K : Nat → Option Int32) => h.1.dy (K := K)
  have hl := zcon_le hw
  unfold zf_X9_conflictCount
  refine zloop (fun n i (s : Nat) => zf_X9_conflictCount_L4 M (fun v30 => some (v30 / 2)) n (nI s) (nI i)) (zsum (fun i => zbc (r (63 + i)))) (some (nI (zcon r / 2))) (r 0) ?_ ?_ n 0 (Nat.zero_le _) (by omega)
  · intro n i hi
    have hm := h.foe (show i < 10 by omega)
    have := hw.foe (show i < 10 by omega)
    show zf_X9_conflictCount_L4 M _ (n + 1) (nI _) (nI i) = zf_X9_conflictCount_L4 M _ n (nI _) (nI (i + 1))
    simp (disch := (first | assumption | omega)) only [zf_X9_conflictCount_L4, zlp, ↓hdy, a0, ↓ev_ifB, ↓ev_iflt, ↓ev_ifle, ↓ev_ifeq, ↓ifp, ↓ifn, ↓ev_b1, ↓ev_b2, ↓ev_put, ↓ev_z0, ↓ev_z1, ↓ev_zB, ↓ev_has9, ↓ev_has10, ↓ev_shl, ↓ev_bit, ↓ev_in, ↓ev_inG, ↓ev_rd, ↓ev_st, decide_eq_true_eq, nI_add, ev_sub, pk_mul, nI_or, nI_xor, zBt, zBf, if_true, if_false, eq_self, Bool.false_eq_true, hm, bitCount9, zsum]
  · intro n
    show zf_X9_conflictCount_L4 M _ (n + 1) (nI (zcon r)) (nI (r 0)) = _
    simp (disch := (first | assumption | omega)) only [zf_X9_conflictCount_L4, zlp, ↓hdy, a0, ↓ev_ifB, ↓ev_iflt, ↓ev_ifle, ↓ev_ifeq, ↓ifp, ↓ifn, ↓ev_b1, ↓ev_b2, ↓ev_put, ↓ev_z0, ↓ev_z1, ↓ev_zB, ↓ev_has9, ↓ev_has10, ↓ev_shl, ↓ev_bit, ↓ev_in, ↓ev_inG, ↓ev_rd, ↓ev_st, decide_eq_true_eq, nI_add, ev_sub, pk_mul, nI_or, nI_xor, zBt, zBf, if_true, if_false, eq_self, Bool.false_eq_true, ev_div]
theorem con10 {M : ZMem} {r : ZRow} (h : IR M r) (hw : WF r) {n : Nat} (hn : 10 < n) : zf_X10_conflicts n M = some (nI (zcon r / 2)) := by
  have hb := hw.b
  have hl := zcon_le hw
  unfold zf_X10_conflicts
  refine zloop (fun m i (s : Nat) => zf_X10_conflicts_L4 M n (fun v30 => some (v30 / 2)) m (nI s) (nI i)) (zsum (fun i => zbc (r (63 + i)))) (some (nI (zcon r / 2))) (r 0) ?_ ?_ n 0 (Nat.zero_le _) (by omega)
  · intro m i hi
    have := hw.foe (show i < 10 by omega)
    show zf_X10_conflicts_L4 M n _ (m + 1) (nI _) (nI i) = zf_X10_conflicts_L4 M n _ m (nI _) (nI (i + 1))
    simp (disch := (first | assumption | omega)) only [zf_X10_conflicts_L4, zlp, ↓rd78 h, ↓ev_ifB, ↓ev_iflt, ↓ev_ifle, ↓ev_ifeq, ↓ifp, ↓ifn, ↓ev_b1, ↓ev_b2, ↓ev_put, ↓ev_z0, ↓ev_z1, ↓ev_zB, ↓ev_has9, ↓ev_has10, ↓ev_shl, ↓ev_bit, ↓ev_in, ↓ev_inG, ↓ev_rd, ↓ev_st, decide_eq_true_eq, nI_add, ev_sub, pk_mul, nI_or, nI_xor, zBt, zBf, if_true, if_false, eq_self, Bool.false_eq_true, bits10, zsum]
  · intro m
    show zf_X10_conflicts_L4 M n _ (m + 1) (nI (zcon r)) (nI (r 0)) = _
    simp (disch := (first | assumption | omega)) only [zf_X10_conflicts_L4, zlp, ↓rd78 h, ↓ev_ifB, ↓ev_iflt, ↓ev_ifle, ↓ev_ifeq, ↓ifp, ↓ifn, ↓ev_b1, ↓ev_b2, ↓ev_put, ↓ev_z0, ↓ev_z1, ↓ev_zB, ↓ev_has9, ↓ev_has10, ↓ev_shl, ↓ev_bit, ↓ev_in, ↓ev_inG, ↓ev_rd, ↓ev_st, decide_eq_true_eq, nI_add, ev_sub, pk_mul, nI_or, nI_xor, zBt, zBf, if_true, if_false, eq_self, Bool.false_eq_true, ev_div]
theorem op_count {n : Nat} (hn : 803 < n) {M : ZMem} (hI : INV M) (a : Int32) : OPQ (zf_X9_count n a) (zf_X10_count n a) M := by
  obtain ⟨t, nx, r, u, U, T, L, hS, hC, hM⟩ := id hI
  have hw := hS.1.1
  have hb := hw.b
  obtain ⟨a0, a1, a2, a3, a4, a5, a6, a7, a8, a9, a10, a11, a12, a13, a14, a15, a16, a17⟩ := hC.rd
  have hs2 := hC.s2
  have hdy := fun (K : Nat → Option Int32) => hC.1.dy (K := K)
  have hc9 := con9 (n := n) hC hw (by omega)
  have hc10 := con10 (n := n) hM.1 hw (by omega)
  have hk10 := costs10 (n := n) hM.1 hS.1 (by omega)
  have hev := everyone9 hC.1 hC.2.2.1.1 hw.1
  have hal := all10 (hM.1 0 (by omega)) hw.1
  have hcl9 := claims9 (n := n) hC.1 hC.2.2.1 hC.2.2.2.1.1 hw (a := 2 ^ r 0 - 1) (by omega) (by omega)
  have hcl10 := claims10 (n := n) hM.1 hw (a := 2 ^ r 0 - 1) (by omega) (by omega)
  have h774 := hM.2.1.1
  have h776 := hM.2.2.1.1
  have h7716 := hM.2.2.2.1
  rcases zint a with ha | ⟨k, hk, rfl⟩
  · refine ⟨-nI 1, ?_, ?_⟩
    · simp (disch := (first | assumption | omega)) only [zf_X9_count, zlp, ↓in2]
    · simp (disch := (first | assumption | omega)) only [zf_X10_count, zlp, ↓in2]
  · rcases (by omega : k = 0 ∨ k = 1 ∨ k = 2 ∨ k = 3 ∨ k = 4 ∨ k = 5 ∨ k = 6 ∨ k = 7 ∨ k = 8 ∨ k = 9 ∨ k = 10 ∨ k = 11 ∨ k = 12 ∨ k = 13 ∨ k = 14 ∨ k = 15 ∨ 16 ≤ k) with rfl | rfl | rfl | rfl | rfl | rfl | rfl | rfl | rfl | rfl | rfl | rfl | rfl | rfl | rfl | rfl | hk
    · exact ⟨nI (r 0), by simp (disch := (first | assumption | omega)) only [zf_X9_count, zlp, ↓ev_ifB, ↓ev_iflt, ↓ev_ifle, ↓ev_ifeq, ↓ifp, ↓ifn, ↓ev_b1, ↓ev_b2, ↓ev_put, ↓ev_z0, ↓ev_z1, ↓ev_zB, ↓ev_has9, ↓ev_has10, ↓ev_shl, ↓ev_bit, ↓ev_in, ↓ev_inG, ↓ev_rd, ↓ev_st, decide_eq_true_eq, nI_add, ev_sub, pk_mul, nI_or, nI_xor, zBt, zBf, if_true, if_false, eq_self, Bool.false_eq_true, ↓hdy, a0], by simp (disch := (first | assumption | omega)) only [zf_X10_count, zlp, ↓rd78 hM.1, ↓ev_ifB, ↓ev_iflt, ↓ev_ifle, ↓ev_ifeq, ↓ifp, ↓ifn, ↓ev_b1, ↓ev_b2, ↓ev_put, ↓ev_z0, ↓ev_z1, ↓ev_zB, ↓ev_has9, ↓ev_has10, ↓ev_shl, ↓ev_bit, ↓ev_in, ↓ev_inG, ↓ev_rd, ↓ev_st, decide_eq_true_eq, nI_add, ev_sub, pk_mul, nI_or, nI_xor, zBt, zBf, if_true, if_false, eq_self, Bool.false_eq_true]⟩
    · exact ⟨nI (r 1), by simp (disch := (first | assumption | omega)) only [zf_X9_count, zlp, ↓ev_ifB, ↓ev_iflt, ↓ev_ifle, ↓ev_ifeq, ↓ifp, ↓ifn, ↓ev_b1, ↓ev_b2, ↓ev_put, ↓ev_z0, ↓ev_z1, ↓ev_zB, ↓ev_has9, ↓ev_has10, ↓ev_shl, ↓ev_bit, ↓ev_in, ↓ev_inG, ↓ev_rd, ↓ev_st, decide_eq_true_eq, nI_add, ev_sub, pk_mul, nI_or, nI_xor, zBt, zBf, if_true, if_false, eq_self, Bool.false_eq_true, ↓hdy, a1], by simp (disch := (first | assumption | omega)) only [zf_X10_count, zlp, ↓rd78 hM.1, ↓ev_ifB, ↓ev_iflt, ↓ev_ifle, ↓ev_ifeq, ↓ifp, ↓ifn, ↓ev_b1, ↓ev_b2, ↓ev_put, ↓ev_z0, ↓ev_z1, ↓ev_zB, ↓ev_has9, ↓ev_has10, ↓ev_shl, ↓ev_bit, ↓ev_in, ↓ev_inG, ↓ev_rd, ↓ev_st, decide_eq_true_eq, nI_add, ev_sub, pk_mul, nI_or, nI_xor, zBt, zBf, if_true, if_false, eq_self, Bool.false_eq_true]⟩
    · exact ⟨nI (zcon r / 2), by simp (disch := (first | assumption | omega)) only [zf_X9_count, zlp, ↓ev_ifB, ↓ev_iflt, ↓ev_ifle, ↓ev_ifeq, ↓ifp, ↓ifn, ↓ev_b1, ↓ev_b2, ↓ev_put, ↓ev_z0, ↓ev_z1, ↓ev_zB, ↓ev_has9, ↓ev_has10, ↓ev_shl, ↓ev_bit, ↓ev_in, ↓ev_inG, ↓ev_rd, ↓ev_st, decide_eq_true_eq, nI_add, ev_sub, pk_mul, nI_or, nI_xor, zBt, zBf, if_true, if_false, eq_self, Bool.false_eq_true, ↓zb1_at hc9], by simp (disch := (first | assumption | omega)) only [zf_X10_count, zlp, ↓zb1_at hc10, ↓ev_ifB, ↓ev_iflt, ↓ev_ifle, ↓ev_ifeq, ↓ifp, ↓ifn, ↓ev_b1, ↓ev_b2, ↓ev_put, ↓ev_z0, ↓ev_z1, ↓ev_zB, ↓ev_has9, ↓ev_has10, ↓ev_shl, ↓ev_bit, ↓ev_in, ↓ev_inG, ↓ev_rd, ↓ev_st, decide_eq_true_eq, nI_add, ev_sub, pk_mul, nI_or, nI_xor, zBt, zBf, if_true, if_false, eq_self, Bool.false_eq_true]⟩
    · exact ⟨nI (r 8), by simp (disch := (first | assumption | omega)) only [zf_X9_count, zlp, ↓ev_ifB, ↓ev_iflt, ↓ev_ifle, ↓ev_ifeq, ↓ifp, ↓ifn, ↓ev_b1, ↓ev_b2, ↓ev_put, ↓ev_z0, ↓ev_z1, ↓ev_zB, ↓ev_has9, ↓ev_has10, ↓ev_shl, ↓ev_bit, ↓ev_in, ↓ev_inG, ↓ev_rd, ↓ev_st, decide_eq_true_eq, nI_add, ev_sub, pk_mul, nI_or, nI_xor, zBt, zBf, if_true, if_false, eq_self, Bool.false_eq_true, ↓hdy, a5], by simp (disch := (first | assumption | omega)) only [zf_X10_count, zlp, ↓rd78 hM.1, ↓ev_ifB, ↓ev_iflt, ↓ev_ifle, ↓ev_ifeq, ↓ifp, ↓ifn, ↓ev_b1, ↓ev_b2, ↓ev_put, ↓ev_z0, ↓ev_z1, ↓ev_zB, ↓ev_has9, ↓ev_has10, ↓ev_shl, ↓ev_bit, ↓ev_in, ↓ev_inG, ↓ev_rd, ↓ev_st, decide_eq_true_eq, nI_add, ev_sub, pk_mul, nI_or, nI_xor, zBt, zBf, if_true, if_false, eq_self, Bool.false_eq_true]⟩
    · exact ⟨nI (r 2), by simp (disch := (first | assumption | omega)) only [zf_X9_count, zlp, ↓ev_ifB, ↓ev_iflt, ↓ev_ifle, ↓ev_ifeq, ↓ifp, ↓ifn, ↓ev_b1, ↓ev_b2, ↓ev_put, ↓ev_z0, ↓ev_z1, ↓ev_zB, ↓ev_has9, ↓ev_has10, ↓ev_shl, ↓ev_bit, ↓ev_in, ↓ev_inG, ↓ev_rd, ↓ev_st, decide_eq_true_eq, nI_add, ev_sub, pk_mul, nI_or, nI_xor, zBt, zBf, if_true, if_false, eq_self, Bool.false_eq_true, ↓hdy, a11], by simp (disch := (first | assumption | omega)) only [zf_X10_count, zlp, ↓rd78 hM.1, ↓ev_ifB, ↓ev_iflt, ↓ev_ifle, ↓ev_ifeq, ↓ifp, ↓ifn, ↓ev_b1, ↓ev_b2, ↓ev_put, ↓ev_z0, ↓ev_z1, ↓ev_zB, ↓ev_has9, ↓ev_has10, ↓ev_shl, ↓ev_bit, ↓ev_in, ↓ev_inG, ↓ev_rd, ↓ev_st, decide_eq_true_eq, nI_add, ev_sub, pk_mul, nI_or, nI_xor, zBt, zBf, if_true, if_false, eq_self, Bool.false_eq_true]⟩
    · exact ⟨nI (r 9), by simp (disch := (first | assumption | omega)) only [zf_X9_count, zlp, ↓ev_ifB, ↓ev_iflt, ↓ev_ifle, ↓ev_ifeq, ↓ifp, ↓ifn, ↓ev_b1, ↓ev_b2, ↓ev_put, ↓ev_z0, ↓ev_z1, ↓ev_zB, ↓ev_has9, ↓ev_has10, ↓ev_shl, ↓ev_bit, ↓ev_in, ↓ev_inG, ↓ev_rd, ↓ev_st, decide_eq_true_eq, nI_add, ev_sub, pk_mul, nI_or, nI_xor, zBt, zBf, if_true, if_false, eq_self, Bool.false_eq_true, ↓hdy, a12], by simp (disch := (first | assumption | omega)) only [zf_X10_count, zlp, ↓rd78 hM.1, ↓ev_ifB, ↓ev_iflt, ↓ev_ifle, ↓ev_ifeq, ↓ifp, ↓ifn, ↓ev_b1, ↓ev_b2, ↓ev_put, ↓ev_z0, ↓ev_z1, ↓ev_zB, ↓ev_has9, ↓ev_has10, ↓ev_shl, ↓ev_bit, ↓ev_in, ↓ev_inG, ↓ev_rd, ↓ev_st, decide_eq_true_eq, nI_add, ev_sub, pk_mul, nI_or, nI_xor, zBt, zBf, if_true, if_false, eq_self, Bool.false_eq_true]⟩
    · exact ⟨nI (zcostN r), by simp (disch := (first | assumption | omega)) only [zf_X9_count, zlp, ↓ev_ifB, ↓ev_iflt, ↓ev_ifle, ↓ev_ifeq, ↓ifp, ↓ifn, ↓ev_b1, ↓ev_b2, ↓ev_put, ↓ev_z0, ↓ev_z1, ↓ev_zB, ↓ev_has9, ↓ev_has10, ↓ev_shl, ↓ev_bit, ↓ev_in, ↓ev_inG, ↓ev_rd, ↓ev_st, decide_eq_true_eq, nI_add, ev_sub, pk_mul, nI_or, nI_xor, zBt, zBf, if_true, if_false, eq_self, Bool.false_eq_true, ↓hdy, a7], by simp (disch := (first | assumption | omega)) only [zf_X10_count, zlp, ↓zb1_at hk10, ↓ev_ifB, ↓ev_iflt, ↓ev_ifle, ↓ev_ifeq, ↓ifp, ↓ifn, ↓ev_b1, ↓ev_b2, ↓ev_put, ↓ev_z0, ↓ev_z1, ↓ev_zB, ↓ev_has9, ↓ev_has10, ↓ev_shl, ↓ev_bit, ↓ev_in, ↓ev_inG, ↓ev_rd, ↓ev_st, decide_eq_true_eq, nI_add, ev_sub, pk_mul, nI_or, nI_xor, zBt, zBf, if_true, if_false, eq_self, Bool.false_eq_true]⟩
    · refine ⟨if r 11 = 0 then -2 else nI (r 11 - 1), by simp (disch := (first | assumption | omega)) only [zf_X9_count, zlp, ↓ev_ifB, ↓ev_iflt, ↓ev_ifle, ↓ev_ifeq, ↓ifp, ↓ifn, ↓ev_b1, ↓ev_b2, ↓ev_put, ↓ev_z0, ↓ev_z1, ↓ev_zB, ↓ev_has9, ↓ev_has10, ↓ev_shl, ↓ev_bit, ↓ev_in, ↓ev_inG, ↓ev_rd, ↓ev_st, decide_eq_true_eq, nI_add, ev_sub, pk_mul, nI_or, nI_xor, zBt, zBf, if_true, if_false, eq_self, Bool.false_eq_true, hs2], ?_⟩
      by_cases g : r 11 = 0
      · rw [if_pos g]
        simp (disch := (first | assumption | omega)) only [zf_X10_count, zf_X10_count_j149, zlp, ↓rd11 hM.1, ↓snt_ge, ↓ev_ifB, ↓ev_iflt, ↓ev_ifle, ↓ev_ifeq, ↓ifp, ↓ifn, ↓ev_b1, ↓ev_b2, ↓ev_put, ↓ev_z0, ↓ev_z1, ↓ev_zB, ↓ev_has9, ↓ev_has10, ↓ev_shl, ↓ev_bit, ↓ev_in, ↓ev_inG, ↓ev_rd, ↓ev_st, decide_eq_true_eq, nI_add, ev_sub, pk_mul, nI_or, nI_xor, zBt, zBf, if_true, if_false, eq_self, Bool.false_eq_true]
      · rw [if_neg g]
        simp (disch := (first | assumption | omega)) only [zf_X10_count, zf_X10_count_j149, zlp, ↓rd11 hM.1, ↓snt_ge, ↓ev_ifB, ↓ev_iflt, ↓ev_ifle, ↓ev_ifeq, ↓ifp, ↓ifn, ↓ev_b1, ↓ev_b2, ↓ev_put, ↓ev_z0, ↓ev_z1, ↓ev_zB, ↓ev_has9, ↓ev_has10, ↓ev_shl, ↓ev_bit, ↓ev_in, ↓ev_inG, ↓ev_rd, ↓ev_st, decide_eq_true_eq, nI_add, ev_sub, pk_mul, nI_or, nI_xor, zBt, zBf, if_true, if_false, eq_self, Bool.false_eq_true]
    · exact ⟨nI (r 10), by simp (disch := (first | assumption | omega)) only [zf_X9_count, zlp, ↓ev_ifB, ↓ev_iflt, ↓ev_ifle, ↓ev_ifeq, ↓ifp, ↓ifn, ↓ev_b1, ↓ev_b2, ↓ev_put, ↓ev_z0, ↓ev_z1, ↓ev_zB, ↓ev_has9, ↓ev_has10, ↓ev_shl, ↓ev_bit, ↓ev_in, ↓ev_inG, ↓ev_rd, ↓ev_st, decide_eq_true_eq, nI_add, ev_sub, pk_mul, nI_or, nI_xor, zBt, zBf, if_true, if_false, eq_self, Bool.false_eq_true, ↓hdy, a6], by simp (disch := (first | assumption | omega)) only [zf_X10_count, zlp, ↓rd78 hM.1, ↓ev_ifB, ↓ev_iflt, ↓ev_ifle, ↓ev_ifeq, ↓ifp, ↓ifn, ↓ev_b1, ↓ev_b2, ↓ev_put, ↓ev_z0, ↓ev_z1, ↓ev_zB, ↓ev_has9, ↓ev_has10, ↓ev_shl, ↓ev_bit, ↓ev_in, ↓ev_inG, ↓ev_rd, ↓ev_st, decide_eq_true_eq, nI_add, ev_sub, pk_mul, nI_or, nI_xor, zBt, zBf, if_true, if_false, eq_self, Bool.false_eq_true]⟩
    · exact ⟨nI (r 12), by simp (disch := (first | assumption | omega)) only [zf_X9_count, zlp, ↓ev_ifB, ↓ev_iflt, ↓ev_ifle, ↓ev_ifeq, ↓ifp, ↓ifn, ↓ev_b1, ↓ev_b2, ↓ev_put, ↓ev_z0, ↓ev_z1, ↓ev_zB, ↓ev_has9, ↓ev_has10, ↓ev_shl, ↓ev_bit, ↓ev_in, ↓ev_inG, ↓ev_rd, ↓ev_st, decide_eq_true_eq, nI_add, ev_sub, pk_mul, nI_or, nI_xor, zBt, zBf, if_true, if_false, eq_self, Bool.false_eq_true, ↓hdy, a8], by simp (disch := (first | assumption | omega)) only [zf_X10_count, zlp, ↓rd78 hM.1, ↓ev_ifB, ↓ev_iflt, ↓ev_ifle, ↓ev_ifeq, ↓ifp, ↓ifn, ↓ev_b1, ↓ev_b2, ↓ev_put, ↓ev_z0, ↓ev_z1, ↓ev_zB, ↓ev_has9, ↓ev_has10, ↓ev_shl, ↓ev_bit, ↓ev_in, ↓ev_inG, ↓ev_rd, ↓ev_st, decide_eq_true_eq, nI_add, ev_sub, pk_mul, nI_or, nI_xor, zBt, zBf, if_true, if_false, eq_self, Bool.false_eq_true]⟩
    · exact ⟨nI (r 13), by simp (disch := (first | assumption | omega)) only [zf_X9_count, zlp, ↓ev_ifB, ↓ev_iflt, ↓ev_ifle, ↓ev_ifeq, ↓ifp, ↓ifn, ↓ev_b1, ↓ev_b2, ↓ev_put, ↓ev_z0, ↓ev_z1, ↓ev_zB, ↓ev_has9, ↓ev_has10, ↓ev_shl, ↓ev_bit, ↓ev_in, ↓ev_inG, ↓ev_rd, ↓ev_st, decide_eq_true_eq, nI_add, ev_sub, pk_mul, nI_or, nI_xor, zBt, zBf, if_true, if_false, eq_self, Bool.false_eq_true, ↓hdy, a9], by simp (disch := (first | assumption | omega)) only [zf_X10_count, zlp, ↓rd78 hM.1, ↓ev_ifB, ↓ev_iflt, ↓ev_ifle, ↓ev_ifeq, ↓ifp, ↓ifn, ↓ev_b1, ↓ev_b2, ↓ev_put, ↓ev_z0, ↓ev_z1, ↓ev_zB, ↓ev_has9, ↓ev_has10, ↓ev_shl, ↓ev_bit, ↓ev_in, ↓ev_inG, ↓ev_rd, ↓ev_st, decide_eq_true_eq, nI_add, ev_sub, pk_mul, nI_or, nI_xor, zBt, zBf, if_true, if_false, eq_self, Bool.false_eq_true]⟩
    · exact ⟨nI (r 14), by simp (disch := (first | assumption | omega)) only [zf_X9_count, zlp, ↓ev_ifB, ↓ev_iflt, ↓ev_ifle, ↓ev_ifeq, ↓ifp, ↓ifn, ↓ev_b1, ↓ev_b2, ↓ev_put, ↓ev_z0, ↓ev_z1, ↓ev_zB, ↓ev_has9, ↓ev_has10, ↓ev_shl, ↓ev_bit, ↓ev_in, ↓ev_inG, ↓ev_rd, ↓ev_st, decide_eq_true_eq, nI_add, ev_sub, pk_mul, nI_or, nI_xor, zBt, zBf, if_true, if_false, eq_self, Bool.false_eq_true, ↓hdy, a10], by simp (disch := (first | assumption | omega)) only [zf_X10_count, zlp, ↓rd78 hM.1, ↓ev_ifB, ↓ev_iflt, ↓ev_ifle, ↓ev_ifeq, ↓ifp, ↓ifn, ↓ev_b1, ↓ev_b2, ↓ev_put, ↓ev_z0, ↓ev_z1, ↓ev_zB, ↓ev_has9, ↓ev_has10, ↓ev_shl, ↓ev_bit, ↓ev_in, ↓ev_inG, ↓ev_rd, ↓ev_st, decide_eq_true_eq, nI_add, ev_sub, pk_mul, nI_or, nI_xor, zBt, zBf, if_true, if_false, eq_self, Bool.false_eq_true]⟩
    · exact ⟨nI (zclaims r (2 ^ r 0 - 1)), by simp (disch := (first | assumption | omega)) only [zf_X9_count, zlp, ↓ev_ifB, ↓ev_iflt, ↓ev_ifle, ↓ev_ifeq, ↓ifp, ↓ifn, ↓ev_b1, ↓ev_b2, ↓ev_put, ↓ev_z0, ↓ev_z1, ↓ev_zB, ↓ev_has9, ↓ev_has10, ↓ev_shl, ↓ev_bit, ↓ev_in, ↓ev_inG, ↓ev_rd, ↓ev_st, decide_eq_true_eq, nI_add, ev_sub, pk_mul, nI_or, nI_xor, zBt, zBf, if_true, if_false, eq_self, Bool.false_eq_true, ↓zb1_at hev, ↓zb1_at hcl9], by simp (disch := (first | assumption | omega)) only [zf_X10_count, zlp, ↓ev_ifB, ↓ev_iflt, ↓ev_ifle, ↓ev_ifeq, ↓ifp, ↓ifn, ↓ev_b1, ↓ev_b2, ↓ev_put, ↓ev_z0, ↓ev_z1, ↓ev_zB, ↓ev_has9, ↓ev_has10, ↓ev_shl, ↓ev_bit, ↓ev_in, ↓ev_inG, ↓ev_rd, ↓ev_st, decide_eq_true_eq, nI_add, ev_sub, pk_mul, nI_or, nI_xor, zBt, zBf, if_true, if_false, eq_self, Bool.false_eq_true, ↓zb1_at hal, ↓zb1_at hcl10]⟩
    · exact ⟨nI u, by simp (disch := (first | assumption | omega)) only [zf_X9_count, zlp, ↓ev_ifB, ↓ev_iflt, ↓ev_ifle, ↓ev_ifeq, ↓ifp, ↓ifn, ↓ev_b1, ↓ev_b2, ↓ev_put, ↓ev_z0, ↓ev_z1, ↓ev_zB, ↓ev_has9, ↓ev_has10, ↓ev_shl, ↓ev_bit, ↓ev_in, ↓ev_inG, ↓ev_rd, ↓ev_st, decide_eq_true_eq, nI_add, ev_sub, pk_mul, nI_or, nI_xor, zBt, zBf, if_true, if_false, eq_self, Bool.false_eq_true, a15], by simp (disch := (first | assumption | omega)) only [zf_X10_count, zlp, h774, ↓ev_ifB, ↓ev_iflt, ↓ev_ifle, ↓ev_ifeq, ↓ifp, ↓ifn, ↓ev_b1, ↓ev_b2, ↓ev_put, ↓ev_z0, ↓ev_z1, ↓ev_zB, ↓ev_has9, ↓ev_has10, ↓ev_shl, ↓ev_bit, ↓ev_in, ↓ev_inG, ↓ev_rd, ↓ev_st, decide_eq_true_eq, nI_add, ev_sub, pk_mul, nI_or, nI_xor, zBt, zBf, if_true, if_false, eq_self, Bool.false_eq_true]⟩
    · exact ⟨nI T.1, by simp (disch := (first | assumption | omega)) only [zf_X9_count, zlp, ↓ev_ifB, ↓ev_iflt, ↓ev_ifle, ↓ev_ifeq, ↓ifp, ↓ifn, ↓ev_b1, ↓ev_b2, ↓ev_put, ↓ev_z0, ↓ev_z1, ↓ev_zB, ↓ev_has9, ↓ev_has10, ↓ev_shl, ↓ev_bit, ↓ev_in, ↓ev_inG, ↓ev_rd, ↓ev_st, decide_eq_true_eq, nI_add, ev_sub, pk_mul, nI_or, nI_xor, zBt, zBf, if_true, if_false, eq_self, Bool.false_eq_true, a16], by simp (disch := (first | assumption | omega)) only [zf_X10_count, zlp, h776, ↓ev_ifB, ↓ev_iflt, ↓ev_ifle, ↓ev_ifeq, ↓ifp, ↓ifn, ↓ev_b1, ↓ev_b2, ↓ev_put, ↓ev_z0, ↓ev_z1, ↓ev_zB, ↓ev_has9, ↓ev_has10, ↓ev_shl, ↓ev_bit, ↓ev_in, ↓ev_inG, ↓ev_rd, ↓ev_st, decide_eq_true_eq, nI_add, ev_sub, pk_mul, nI_or, nI_xor, zBt, zBf, if_true, if_false, eq_self, Bool.false_eq_true]⟩
    · exact ⟨nI L.1, by simp (disch := (first | assumption | omega)) only [zf_X9_count, zlp, ↓ev_ifB, ↓ev_iflt, ↓ev_ifle, ↓ev_ifeq, ↓ifp, ↓ifn, ↓ev_b1, ↓ev_b2, ↓ev_put, ↓ev_z0, ↓ev_z1, ↓ev_zB, ↓ev_has9, ↓ev_has10, ↓ev_shl, ↓ev_bit, ↓ev_in, ↓ev_inG, ↓ev_rd, ↓ev_st, decide_eq_true_eq, nI_add, ev_sub, pk_mul, nI_or, nI_xor, zBt, zBf, if_true, if_false, eq_self, Bool.false_eq_true, ↓hdy, a17], by simp (disch := (first | assumption | omega)) only [zf_X10_count, zlp, h7716, ↓ev_ifB, ↓ev_iflt, ↓ev_ifle, ↓ev_ifeq, ↓ifp, ↓ifn, ↓ev_b1, ↓ev_b2, ↓ev_put, ↓ev_z0, ↓ev_z1, ↓ev_zB, ↓ev_has9, ↓ev_has10, ↓ev_shl, ↓ev_bit, ↓ev_in, ↓ev_inG, ↓ev_rd, ↓ev_st, decide_eq_true_eq, nI_add, ev_sub, pk_mul, nI_or, nI_xor, zBt, zBf, if_true, if_false, eq_self, Bool.false_eq_true]⟩
    · exact ⟨-nI 1, by simp (disch := (first | assumption | omega)) only [zf_X9_count, zlp, ↓ev_ifB, ↓ev_iflt, ↓ev_ifle, ↓ev_ifeq, ↓ifp, ↓ifn, ↓ev_b1, ↓ev_b2, ↓ev_put, ↓ev_z0, ↓ev_z1, ↓ev_zB, ↓ev_has9, ↓ev_has10, ↓ev_shl, ↓ev_bit, ↓ev_in, ↓ev_inG, ↓ev_rd, ↓ev_st, decide_eq_true_eq, nI_add, ev_sub, pk_mul, nI_or, nI_xor, zBt, zBf, if_true, if_false, eq_self, Bool.false_eq_true], by simp (disch := (first | assumption | omega)) only [zf_X10_count, zlp, ↓ev_ifB, ↓ev_iflt, ↓ev_ifle, ↓ev_ifeq, ↓ifp, ↓ifn, ↓ev_b1, ↓ev_b2, ↓ev_put, ↓ev_z0, ↓ev_z1, ↓ev_zB, ↓ev_has9, ↓ev_has10, ↓ev_shl, ↓ev_bit, ↓ev_in, ↓ev_inG, ↓ev_rd, ↓ev_st, decide_eq_true_eq, nI_add, ev_sub, pk_mul, nI_or, nI_xor, zBt, zBf, if_true, if_false, eq_self, Bool.false_eq_true]⟩
