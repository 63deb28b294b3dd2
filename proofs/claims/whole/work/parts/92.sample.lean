/-! LAYER 2: samples -/
theorem zush (x : Int32) : ∃ j, j < 65536 ∧ (x.toUInt32 >>> ((nI 16).toUInt32 &&& Int32.toUInt32 31)).toInt32 = nI j := by
  have h := pk_ushr x 16 16 (by decide)
  refine ⟨x.toBitVec.toNat / 2 ^ 16, ?_, ?_⟩
  · have := x.toBitVec.isLt
    omega
  · apply Int32.toBitVec_inj.mp
    apply BitVec.eq_of_toNat_eq
    have h2 : (nI (x.toBitVec.toNat / 2 ^ 16)).toBitVec.toNat = x.toBitVec.toNat / 2 ^ 16 := pk_tn (by have := x.toBitVec.isLt; omega)
    rw [h2]
    exact h
/-- how many of d from i on are not drawn -/
def zun (s : Nat) : Nat → Nat → Nat
  | 0, _ => 0
  | d + 1, i => (if s.testBit i then 0 else 1) + zun s d (i + 1)
def zpick (s : Nat) : Nat → Nat → Nat → Option Nat
  | 0, _, _ => none
  | d + 1, i, p => if s.testBit i then zpick s d (i + 1) p else if p = 0 then some i else zpick s d (i + 1) (p - 1)
theorem zun_s (s d i : Nat) : zun s (d + 1) i = (if s.testBit i then 0 else 1) + zun s d (i + 1) := rfl
theorem zpick_s (s d i p : Nat) : zpick s (d + 1) i p = if s.testBit i then zpick s d (i + 1) p else if p = 0 then some i else zpick s d (i + 1) (p - 1) := rfl
theorem zpick_ok {s : Nat} : ∀ {d i p : Nat}, p < zun s d i → ∃ x, zpick s d i p = some x ∧ i ≤ x ∧ x < i + d ∧ s.testBit x = false
  | 0, i, p, h => absurd h (Nat.not_lt_zero _)
  | d + 1, i, p, h => by
    rw [zun_s] at h
    rw [zpick_s]
    by_cases g : s.testBit i = true
    · rw [if_pos g] at h ⊢
      obtain ⟨x, a, b, c, e⟩ := zpick_ok (s := s) (d := d) (i := i + 1) (p := p) (by omega)
      exact ⟨x, a, by omega, by omega, e⟩
    · rw [if_neg g] at h ⊢
      by_cases gp : p = 0
      · rw [if_pos gp]
        exact ⟨i, rfl, by omega, by omega, by simpa using g⟩
      · rw [if_neg gp]
        obtain ⟨x, a, b, c, e⟩ := zpick_ok (s := s) (d := d) (i := i + 1) (p := p - 1) (by omega)
        exact ⟨x, a, by omega, by omega, e⟩
theorem zun_or {s x : Nat} : ∀ {d i : Nat}, x < i ∨ i + d ≤ x → zun (s ||| 2 ^ x) d i = zun s d i
  | 0, i, _ => rfl
  | d + 1, i, h => by
    rw [zun_s, zun_s, zun_or (by omega), Nat.testBit_or, Nat.testBit_two_pow, decide_eq_false (by omega), Bool.or_false]
theorem zun_put {s x : Nat} (hx : s.testBit x = false) : ∀ {d i : Nat}, i ≤ x → x < i + d → zun (s ||| 2 ^ x) d i + 1 = zun s d i
  | 0, i, h1, h2 => by omega
  | d + 1, i, h1, h2 => by
    rw [zun_s, zun_s, Nat.testBit_or, Nat.testBit_two_pow]
    by_cases e : x = i
    · subst e
      rw [zun_or (by omega), hx, decide_eq_true rfl]
      simp
      omega
    · have ih := zun_put hx (d := d) (i := i + 1) (by omega) (by omega)
      rw [decide_eq_false e, Bool.or_false]
      omega
theorem zun_0 : ∀ d i, zun 0 d i = d
  | 0, _ => rfl
  | d + 1, i => by
    rw [zun_s, Nat.zero_testBit, if_neg (by decide), zun_0 d (i + 1)]
    omega
/-- x times and more -/
def zlcg (x : Int32) : Int32 := x * nI 1103515245 + nI 12345
def zlp16 (x : Int32) : Nat := ((x.toUInt32 >>> ((nI 16).toUInt32 &&& Int32.toUInt32 31)).toInt32).toNatClampNeg
theorem zlp16_eq (x : Int32) : (x.toUInt32 >>> ((nI 16).toUInt32 &&& Int32.toUInt32 31)).toInt32 = nI (zlp16 x) ∧ zlp16 x < 65536 := by
  obtain ⟨j, h1, h2⟩ := zush x
  unfold zlp16
  rw [h2, nI_clamp (by omega)]
  exact ⟨rfl, h1⟩
/-- the sample from what is drawn on -/
def zsm (m : Nat) : Nat → Int32 → Nat → Nat → Nat
  | 0, _, s, _ => s
  | d + 1, x, s, k => zsm m d (zlcg x) (s ||| 2 ^ ((zpick s m 0 (zlp16 (zlcg x) % (m - k))).getD 0)) (k + 1)
theorem zsm_s (m d : Nat) (x : Int32) (s k : Nat) : zsm m (d + 1) x s k = zsm m d (zlcg x) (s ||| 2 ^ ((zpick s m 0 (zlp16 (zlcg x) % (m - k))).getD 0)) (k + 1) := rfl
theorem undrawn9 {M : ZMem} {t nx u n : Nat} {r : ZRow} {U : Nat → ZRow} {T : ZT} {L : ZL} (h : IC M t nx r u U T L) (hw : WF r) {s p x : Nat} (hs : s < 1024) (hp : p < 2147483000) (hx : zpick s (r 0) 0 p = some x) (hn : 20 < n) : zf_X9_undrawnMember n (nI s) (nI p) M = some (nI x) := by
  have hb := hw.b
  obtain ⟨a0, -⟩ := h.rd
  have hdy := fun (K : Nat → Option Int32) => h.1.dy (K := K)
  have key : ∀ d i a m, i + d = r 0 → d < m → a ≤ p → a ≤ i → zpick s d i (p - a) = some x → zf_X9_undrawnMember_L5 M (nI s) (nI p) (some (nI 0)) m (nI a) (nI i) = some (nI x) := by
    intro d
    induction d with
    | zero => intro i a m hi hm ha ha2 h2; cases h2
    | succ d ih =>
      intro i a m hi hm ha ha2 h2
      obtain ⟨m, rfl⟩ : ∃ y, m = y + 1 := ⟨m - 1, by omega⟩
      rw [zpick_s] at h2
      by_cases g : s.testBit i = true
      · rw [if_pos g] at h2
        rw [← ih (i + 1) a m (by omega) (by omega) ha (by omega) h2]
        simp (disch := (first | assumption | omega)) only [zf_X9_undrawnMember_L5, zf_X9_undrawnMember_j37, zlp, ↓hdy, a0, ↓ev_ifB, ↓ev_iflt, ↓ev_ifle, ↓ev_ifeq, ↓ifp, ↓ifn, ↓ev_b1, ↓ev_b2, ↓ev_put, ↓ev_z0, ↓ev_z1, ↓ev_zB, ↓ev_has9, ↓ev_has10, ↓ev_shl, ↓ev_bit, ↓ev_in, ↓ev_inG, ↓ev_rd, ↓ev_st, decide_eq_true_eq, nI_add, ev_sub, pk_mul, nI_or, nI_xor, zBt, zBf, if_true, if_false, eq_self, Bool.false_eq_true]
      · rw [if_neg g] at h2
        by_cases ga : a = p
        · rw [if_pos (by omega)] at h2
          cases h2
          simp (disch := (first | assumption | omega)) only [zf_X9_undrawnMember_L5, zf_X9_undrawnMember_j37, zlp, ↓hdy, a0, ↓ev_ifB, ↓ev_iflt, ↓ev_ifle, ↓ev_ifeq, ↓ifp, ↓ifn, ↓ev_b1, ↓ev_b2, ↓ev_put, ↓ev_z0, ↓ev_z1, ↓ev_zB, ↓ev_has9, ↓ev_has10, ↓ev_shl, ↓ev_bit, ↓ev_in, ↓ev_inG, ↓ev_rd, ↓ev_st, decide_eq_true_eq, nI_add, ev_sub, pk_mul, nI_or, nI_xor, zBt, zBf, if_true, if_false, eq_self, Bool.false_eq_true]
        · rw [if_neg (by omega), show p - a - 1 = p - (a + 1) by omega] at h2
          rw [← ih (i + 1) (a + 1) m (by omega) (by omega) (by omega) (by omega) h2]
          simp (disch := (first | assumption | omega)) only [zf_X9_undrawnMember_L5, zf_X9_undrawnMember_j37, zlp, ↓hdy, a0, ↓ev_ifB, ↓ev_iflt, ↓ev_ifle, ↓ev_ifeq, ↓ifp, ↓ifn, ↓ev_b1, ↓ev_b2, ↓ev_put, ↓ev_z0, ↓ev_z1, ↓ev_zB, ↓ev_has9, ↓ev_has10, ↓ev_shl, ↓ev_bit, ↓ev_in, ↓ev_inG, ↓ev_rd, ↓ev_st, decide_eq_true_eq, nI_add, ev_sub, pk_mul, nI_or, nI_xor, zBt, zBf, if_true, if_false, eq_self, Bool.false_eq_true]
  exact key (r 0) 0 0 n (by omega) (by omega) (Nat.zero_le _) (Nat.zero_le _) hx
theorem undrawn10 {M : ZMem} {r : ZRow} {n : Nat} (hI : IR M r) (hw : WF r) {s p x : Nat} (hs : s < 1024) (hp : p < 2147483000) (hx : zpick s (r 0) 0 p = some x) (hn : 20 < n) (K : Option Int32) (K2 : Int32 → Option Int32) : zf_X10_sample_L59 M (nI s) K K2 n (nI p) (nI 0) = K2 (nI x) := by
  have hb := hw.b
  have key : ∀ d i q m, i + d = r 0 → d < m → q ≤ p → zpick s d i q = some x → zf_X10_sample_L59 M (nI s) K K2 m (nI q) (nI i) = K2 (nI x) := by
    intro d
    induction d with
    | zero => intro i q m hi hm hq h2; cases h2
    | succ d ih =>
      intro i q m hi hm hq h2
      obtain ⟨m, rfl⟩ : ∃ y, m = y + 1 := ⟨m - 1, by omega⟩
      rw [zpick_s] at h2
      by_cases g : s.testBit i = true
      · rw [if_pos g] at h2
        rw [← ih (i + 1) q m (by omega) (by omega) hq h2]
        simp (disch := (first | assumption | omega)) only [zf_X10_sample_L59, zf_X10_sample_j100, zlp, ↓rd78 hI, ↓ev_ifB, ↓ev_iflt, ↓ev_ifle, ↓ev_ifeq, ↓ifp, ↓ifn, ↓ev_b1, ↓ev_b2, ↓ev_put, ↓ev_z0, ↓ev_z1, ↓ev_zB, ↓ev_has9, ↓ev_has10, ↓ev_shl, ↓ev_bit, ↓ev_in, ↓ev_inG, ↓ev_rd, ↓ev_st, decide_eq_true_eq, nI_add, ev_sub, pk_mul, nI_or, nI_xor, zBt, zBf, if_true, if_false, eq_self, Bool.false_eq_true]
      · rw [if_neg g] at h2
        by_cases gq : q = 0
        · rw [if_pos gq] at h2
          cases h2
          simp (disch := (first | assumption | omega)) only [zf_X10_sample_L59, zf_X10_sample_j100, zlp, ↓rd78 hI, ↓ev_ifB, ↓ev_iflt, ↓ev_ifle, ↓ev_ifeq, ↓ifp, ↓ifn, ↓ev_b1, ↓ev_b2, ↓ev_put, ↓ev_z0, ↓ev_z1, ↓ev_zB, ↓ev_has9, ↓ev_has10, ↓ev_shl, ↓ev_bit, ↓ev_in, ↓ev_inG, ↓ev_rd, ↓ev_st, decide_eq_true_eq, nI_add, ev_sub, pk_mul, nI_or, nI_xor, zBt, zBf, if_true, if_false, eq_self, Bool.false_eq_true]
        · rw [if_neg gq] at h2
          obtain ⟨q, rfl⟩ : ∃ y, q = y + 1 := ⟨q - 1, by omega⟩
          have em : nI (q + 1) + -nI 1 = nI q := pk_m1 q
          rw [show q + 1 - 1 = q by omega] at h2
          rw [← ih (i + 1) q m (by omega) (by omega) (by omega) h2]
          simp (disch := (first | assumption | omega)) only [zf_X10_sample_L59, zf_X10_sample_j100, zlp, ↓rd78 hI, ↓ev_ifB, ↓ev_iflt, ↓ev_ifle, ↓ev_ifeq, ↓ifp, ↓ifn, ↓ev_b1, ↓ev_b2, ↓ev_put, ↓ev_z0, ↓ev_z1, ↓ev_zB, ↓ev_has9, ↓ev_has10, ↓ev_shl, ↓ev_bit, ↓ev_in, ↓ev_inG, ↓ev_rd, ↓ev_st, decide_eq_true_eq, nI_add, ev_sub, pk_mul, nI_or, nI_xor, zBt, zBf, if_true, if_false, eq_self, Bool.false_eq_true, em]
  exact key (r 0) 0 p n (by omega) (by omega) (Nat.le_refl _) hx
theorem ev_rem {β : Type} {a b : Nat} (K : Int32 → Option β) (ha : a < 2147483648) (h0 : 0 < b) (hb : b < 2147483648) : zrem (nI a) (nI b) K = K (nI (a % b)) := by
  rw [zrem_at (fun z => ?_), pk_rem ha h0 hb]
  exact nI_ne0 h0 hb z
theorem op_sample {n : Nat} (hn : 803 < n) {M : ZMem} (hI : INV M) (a b : Int32) : OPQ (zf_X9_sample n a b) (zf_X10_sample n a b) M := by
  obtain ⟨t, nx, r, u, U, T, L, hS, hC, hM⟩ := id hI
  have hw := hS.1.1
  have hb := hw.b
  obtain ⟨a0, -⟩ := hC.rd
  have hdy := fun (K : Nat → Option Int32) => hC.1.dy (K := K)
  rcases zint b with hb' | ⟨w, hw', rfl⟩
  · refine ⟨-nI 1, ?_, ?_⟩
    · simp (disch := (first | assumption | omega)) only [zf_X9_sample, zf_X9_sample_j15, zlp, ↓in1]
    · simp (disch := (first | assumption | omega)) only [zf_X10_sample, zlp, ↓rd78 hM.1, ↓ev_ifB, ↓ev_iflt, ↓ev_ifle, ↓ev_ifeq, ↓ifp, ↓ifn, ↓ev_b1, ↓ev_b2, ↓ev_put, ↓ev_z0, ↓ev_z1, ↓ev_zB, ↓ev_has9, ↓ev_has10, ↓ev_shl, ↓ev_bit, ↓ev_in, ↓ev_inG, ↓ev_rd, ↓ev_st, decide_eq_true_eq, nI_add, ev_sub, pk_mul, nI_or, nI_xor, zBt, zBf, if_true, if_false, eq_self, Bool.false_eq_true]
  · by_cases g : w ≤ r 0
    · have step : ∀ (x : Int32) (s k : Nat), k < r 0 → s < 2 ^ r 0 → zun s (r 0) 0 = r 0 - k → ∃ i, zpick s (r 0) 0 (zlp16 (zlcg x) % (r 0 - k)) = some i ∧ i < r 0 ∧ s ||| 2 ^ i < 2 ^ r 0 ∧ zun (s ||| 2 ^ i) (r 0) 0 = r 0 - (k + 1) := fun x s k hk hs hu => by
        have hlt : zlp16 (zlcg x) % (r 0 - k) < r 0 - k := Nat.mod_lt _ (by omega)
        obtain ⟨i, e1, e2, e3, e4⟩ := zpick_ok (s := s) (d := r 0) (i := 0) (p := zlp16 (zlcg x) % (r 0 - k)) (by omega)
        refine ⟨i, e1, by omega, Nat.or_lt_two_pow hs (zpow_lt (by omega)), ?_⟩
        have := zun_put e4 (d := r 0) (i := 0) (by omega) e3
        omega
      have h9 : ∀ d k x s m, k + d = w → d < m → s < 2 ^ r 0 → zun s (r 0) 0 = r 0 - k → zf_X9_sample_L25 (nI w) M n (fun v34 => some v34) m x (nI s) (nI k) = some (nI (zsm (r 0) d x s k)) := by
        intro d
        induction d with
        | zero =>
          intro k x s m hk hm hs hu
          obtain ⟨m, rfl⟩ : ∃ y, m = y + 1 := ⟨m - 1, by omega⟩
          simp (disch := (first | assumption | omega)) only [zf_X9_sample_L25, zlp, ↓ev_ifB, ↓ev_iflt, ↓ev_ifle, ↓ev_ifeq, ↓ifp, ↓ifn, ↓ev_b1, ↓ev_b2, ↓ev_put, ↓ev_z0, ↓ev_z1, ↓ev_zB, ↓ev_has9, ↓ev_has10, ↓ev_shl, ↓ev_bit, ↓ev_in, ↓ev_inG, ↓ev_rd, ↓ev_st, decide_eq_true_eq, nI_add, ev_sub, pk_mul, nI_or, nI_xor, zBt, zBf, if_true, if_false, eq_self, Bool.false_eq_true, zsm]
        | succ d ih =>
          intro k x s m hk hm hs hu
          obtain ⟨m, rfl⟩ : ∃ y, m = y + 1 := ⟨m - 1, by omega⟩
          obtain ⟨i, e1, e2, e3, e4⟩ := step x s k (by omega) hs hu
          obtain ⟨q1, q2⟩ := zlp16_eq (zlcg x)
          have hml : zlp16 (zlcg x) % (r 0 - k) < r 0 - k := Nat.mod_lt _ (by omega)
          have hud := undrawn9 (n := n) hC hw (s := s) (p := zlp16 (zlcg x) % (r 0 - k)) (x := i) (by omega) (by omega) e1 (by omega)
          rw [zsm_s, e1]
          show _ = some (nI (zsm (r 0) d (zlcg x) (s ||| 2 ^ i) (k + 1)))
          rw [← ih (k + 1) (zlcg x) (s ||| 2 ^ i) m (by omega) (by omega) e3 e4]
          have q1' : ((x * nI 1103515245 + nI 12345).toUInt32 >>> ((nI 16).toUInt32 &&& Int32.toUInt32 31)).toInt32 = nI (zlp16 (zlcg x)) := q1
          have hx' : x * nI 1103515245 + nI 12345 = zlcg x := rfl
          rw [zf_X9_sample_L25, zi_le (by omega) (by omega), if_neg (by omega), hC.1.dy, a0, pk_sub (by omega), show (0 : Int32) = nI 0 from rfl, zi_le (by omega) (by omega), if_neg (by omega)]
          have e5 : zrem (((x * (1103515245 : Int32) + (12345 : Int32)).toUInt32 >>> ((16 : Int32).toUInt32 &&& Int32.toUInt32 31)).toInt32) (nI (r 0 - k)) (fun v32 => zb1 (zf_X9_undrawnMember n (nI s) v32 M) (fun v33 => (zf_X9_sample_j78 (fun x0 x1 x2 => zf_X9_sample_L25 (nI w) M n (fun v34 => some v34) m x0 x1 x2) x (nI k) ((nI s) ||| ((1 : Int32) <<< (v33 &&& 31)))))) = zrem (nI (zlp16 (zlcg x))) (nI (r 0 - k)) (fun v32 => zb1 (zf_X9_undrawnMember n (nI s) v32 M) (fun v33 => (zf_X9_sample_j78 (fun x0 x1 x2 => zf_X9_sample_L25 (nI w) M n (fun v34 => some v34) m x0 x1 x2) x (nI k) ((nI s) ||| ((1 : Int32) <<< (v33 &&& 31)))))) := by rw [← q1']; rfl
          refine e5.trans ?_
          rw [ev_rem _ (by omega) (by omega) (by omega), zb1_at hud, zpow i (by omega), nI_or]
          unfold zf_X9_sample_j78
          rw [nI_1]
          rfl
      have h10 : ∀ d k x s m, k + d = w → d < m → s < 2 ^ r 0 → zun s (r 0) 0 = r 0 - k → zf_X10_sample_L24 (nI w) M n (fun v43 => some v43) m x (nI s) (nI k) = some (nI (zsm (r 0) d x s k)) := by
        intro d
        induction d with
        | zero =>
          intro k x s m hk hm hs hu
          obtain ⟨m, rfl⟩ : ∃ y, m = y + 1 := ⟨m - 1, by omega⟩
          simp (disch := (first | assumption | omega)) only [zf_X10_sample_L24, zlp, ↓ev_ifB, ↓ev_iflt, ↓ev_ifle, ↓ev_ifeq, ↓ifp, ↓ifn, ↓ev_b1, ↓ev_b2, ↓ev_put, ↓ev_z0, ↓ev_z1, ↓ev_zB, ↓ev_has9, ↓ev_has10, ↓ev_shl, ↓ev_bit, ↓ev_in, ↓ev_inG, ↓ev_rd, ↓ev_st, decide_eq_true_eq, nI_add, ev_sub, pk_mul, nI_or, nI_xor, zBt, zBf, if_true, if_false, eq_self, Bool.false_eq_true, zsm]
        | succ d ih =>
          intro k x s m hk hm hs hu
          obtain ⟨m, rfl⟩ : ∃ y, m = y + 1 := ⟨m - 1, by omega⟩
          obtain ⟨i, e1, e2, e3, e4⟩ := step x s k (by omega) hs hu
          obtain ⟨q1, q2⟩ := zlp16_eq (zlcg x)
          have hml : zlp16 (zlcg x) % (r 0 - k) < r 0 - k := Nat.mod_lt _ (by omega)
          have hud := fun K K2 => undrawn10 (n := n) hM.1 hw (s := s) (p := zlp16 (zlcg x) % (r 0 - k)) (x := i) (by omega) (by omega) e1 (by omega) K K2
          rw [zsm_s, e1]
          show _ = some (nI (zsm (r 0) d (zlcg x) (s ||| 2 ^ i) (k + 1)))
          rw [← ih (k + 1) (zlcg x) (s ||| 2 ^ i) m (by omega) (by omega) e3 e4]
          have q1' : ((x * (1103515245 : Int32) + (12345 : Int32)).toUInt32 >>> ((16 : Int32).toUInt32 &&& Int32.toUInt32 31)).toInt32 = nI (zlp16 (zlcg x)) := q1
          rw [zf_X10_sample_L24, zi_le (by omega) (by omega), if_neg (by omega), hM.1.z0, pk_sub (by omega), q1', ev_rem _ (by omega) (by omega) (by omega)]
          refine (hud _ _).trans ?_
          unfold zf_X10_sample_j106
          show zf_X10_sample_L24 (nI w) M n (fun v43 => some v43) m (zlcg x) (nI s ||| (1 : Int32) <<< (nI i &&& 31)) (nI k + 1) = _
          rw [zpow i (by omega), nI_or, nI_1]
      have hz0 := zun_0 (r 0) 0
      refine ⟨nI (zsm (r 0) w a 0 0), ?_, ?_⟩
      · have e := h9 w 0 a 0 n (by omega) (by omega) (by omega) (by omega)
        simp (disch := (first | assumption | omega)) only [zf_X9_sample, zf_X9_sample_j15, zlp, ↓ev_ifB, ↓ev_iflt, ↓ev_ifle, ↓ev_ifeq, ↓ifp, ↓ifn, ↓ev_b1, ↓ev_b2, ↓ev_put, ↓ev_z0, ↓ev_z1, ↓ev_zB, ↓ev_has9, ↓ev_has10, ↓ev_shl, ↓ev_bit, ↓ev_in, ↓ev_inG, ↓ev_rd, ↓ev_st, decide_eq_true_eq, nI_add, ev_sub, pk_mul, nI_or, nI_xor, zBt, zBf, if_true, if_false, eq_self, Bool.false_eq_true, ↓hdy, a0, e]
      · have e := h10 w 0 a 0 n (by omega) (by omega) (by omega) (by omega)
        simp (disch := (first | assumption | omega)) only [zf_X10_sample, zlp, ↓rd78 hM.1, ↓ev_ifB, ↓ev_iflt, ↓ev_ifle, ↓ev_ifeq, ↓ifp, ↓ifn, ↓ev_b1, ↓ev_b2, ↓ev_put, ↓ev_z0, ↓ev_z1, ↓ev_zB, ↓ev_has9, ↓ev_has10, ↓ev_shl, ↓ev_bit, ↓ev_in, ↓ev_inG, ↓ev_rd, ↓ev_st, decide_eq_true_eq, nI_add, ev_sub, pk_mul, nI_or, nI_xor, zBt, zBf, if_true, if_false, eq_self, Bool.false_eq_true, e]
    · refine ⟨-nI 1, ?_, ?_⟩
      · simp (disch := (first | assumption | omega)) only [zf_X9_sample, zf_X9_sample_j15, zlp, ↓ev_ifB, ↓ev_iflt, ↓ev_ifle, ↓ev_ifeq, ↓ifp, ↓ifn, ↓ev_b1, ↓ev_b2, ↓ev_put, ↓ev_z0, ↓ev_z1, ↓ev_zB, ↓ev_has9, ↓ev_has10, ↓ev_shl, ↓ev_bit, ↓ev_in, ↓ev_inG, ↓ev_rd, ↓ev_st, decide_eq_true_eq, nI_add, ev_sub, pk_mul, nI_or, nI_xor, zBt, zBf, if_true, if_false, eq_self, Bool.false_eq_true, ↓hdy, a0]
      · simp (disch := (first | assumption | omega)) only [zf_X10_sample, zlp, ↓rd78 hM.1, ↓ev_ifB, ↓ev_iflt, ↓ev_ifle, ↓ev_ifeq, ↓ifp, ↓ifn, ↓ev_b1, ↓ev_b2, ↓ev_put, ↓ev_z0, ↓ev_z1, ↓ev_zB, ↓ev_has9, ↓ev_has10, ↓ev_shl, ↓ev_bit, ↓ev_in, ↓ev_inG, ↓ev_rd, ↓ev_st, decide_eq_true_eq, nI_add, ev_sub, pk_mul, nI_or, nI_xor, zBt, zBf, if_true, if_false, eq_self, Bool.false_eq_true]
