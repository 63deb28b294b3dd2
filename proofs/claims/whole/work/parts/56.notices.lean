/-! LAYER 2: NOTICES -/
def zcostP (r : ZRow) (o i : Nat) : Nat → Nat → Nat
  | 0, _ => 0
  | k + 1, p => r (55 + zch (r 1) o p) + (if (r (45 + i)).testBit (zch (r 1) o p) then 0 else zcostP r o i k (p + 1))
def zcostTo (r : ZRow) (o i : Nat) : Nat := zcostP r o i (r 1) 0
def zcosts (r : ZRow) (o : Nat) : Nat := zsum (fun i => zcostTo r o i) (r 0)
/-- behind how many days from place p on; none: never -/
def zdaysP (r : ZRow) (o i : Nat) : Nat → Nat → Option Nat
  | 0, _ => none
  | k + 1, p => if (r (45 + i)).testBit (zch (r 1) o p) then some (r (59 + zch (r 1) o p)) else (zdaysP r o i k (p + 1)).map (r (59 + zch (r 1) o p) + ·)
def zdaysTo (r : ZRow) (o i : Nat) : Option Nat := zdaysP r o i (r 1) 0
/-- an answer of days as an int, s days behind -/
def zdI (s : Nat) (d : Option Nat) : Int32 := match d with
  | none => -2
  | some d => nI (s + d)
theorem zord_ch : ∀ c, c < 5 → ∀ o, o < 256 → zord c o = true → ∀ p, p < c → zch c o p < c := by decide +kernel
theorem zreach_lt {r : ZRow} (h : WF r) {i : Nat} (hi : i < r 0) : r (45 + i) < 1024 := by
  have h1 := h.2.1
  have h2 := (h.2.2.2.2.2.2.2.2.2.2.2.2.2.2.2.1 i hi).2.2.2.2
  have h3 : (2 : Nat) ^ r 1 ≤ 2 ^ 4 := Nat.pow_le_pow_right (by decide) h1
  omega
theorem chan1 {M : ZMem} {t c o p : Nat} (hM : M t 1 = nI c) (hc : c < 5) (ho : o < 256) (hp : p < c) : zf_X1_channelAt t (nI o) (nI p) M = some (nI (zch c o p)) := by
  unfold zf_X1_channelAt
  rw [hM, zchv c hc p hp o ho]
theorem chan10 {M : ZMem} {c o p : Nat} (hM : M 78 1 = nI c) (hc : c < 5) (ho : o < 256) (hp : p < c) : zf_X10_channelAt (nI o) (nI p) M = some (nI (zch c o p)) := by
  unfold zf_X10_channelAt
  rw [zrd_at (i := (1 : Int32)) 1 rfl (by omega), hM, zchv c hc p hp o ho]
theorem costTo1 {M : ZMem} {t o i n : Nat} {r : ZRow} (hT : TD M t r) (h : WF r) (ho : o < 256) (hz : zord (r 1) o = true) (hi : i < r 0) (hn : 4 < n) : zf_X1_costTo n t (nI o) (nI i) M = some (nI (zcostTo r o i)) := by
  have hm := h.1
  have hc := h.2.1
  have hr := zreach_lt h hi
  obtain ⟨t1, t2, t3, t4, t5, t6, t7⟩ := hT
  have key : ∀ (k p s n : Nat), p + k = r 1 → k < n → zf_X1_costTo_L5 M t (nI o) (nI i) (fun v => some v) n (nI s) (nI p) = some (nI (s + zcostP r o i k p)) := by
    intro k
    induction k with
    | zero =>
      intro p s n hp hn
      obtain ⟨n, rfl⟩ : ∃ m, n = m + 1 := ⟨n - 1, by omega⟩
      rw [zf_X1_costTo_L5, t2, zi_le (by omega) (by omega), if_pos (by omega)]
      rfl
    | succ k ih =>
      intro p s n hp hn
      obtain ⟨n, rfl⟩ : ∃ m, n = m + 1 := ⟨n - 1, by omega⟩
      have hch := zord_ch (r 1) (by omega) o ho hz p (by omega)
      rw [zf_X1_costTo_L5, t2, zi_le (by omega) (by omega), if_neg (by omega), zb1_at (chan1 t2 (by omega) ho (by omega)), zrd_at (i := nI (zch (r 1) o p)) _ rfl (by omega), zrd_at (i := nI i) i rfl (by omega), (t6 i hi).2.2.2, (t7 _ hch).1, zb1_at (zf_has9 hr (by omega)), zz_bit]
      unfold zcostP
      by_cases hb : (r (45 + i)).testBit (zch (r 1) o p) = true
      · rw [if_pos hb, if_pos hb, nI_add]
        rfl
      · rw [if_neg hb, if_neg hb, nI_add, nI_1, ih (p + 1) _ n (by omega) (by omega), Nat.add_assoc]
  unfold zf_X1_costTo
  have := key (r 1) 0 0 n (by omega) (by omega)
  rw [Nat.zero_add] at this
  exact this
theorem daysTo1 {M : ZMem} {t o i n : Nat} {r : ZRow} (hT : TD M t r) (h : WF r) (ho : o < 256) (hz : zord (r 1) o = true) (hi : i < r 0) (hn : 4 < n) : zf_X1_daysTo n t (nI o) (nI i) M = some (zdI 0 (zdaysTo r o i)) := by
  have hm := h.1
  have hc := h.2.1
  have hr := zreach_lt h hi
  obtain ⟨t1, t2, t3, t4, t5, t6, t7⟩ := hT
  have key : ∀ (k p s n : Nat), p + k = r 1 → k < n → zf_X1_daysTo_L5 M t (nI o) (nI i) (some (-2)) n (nI s) (nI p) = some (zdI s (zdaysP r o i k p)) := by
    intro k
    induction k with
    | zero =>
      intro p s n hp hn
      obtain ⟨n, rfl⟩ : ∃ m, n = m + 1 := ⟨n - 1, by omega⟩
      rw [zf_X1_daysTo_L5, t2, zi_le (by omega) (by omega), if_pos (by omega)]
      rfl
    | succ k ih =>
      intro p s n hp hn
      obtain ⟨n, rfl⟩ : ∃ m, n = m + 1 := ⟨n - 1, by omega⟩
      have hch := zord_ch (r 1) (by omega) o ho hz p (by omega)
      rw [zf_X1_daysTo_L5, t2, zi_le (by omega) (by omega), if_neg (by omega), zb1_at (chan1 t2 (by omega) ho (by omega)), zrd_at (i := nI (zch (r 1) o p)) _ rfl (by omega), zrd_at (i := nI i) i rfl (by omega), (t6 i hi).2.2.2, (t7 _ hch).2, zb1_at (zf_has9 hr (by omega)), zz_bit]
      unfold zdaysP
      by_cases hb : (r (45 + i)).testBit (zch (r 1) o p) = true
      · rw [if_pos hb, if_pos hb, nI_add]
        rfl
      · rw [if_neg hb, if_neg hb, nI_add, nI_1, ih (p + 1) _ n (by omega) (by omega)]
        cases zdaysP r o i k (p + 1) with
        | none => rfl
        | some d => show some (nI _) = some (nI _); rw [Nat.add_assoc]
  exact key (r 1) 0 0 n (by omega) (by omega)
theorem waitFor10 {M : ZMem} {o i n : Nat} {r : ZRow} (hM : IR M r) (h : WF r) (ho : o < 256) (hz : zord (r 1) o = true) (hi : i < r 0) (hn : 4 < n) : zf_X10_waitFor n (nI o) (nI i) M = some (zdI 0 (zdaysTo r o i)) := by
  have hm := h.1
  have hc := h.2.1
  have hr := zreach_lt h hi
  have t2 : M 78 1 = nI (r 1) := hM 1 (by omega)
  have key : ∀ (k p s n : Nat), p + k = r 1 → k < n → zf_X10_waitFor_L5 M (nI o) (nI i) (some (-2)) n (nI s) (nI p) = some (zdI s (zdaysP r o i k p)) := by
    intro k
    induction k with
    | zero =>
      intro p s n hp hn
      obtain ⟨n, rfl⟩ : ∃ m, n = m + 1 := ⟨n - 1, by omega⟩
      rw [zf_X10_waitFor_L5, zrd_at (i := (1 : Int32)) 1 rfl (by omega), t2, zi_le (by omega) (by omega), if_pos (by omega)]
      rfl
    | succ k ih =>
      intro p s n hp hn
      obtain ⟨n, rfl⟩ : ∃ m, n = m + 1 := ⟨n - 1, by omega⟩
      have hch := zord_ch (r 1) (by omega) o ho hz p (by omega)
      rw [zf_X10_waitFor_L5, zrd_at (i := (1 : Int32)) 1 rfl (by omega), t2, zi_le (by omega) (by omega), if_neg (by omega), zb1_at (chan10 t2 (by omega) ho (by omega)), zrd_at (i := (59 : Int32) + nI (zch (r 1) o p)) (59 + zch (r 1) o p) (nI_add 59 _) (by omega), zrd_at (i := (45 : Int32) + nI i) (45 + i) (nI_add 45 i) (by omega), hM _ (by omega), hM _ (by omega), rI_ne (by omega), rI_ne (by omega), zb1_at (zf_has10 hr (by omega)), zz_bit]
      unfold zdaysP
      by_cases hb : (r (45 + i)).testBit (zch (r 1) o p) = true
      · rw [if_pos hb, if_pos hb, nI_add]
        rfl
      · rw [if_neg hb, if_neg hb, nI_add, nI_1, ih (p + 1) _ n (by omega) (by omega)]
        cases zdaysP r o i k (p + 1) with
        | none => rfl
        | some d => show some (nI _) = some (nI _); rw [Nat.add_assoc]
  exact key (r 1) 0 0 n (by omega) (by omega)
theorem costsBy1 {M : ZMem} {t o n : Nat} {r : ZRow} (hT : TD M t r) (h : WF r) (ho : o < 256) (hz : zord (r 1) o = true) (hn : 10 < n) : zf_X1_costsBy n t (nI o) M = some (nI (zcosts r o)) := by
  have hm := h.1
  have t1 := hT.1
  unfold zf_X1_costsBy
  refine zloop (fun k i (s : Nat) => zf_X1_costsBy_L4 M t n (nI o) (fun v => some v) k (nI s) (nI i)) (zsum (fun i => zcostTo r o i)) (some (nI (zcosts r o))) (r 0) ?_ ?_ n 0 (Nat.zero_le _) (by omega)
  · intro k i hi
    show zf_X1_costsBy_L4 M t n (nI o) _ (k + 1) (nI _) (nI i) = zf_X1_costsBy_L4 M t n (nI o) _ k (nI _) (nI (i + 1))
    rw [zf_X1_costsBy_L4, t1, zi_le (by omega) (by omega), if_neg (by omega), zb1_at (costTo1 hT h ho hz hi (by omega)), nI_add, nI_1]
    rfl
  · intro k
    show zf_X1_costsBy_L4 M t n (nI o) _ (k + 1) (nI _) (nI (r 0)) = _
    rw [zf_X1_costsBy_L4, t1, zi_le (by omega) (by omega), if_pos (Nat.le_refl _)]
    rfl
theorem costsFor10 {M : ZMem} {o n : Nat} {r : ZRow} (hM : IR M r) (h : WF r) (ho : o < 256) (hz : zord (r 1) o = true) (hn : 10 < n) : zf_X10_costsFor n (nI o) M = some (nI (zcosts r o)) := by
  have hm := h.1
  have hc := h.2.1
  have t1 : M 78 0 = nI (r 0) := hM 0 (by omega)
  have t2 : M 78 1 = nI (r 1) := hM 1 (by omega)
  have inner : ∀ (i : Nat), i < r 0 → ∀ (K : Int32 → Option Int32) (k p s n : Nat), p + k = r 1 → k + 1 < n → zf_X10_costsFor_L20 M (nI o) (nI i) K n (nI s) 1 (nI p) = K (nI (s + zcostP r o i k p)) := by
    intro i hi K k
    have hr := zreach_lt h hi
    induction k with
    | zero =>
      intro p s n hp hn
      obtain ⟨n, rfl⟩ : ∃ m, n = m + 1 := ⟨n - 1, by omega⟩
      rw [zf_X10_costsFor_L20, zrd_at (i := (1 : Int32)) 1 rfl (by omega), t2, zi_le (by omega) (by omega), if_pos (by omega)]
      rfl
    | succ k ih =>
      intro p s n hp hn
      obtain ⟨n, rfl⟩ : ∃ m, n = m + 1 := ⟨n - 1, by omega⟩
      have hch := zord_ch (r 1) (by omega) o ho hz p (by omega)
      rw [zf_X10_costsFor_L20, zrd_at (i := (1 : Int32)) 1 rfl (by omega), t2, zi_le (by omega) (by omega), if_neg (by omega), if_neg (by decide), zb1_at (chan10 t2 (by omega) ho (by omega)), zrd_at (i := (55 : Int32) + nI (zch (r 1) o p)) (55 + zch (r 1) o p) (nI_add 55 _) (by omega), zrd_at (i := (45 : Int32) + nI i) (45 + i) (nI_add 45 i) (by omega), hM _ (by omega), hM _ (by omega), rI_ne (by omega), rI_ne (by omega), zb1_at (zf_has10 hr (by omega)), zz_bit]
      unfold zcostP zf_X10_costsFor_j80
      by_cases hb : (r (45 + i)).testBit (zch (r 1) o p) = true
      · rw [if_pos hb, if_pos hb, nI_add, nI_1]
        obtain ⟨n, rfl⟩ : ∃ m, n = m + 1 := ⟨n - 1, by omega⟩
        show zf_X10_costsFor_L20 M (nI o) (nI i) K (n + 1) _ 0 _ = _
        rw [zf_X10_costsFor_L20, zrd_at (i := (1 : Int32)) 1 rfl (by omega), t2]
        split
        · rfl
        · rw [if_pos rfl]
          rfl
      · rw [if_neg hb, if_neg hb, nI_add, nI_1]
        show zf_X10_costsFor_L20 M (nI o) (nI i) K n _ 1 _ = _
        rw [ih (p + 1) _ n (by omega) (by omega), Nat.add_assoc]
  unfold zf_X10_costsFor
  refine zloop (fun k i (s : Nat) => zf_X10_costsFor_L4 M (nI o) n (fun v => some v) k (nI s) (nI i)) (zsum (fun i => zcostTo r o i)) (some (nI (zcosts r o))) (r 0) ?_ ?_ n 0 (Nat.zero_le _) (by omega)
  · intro k i hi
    show zf_X10_costsFor_L4 M (nI o) n _ (k + 1) (nI _) (nI i) = zf_X10_costsFor_L4 M (nI o) n _ k (nI _) (nI (i + 1))
    rw [zf_X10_costsFor_L4, zrd_at (i := (0 : Int32)) 0 rfl (by omega), t1, zi_le (by omega) (by omega), if_neg (by omega), show (0 : Int32) = nI 0 from rfl, inner i hi _ (r 1) 0 _ n (by omega) (by omega), nI_1]
    rfl
  · intro k
    show zf_X10_costsFor_L4 M (nI o) n _ (k + 1) (nI _) (nI (r 0)) = _
    rw [zf_X10_costsFor_L4, zrd_at (i := (0 : Int32)) 0 rfl (by omega), t1, zi_le (by omega) (by omega), if_pos (Nat.le_refl _)]
    rfl
