/-! LAYER 2: loops, rows, claims -/
theorem zloop {β σ : Type} (L : Nat → Nat → σ → β) (st : Nat → σ) (k : β) (m : Nat) (hs : ∀ n i, i < m → L (n + 1) i (st i) = L n (i + 1) (st (i + 1))) (he : ∀ n, L (n + 1) m (st m) = k) : ∀ n i, i ≤ m → m - i < n → L n i (st i) = k := by
  intro n
  induction n with
  | zero => intro i _ h; omega
  | succ n ih =>
    intro i hi h
    rcases Nat.lt_or_ge i m with g | g
    · rw [hs n i g]
      exact ih (i + 1) (by omega) (by omega)
    · obtain rfl : i = m := by omega
      exact he n
def zsum (f : Nat → Nat) : Nat → Nat
  | 0 => 0
  | n + 1 => zsum f n + f n
theorem zsum_congr {f g : Nat → Nat} : ∀ {n : Nat}, (∀ i, i < n → f i = g i) → zsum f n = zsum g n
  | 0, _ => rfl
  | n + 1, h => by
    show zsum f n + f n = zsum g n + g n
    rw [zsum_congr (fun i hi => h i (by omega)), h n (by omega)]
theorem zsum_le {f : Nat → Nat} {c : Nat} : ∀ {n : Nat}, (∀ i, i < n → f i ≤ c) → zsum f n ≤ n * c
  | 0, _ => by simp [zsum]
  | n + 1, h => by
    have h1 := zsum_le (f := f) (c := c) (n := n) (fun i hi => h i (by omega))
    have h2 := h n (by omega)
    show zsum f n + f n ≤ _
    rw [Nat.succ_mul]
    omega
/-- the abstract row: the reference's now[73] in Nats; place 11 is the day of sending + 1, 0: not sent -/
abbrev ZRow : Type := Nat → Nat
def rI (r : ZRow) (j : Nat) : Int32 := if j = 11 then nI (r 11) - 1 else nI (r j)
theorem rI_ne {r : ZRow} {j : Nat} (h : j ≠ 11) : rI r j = nI (r j) := if_neg h
def zdays (a b c d : Nat) : Nat := min b d + 1 - max a c
def zclaim (r : ZRow) (i : Nat) : Nat := r (35 + i) * zdays (r (15 + i)) (r (25 + i)) (r 6) (r 7)
def zclaims (r : ZRow) (a : Nat) : Nat := zsum (fun i => if a.testBit i then zclaim r i else 0) (r 0)
/-- bounds of a row -/
def WF (r : ZRow) : Prop := r 0 ≤ 10 ∧ r 1 ≤ 4 ∧ r 2 ≤ 99999 ∧ r 3 ≤ 50 ∧ r 4 ≤ 999 ∧ r 5 ≤ 99 ∧ r 6 ≤ r 7 ∧ r 7 ≤ 99 ∧ r 8 ≤ 99 ∧ r 9 ≤ 2 ∧ r 10 < 256 ∧ r 11 ≤ 100 ∧ r 12 < 2 ^ r 0 ∧ r 13 < 2 ^ r 0 ∧ r 14 < 2 ^ r 0 ∧ (∀ i, i < r 0 → r (15 + i) ≤ r (25 + i) ∧ r (25 + i) ≤ 99 ∧ 1 ≤ r (35 + i) ∧ r (35 + i) ≤ 99 ∧ r (45 + i) < 2 ^ r 1) ∧ (∀ c, c < r 1 → r (55 + c) ≤ 99 ∧ 1 ≤ r (59 + c) ∧ r (59 + c) ≤ 30) ∧ (∀ i, i < 10 → r (63 + i) < 2 ^ r 0 ∧ ∀ j, j < 10 → (r (63 + i)).testBit j = (r (63 + j)).testBit i ∧ (r (63 + i)).testBit i = false)
/-- the reference's row in its memory -/
def IR (M : ZMem) (r : ZRow) : Prop := ∀ j, j < 73 → M 78 j = rI r j
/-- a Told at t, as far as the row tells it -/
def TD (M : ZMem) (t : Nat) (r : ZRow) : Prop := M t 0 = nI (r 0) ∧ M t 1 = nI (r 1) ∧ M t 8 = nI (r 3) ∧ M t 9 = nI (r 4) ∧ M t 10 = nI (r 5) ∧ (∀ i, i < r 0 → M (t + 1) i = nI (r (15 + i)) ∧ M (t + 2) i = nI (r (25 + i)) ∧ M (t + 3) i = nI (r (35 + i)) ∧ M (t + 4) i = nI (r (45 + i))) ∧ (∀ c, c < r 1 → M (t + 5) c = nI (r (55 + c)) ∧ M (t + 6) c = nI (r (59 + c)))
/-- a Standing at o -/
def SD (M : ZMem) (o : Nat) (r : ZRow) : Prop := M o 0 = nI (r 8) ∧ M o 1 = nI (r 10) ∧ M o 2 = (if r 11 = 0 then -2 else nI (r 11 - 1)) ∧ M o 4 = nI (r 12) ∧ M o 5 = nI (r 13) ∧ M o 6 = nI (r 14) ∧ M o 7 = nI (r 2) ∧ M o 8 = nI (r 9) ∧ M o 9 = nI (r 6) ∧ M o 10 = nI (r 7) ∧ (∀ i, i < 10 → M (o + 1) i = nI (r (63 + i)))
theorem zclaim_le {r : ZRow} (h : WF r) {i : Nat} (hi : i < r 0) : zclaim r i ≤ 9900 := by
  obtain ⟨h0, h1, h2, h3, h4, h5, h6, h7, h8, h9, h10, h11, h12, h13, h14, hm, hc, hf⟩ := h
  obtain ⟨a1, a2, a3, a4, a5⟩ := hm i hi
  unfold zclaim zdays
  have : min (r (25 + i)) (r 7) + 1 - max (r (15 + i)) (r 6) ≤ 100 := by omega
  calc r (35 + i) * _ ≤ 99 * 100 := Nat.mul_le_mul a4 this
    _ = 9900 := rfl
theorem zz_lit (n : Nat) (h : n < 73) (k : Nat) : (Int32.ofNat k) + nI n = nI (k + n) := nI_add k n
theorem daysOf10 {a b c d : Nat} (ha : a < 2 ^ 30) (hb : b < 2 ^ 30) (hc : c < 2 ^ 30) (hd : d < 2 ^ 30) : zf_X10_daysOf (nI a) (nI b) (nI c) (nI d) = some (nI (zdays a b c d)) := by
  have key : ∀ x y : Nat, x < 2 ^ 30 → y < 2 ^ 30 → zf_X10_daysOf_j22 (nI x) (nI y) = some (nI (y + 1 - x)) := by
    intro x y hx hy
    unfold zf_X10_daysOf_j22 zf_X10_daysOf_j42
    rw [zi_le (by omega) (by omega)]
    split
    · rw [pk_sub (by assumption), nI_1]
      congr 2
      omega
    · rw [show y + 1 - x = 0 by omega]
      rfl
  unfold zf_X10_daysOf zf_X10_daysOf_j10 zdays
  rw [zi_le (show a < 2 ^ 31 by omega) (show c < 2 ^ 31 by omega), zi_le (show d < 2 ^ 31 by omega) (show b < 2 ^ 31 by omega), zi_le (show d < 2 ^ 31 by omega) (show b < 2 ^ 31 by omega)]
  split <;> split <;> rw [key _ _ (by assumption) (by assumption)] <;> congr 2 <;> omega
theorem claim10 {M : ZMem} {r : ZRow} (hM : IR M r) (h : WF r) {i : Nat} (hi : i < r 0) : zf_X10_claim (nI i) M = some (nI (zclaim r i)) := by
  obtain ⟨h0, h1, h2, h3, h4, h5, h6, h7, h8, h9, h10, h11, h12, h13, h14, hm, hc, hf⟩ := h
  obtain ⟨a1, a2, a3, a4, a5⟩ := hm i hi
  unfold zf_X10_claim
  rw [zrd_at (i := (35 : Int32) + nI i) (35 + i) (nI_add 35 i) (by omega), zrd_at (i := (15 : Int32) + nI i) (15 + i) (nI_add 15 i) (by omega), zrd_at (i := (25 : Int32) + nI i) (25 + i) (nI_add 25 i) (by omega), zrd_at (i := (6 : Int32)) 6 rfl (by omega), zrd_at (i := (7 : Int32)) 7 rfl (by omega)]
  rw [hM _ (by omega), hM _ (by omega), hM _ (by omega), hM _ (by omega), hM _ (by omega), rI_ne (by omega), rI_ne (by omega), rI_ne (by omega), rI_ne (by omega), rI_ne (by omega)]
  rw [zb1_at (daysOf10 (by omega) (by omega) (by omega) (by omega)), pk_mul]
  rfl
theorem claim7 {M : ZMem} {o t : Nat} {r : ZRow} (hT : TD M t r) (hS : SD M o r) (h : WF r) {i : Nat} (hi : i < r 0) : zf_X7_claimOf o t (nI i) M = some (nI (zclaim r i)) := by
  obtain ⟨h0, h1, h2, h3, h4, h5, h6, h7, h8, h9, h10, h11, h12, h13, h14, hm, hc, hf⟩ := h
  obtain ⟨a1, a2, a3, a4, a5⟩ := hm i hi
  obtain ⟨t1, t2, t3, t4, t5, t6, t7⟩ := hT
  obtain ⟨b1, b2, b3, b4⟩ := t6 i hi
  obtain ⟨s1, s2, s3, s4, s5, s6, s7, s8, s9, s10, s11⟩ := hS
  unfold zf_X7_claimOf
  rw [zrd_at i rfl (by omega), zrd_at i rfl (by omega), zrd_at i rfl (by omega), b1, b2, b3, s9, s10, zz_min (by omega) (by omega), zz_max (by omega) (by omega), zz_days (by omega) (by omega), pk_mul]
  unfold zclaim zdays
  rw [Nat.min_comm, Nat.max_comm]
