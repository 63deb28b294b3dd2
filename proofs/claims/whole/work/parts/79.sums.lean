/-! LAYER 2: sums, and what is sent round by round -/
theorem zsum_s (f : Nat → Nat) (n : Nat) : zsum f (n + 1) = zsum f n + f n := rfl
theorem zsum_mono {f g : Nat → Nat} : ∀ {n : Nat}, (∀ i, i < n → f i ≤ g i) → zsum f n ≤ zsum g n
  | 0, _ => Nat.le_refl _
  | n + 1, h => by
    have h1 := zsum_mono (f := f) (g := g) (n := n) (fun i hi => h i (by omega))
    have h2 := h n (by omega)
    rw [zsum_s, zsum_s]
    omega
theorem zsum_add (f g : Nat → Nat) : ∀ n, zsum (fun i => f i + g i) n = zsum f n + zsum g n
  | 0 => rfl
  | n + 1 => by
    rw [zsum_s, zsum_s, zsum_s, zsum_add f g n]
    omega
theorem zsum_mulr (f : Nat → Nat) (c : Nat) : ∀ n, zsum (fun i => f i * c) n = zsum f n * c
  | 0 => by simp [zsum]
  | n + 1 => by rw [zsum_s, zsum_s, zsum_mulr f c n, Nat.add_mul]
theorem zsum_mull (f : Nat → Nat) (c : Nat) (n : Nat) : zsum (fun i => c * f i) n = c * zsum f n := by
  rw [Nat.mul_comm, ← zsum_mulr]
  exact zsum_congr (fun i _ => Nat.mul_comm _ _)
theorem zsum_0 : ∀ n, zsum (fun _ => 0) n = 0
  | 0 => rfl
  | n + 1 => by rw [zsum_s, zsum_0 n]
theorem zsum_comm (F : Nat → Nat → Nat) : ∀ n m, zsum (fun i => zsum (fun k => F i k) m) n = zsum (fun k => zsum (fun i => F i k) n) m
  | 0, m => (zsum_0 m).symm
  | n + 1, m => by
    rw [zsum_s, zsum_comm F n m, ← zsum_add]
    rfl
theorem zsum_pick (g x : Nat) : ∀ m, zsum (fun k => if g = k then x else 0) m = if g < m then x else 0
  | 0 => by simp [zsum]
  | m + 1 => by
    rw [zsum_s, zsum_pick g x m]
    by_cases h : g = m
    · subst h; rw [if_neg (Nat.lt_irrefl _), if_pos rfl, if_pos (Nat.lt_succ_self _), Nat.zero_add]
    · rw [if_neg h, Nat.add_zero]
      by_cases h2 : g < m
      · rw [if_pos h2, if_pos (by omega)]
      · rw [if_neg h2, if_neg (by omega)]
theorem zsum_one {f : Nat → Nat} {j : Nat} : ∀ {n : Nat}, j < n → f j ≤ zsum f n
  | 0, h => by omega
  | n + 1, h => by
    rw [zsum_s]
    by_cases e : j = n
    · subst e; omega
    · have := zsum_one (f := f) (j := j) (n := n) (by omega)
      omega
theorem zsum_eq0 {f : Nat → Nat} {n : Nat} (h : zsum f n = 0) : ∀ j, j < n → f j = 0 := fun j hj => by
  have := zsum_one (f := f) hj
  omega
theorem zsum_upd {f g : Nat → Nat} {j : Nat} : ∀ {n : Nat}, j < n → (∀ k, k ≠ j → g k = f k) → zsum g n + f j = zsum f n + g j
  | 0, h, _ => by omega
  | n + 1, h, e => by
    rw [zsum_s, zsum_s]
    by_cases h2 : j = n
    · subst h2
      rw [zsum_congr (f := g) (g := f) (fun i hi => e i (by omega))]
      omega
    · have := zsum_upd (f := f) (g := g) (j := j) (n := n) (by omega) e
      rw [e n (by omega)]
      omega
theorem zsum_ext {f : Nat → Nat} {m : Nat} : ∀ {n : Nat}, m ≤ n → (∀ j, m ≤ j → f j = 0) → zsum f n = zsum f m
  | 0, h, _ => by rw [show m = 0 by omega]
  | n + 1, h, e => by
    by_cases h2 : m = n + 1
    · rw [h2]
    · rw [zsum_s, e n (by omega), Nat.add_zero, zsum_ext (by omega) e]
theorem zsum_div {c : Nat → Nat} {P G n : Nat} : zsum (fun i => P * c i / G) n ≤ P * zsum c n / G := by
  by_cases hG : G = 0
  · subst hG
    simp only [Nat.div_zero]
    rw [zsum_0]
    omega
  · rw [Nat.le_div_iff_mul_le (by omega), ← zsum_mulr, ← zsum_mull]
    exact zsum_mono (fun i _ => Nat.div_mul_le_self _ _)
/-! what is counted -/
theorem zcnt_in {q : ZRow} {i : Nat} (h : i < q 0) (hc : zcnt q i = true) : (zin q).testBit i = true := by
  rw [zin_tb]
  unfold zcnt at hc
  simp only [Bool.and_eq_true, decide_eq_true_eq] at hc
  simp [h, hc.1.2]
theorem zcnt_pos {q : ZRow} {i : Nat} (hc : zcnt q i = true) : 0 < zclaim q i := by
  unfold zcnt at hc
  simp only [Bool.and_eq_true, decide_eq_true_eq] at hc
  exact hc.2
theorem zhun_cnt {q : ZRow} {i : Nat} (hc : zhun q i = true) : zcnt q i = true := by
  unfold zhun at hc
  rw [Bool.and_eq_true] at hc
  exact hc.1
theorem zpart10 {q : ZRow} (h0 : q 0 ≤ 10) {i : Nat} (h : i < q 0) (hc : zcnt q i = true) : zpart q i < 10 := by
  have h1 := zpart_lt h0 h (zcnt_in h hc)
  have h2 := zparts_le h0
  omega
theorem zgroup {q : ZRow} (h0 : q 0 ≤ 10) (f : Nat → Nat) : zsum (fun k => zsum (fun i => if zcnt q i && (zpart q i == k) then f i else 0) (q 0)) 10 = zsum (fun i => if zcnt q i then f i else 0) (q 0) := by
  rw [← zsum_comm (fun i k => if zcnt q i && (zpart q i == k) then f i else 0)]
  apply zsum_congr
  intro i hi
  show zsum (fun k => if zcnt q i && (zpart q i == k) then f i else 0) 10 = if zcnt q i then f i else 0
  by_cases hc : zcnt q i = true
  · rw [if_pos hc]
    have e : zsum (fun k => if (zcnt q i && (zpart q i == k)) = true then f i else 0) 10 = zsum (fun k => if zpart q i = k then f i else 0) 10 := zsum_congr (fun k _ => by
      show (if (zcnt q i && (zpart q i == k)) = true then f i else 0) = if zpart q i = k then f i else 0
      rw [hc, Bool.true_and]
      by_cases g : zpart q i = k
      · rw [if_pos g, if_pos (by simp [g])]
      · rw [if_neg g, if_neg (by simp [g])])
    rw [e, zsum_pick, if_pos (zpart10 h0 hi hc)]
  · rw [if_neg hc]
    have e : zsum (fun k => if (zcnt q i && (zpart q i == k)) = true then f i else 0) 10 = zsum (fun _ => 0) 10 := zsum_congr (fun k _ => by
      show (if (zcnt q i && (zpart q i == k)) = true then f i else 0) = 0
      rw [if_neg (by simp [hc])])
    rw [e, zsum_0]
theorem zgc_sum {q : ZRow} (h0 : q 0 ≤ 10) : zsum (zgc q) 10 = zca q := zgroup h0 (zclaim q)
theorem zgh_sum {q : ZRow} (h0 : q 0 ≤ 10) : zsum (zgh q) 10 = zhd q := zgroup h0 (fun _ => 1)
theorem zgh_gc {q : ZRow} {k : Nat} : zgh q k ≤ zgc q k := zsum_mono (fun i _ => by
  show (if _ then 1 else 0) ≤ (if _ then zclaim q i else 0)
  by_cases g : (zcnt q i && (zpart q i == k)) = true
  · rw [if_pos g, if_pos g]
    rw [Bool.and_eq_true] at g
    exact zcnt_pos g.1
  · rw [if_neg g, if_neg g]
    exact Nat.le_refl _)
theorem zwt_sum {q : ZRow} (h0 : q 0 ≤ 10) : zsum (fun k => if zgh q k = 0 then 0 else zwt q k) 10 ≤ zwa q := by
  unfold zwt zwa
  by_cases h1 : q 9 = 0
  · simp only [if_pos h1]
    rw [← zgc_sum h0]
    exact zsum_mono (fun k _ => by show (if _ then 0 else _) ≤ _; split <;> omega)
  · by_cases h2 : q 9 = 1
    · simp only [if_neg h1, if_pos h2]
      rw [← zgh_sum h0]
      exact zsum_mono (fun k _ => by show (if _ then 0 else _) ≤ _; split <;> omega)
    · simp only [if_neg h1, if_neg h2]
      exact Nat.le_refl _
theorem zwa_pos {q : ZRow} (h0 : q 0 ≤ 10) {k : Nat} (hk : k < 10) (h : zgh q k ≠ 0) : 0 < zwa q := by
  have h1 := zwt_sum h0
  have h2 := zsum_one (f := fun k => if zgh q k = 0 then 0 else zwt q k) hk
  have h3 : 0 < (if zgh q k = 0 then 0 else zwt q k) := by
    rw [if_neg h]
    unfold zwt
    have := zgh_gc (q := q) (k := k)
    split
    · omega
    · split <;> omega
  have h4 : (fun k => if zgh q k = 0 then 0 else zwt q k) k = if zgh q k = 0 then 0 else zwt q k := rfl
  omega
theorem zpot_sum {q : ZRow} (h0 : q 0 ≤ 10) (v : Nat) : zsum (zpotF q v) 10 ≤ v := by
  have e : zsum (zpotF q v) 10 = zsum (fun k => v * (if zgh q k = 0 then 0 else zwt q k) / zwa q) 10 := zsum_congr (fun k _ => by
    unfold zpotF
    split
    · simp
    · rfl)
  rw [e]
  refine Nat.le_trans zsum_div ?_
  by_cases hz : zwa q = 0
  · rw [hz, Nat.div_zero]; omega
  · refine Nat.le_trans (Nat.div_le_div_right (Nat.mul_le_mul_left v (zwt_sum h0))) ?_
    rw [Nat.mul_div_cancel _ (by omega)]
    exact Nat.le_refl _
theorem zpotF_le {q : ZRow} (h0 : q 0 ≤ 10) {v k : Nat} (hk : k < 10) : zpotF q v k ≤ v := Nat.le_trans (zsum_one hk) (zpot_sum h0 v)
theorem zleast_le {q : ZRow} {v : Nat} : zleastOf q v ≤ v := by
  unfold zleastOf
  split <;> omega
theorem zfst_le {q : ZRow} {v i : Nat} : zfst q v i ≤ zclaim q i := Nat.le_trans zleast_le (Nat.min_le_left _ _)
theorem zfur_le {q : ZRow} {p : Nat → Nat} {left i : Nat} : zfur q p left i ≤ zclaim q i - p i := Nat.le_trans zleast_le (Nat.min_le_left _ _)
theorem zfst_sum {q : ZRow} (h0 : q 0 ≤ 10) (v : Nat) : zsum (fun i => if zhun q i then zfst q v i else 0) (q 0) ≤ v := by
  have e1 : zsum (fun i => if zhun q i then zfst q v i else 0) (q 0) ≤ zsum (fun i => if zcnt q i then zpotF q v (zpart q i) * zclaim q i / zgc q (zpart q i) else 0) (q 0) := zsum_mono (fun i hi => by
    show (if zhun q i = true then zfst q v i else 0) ≤ (if zcnt q i = true then zpotF q v (zpart q i) * zclaim q i / zgc q (zpart q i) else 0)
    by_cases g : zhun q i = true
    · rw [if_pos g, if_pos (zhun_cnt g)]
      exact Nat.le_trans zleast_le (Nat.min_le_right _ _)
    · rw [if_neg g]; omega)
  refine Nat.le_trans e1 ?_
  rw [← zgroup h0 (fun i => zpotF q v (zpart q i) * zclaim q i / zgc q (zpart q i))]
  refine Nat.le_trans ?_ (zpot_sum h0 v)
  refine zsum_mono (fun k _ => ?_)
  have e2 : zsum (fun i => if zcnt q i && (zpart q i == k) then zpotF q v (zpart q i) * zclaim q i / zgc q (zpart q i) else 0) (q 0) = zsum (fun i => zpotF q v k * (if zcnt q i && (zpart q i == k) then zclaim q i else 0) / zgc q k) (q 0) := zsum_congr (fun i _ => by
    show (if (zcnt q i && (zpart q i == k)) = true then zpotF q v (zpart q i) * zclaim q i / zgc q (zpart q i) else 0) = zpotF q v k * (if (zcnt q i && (zpart q i == k)) = true then zclaim q i else 0) / zgc q k
    by_cases g : (zcnt q i && (zpart q i == k)) = true
    · rw [if_pos g, if_pos g]
      rw [Bool.and_eq_true, beq_iff_eq] at g
      rw [g.2]
    · rw [if_neg g, if_neg g]
      simp)
  show zsum (fun i => if zcnt q i && (zpart q i == k) then zpotF q v (zpart q i) * zclaim q i / zgc q (zpart q i) else 0) (q 0) ≤ zpotF q v k
  rw [e2]
  refine Nat.le_trans zsum_div ?_
  show zpotF q v k * zgc q k / zgc q k ≤ zpotF q v k
  by_cases hz : zgc q k = 0
  · rw [hz, Nat.div_zero]; omega
  · rw [Nat.mul_div_cancel _ (by omega)]; exact Nat.le_refl _
theorem zfur_sum {q : ZRow} (p : Nat → Nat) (left : Nat) : zsum (fun i => if zhun q i then zfur q p left i else 0) (q 0) ≤ left := by
  have e1 : zsum (fun i => if zhun q i then zfur q p left i else 0) (q 0) ≤ zsum (fun i => left * (if zhun q i then zclaim q i - p i else 0) / zlack q p) (q 0) := zsum_mono (fun i _ => by
    show (if zhun q i = true then zfur q p left i else 0) ≤ left * (if zhun q i = true then zclaim q i - p i else 0) / zlack q p
    by_cases g : zhun q i = true
    · rw [if_pos g, if_pos g]
      exact Nat.le_trans zleast_le (Nat.min_le_right _ _)
    · rw [if_neg g]; exact Nat.zero_le _)
  refine Nat.le_trans e1 (Nat.le_trans zsum_div ?_)
  show left * zlack q p / zlack q p ≤ left
  by_cases hz : zlack q p = 0
  · rw [hz, Nat.div_zero]; omega
  · rw [Nat.mul_div_cancel _ (by omega)]; exact Nat.le_refl _
/-! round by round -/
def zpk (q : ZRow) (v k i : Nat) : Nat := (zrnd q v k).1 i
def zlk (q : ZRow) (v k : Nat) : Nat := (zrnd q v k).2.1
def zgk (q : ZRow) (v k : Nat) : Bool := (zrnd q v k).2.2
theorem zpk_0 (q : ZRow) (v i : Nat) : zpk q v 0 i = 0 := rfl
theorem zlk_0 (q : ZRow) (v : Nat) : zlk q v 0 = v := rfl
theorem zgk_0 (q : ZRow) (v : Nat) : zgk q v 0 = true := rfl
theorem zpk_s (q : ZRow) (v k i : Nat) : zpk q v (k + 1) i = zpk q v k i + zhadF q v k i := rfl
theorem zlk_s (q : ZRow) (v k : Nat) : zlk q v (k + 1) = zlk q v k - zsum (zhadF q v k) (q 0) := rfl
theorem zgk_s (q : ZRow) (v k : Nat) : zgk q v (k + 1) = (zgk q v k && decide (0 < zsum (zhadF q v k) (q 0))) := rfl
theorem zhad_eq (q : ZRow) (v k i : Nat) : zhadF q v k i = if zgk q v k && zhun q i then (if k = 0 then zfst q v i else zfur q (zpk q v k) (zlk q v k) i) else 0 := rfl
theorem zhad_stop {q : ZRow} {v k : Nat} (h : zgk q v k = false) (i : Nat) : zhadF q v k i = 0 := by
  rw [zhad_eq, h, Bool.false_and, if_neg (by decide)]
theorem zgk_stop {q : ZRow} {v k : Nat} (h : zgk q v k = false) : zgk q v (k + 1) = false := by rw [zgk_s, h, Bool.false_and]
theorem zpk_le {q : ZRow} {v : Nat} : ∀ k i, zpk q v k i ≤ zclaim q i
  | 0, i => Nat.zero_le _
  | k + 1, i => by
    have ih := zpk_le (q := q) (v := v) k i
    rw [zpk_s, zhad_eq]
    by_cases g : (zgk q v k && zhun q i) = true
    · rw [if_pos g]
      by_cases hk : k = 0
      · subst hk
        rw [if_pos rfl, zpk_0, Nat.zero_add]
        exact zfst_le
      · rw [if_neg hk]
        have := zfur_le (q := q) (p := zpk q v k) (left := zlk q v k) (i := i)
        omega
    · rw [if_neg g]; omega
theorem zhad_sum {q : ZRow} (h0 : q 0 ≤ 10) {v k : Nat} : zsum (zhadF q v k) (q 0) ≤ zlk q v k := by
  cases hg : zgk q v k with
  | false =>
    rw [zsum_congr (g := fun _ => 0) (fun i _ => zhad_stop hg i), zsum_0]
    omega
  | true =>
    by_cases hk : k = 0
    · subst hk
      have e : zsum (zhadF q v 0) (q 0) = zsum (fun i => if zhun q i then zfst q v i else 0) (q 0) := zsum_congr (fun i _ => by rw [zhad_eq, zgk_0, Bool.true_and, if_pos rfl])
      rw [e]
      exact zfst_sum h0 v
    · have e : zsum (zhadF q v k) (q 0) = zsum (fun i => if zhun q i then zfur q (zpk q v k) (zlk q v k) i else 0) (q 0) := zsum_congr (fun i _ => by rw [zhad_eq, hg, Bool.true_and, if_neg hk])
      rw [e]
      exact zfur_sum _ _
theorem zleft_sum {q : ZRow} (h0 : q 0 ≤ 10) {v : Nat} : ∀ k, zsum (zpk q v k) (q 0) + zlk q v k = v
  | 0 => by
    have : zsum (zpk q v 0) (q 0) = 0 := by rw [zsum_congr (g := fun _ => 0) (fun i _ => zpk_0 q v i), zsum_0]
    rw [this, zlk_0, Nat.zero_add]
  | k + 1 => by
    have ih := zleft_sum h0 (v := v) k
    have h1 := zhad_sum h0 (v := v) (k := k)
    have e : zsum (zpk q v (k + 1)) (q 0) = zsum (zpk q v k) (q 0) + zsum (zhadF q v k) (q 0) := by
      rw [← zsum_add]
      rfl
    rw [e, zlk_s]
    omega
theorem zlk_le {q : ZRow} (h0 : q 0 ≤ 10) {v k : Nat} : zlk q v k ≤ v := by
  have := zleft_sum h0 (v := v) k
  omega
/-- how many of k rounds counted -/
def zrk (q : ZRow) (v k : Nat) : Nat := zsum (fun j => (zgk q v (j + 1)).toNat) k
theorem zrk_s (q : ZRow) (v k : Nat) : zrk q v (k + 1) = zrk q v k + (zgk q v (k + 1)).toNat := rfl
theorem zgk_down {q : ZRow} {v k : Nat} (h : zgk q v (k + 1) = true) : zgk q v k = true := by
  rw [zgk_s, Bool.and_eq_true] at h
  exact h.1
theorem zrk_go {q : ZRow} {v : Nat} : ∀ k, zgk q v k = true → zrk q v k = k
  | 0, _ => rfl
  | k + 1, h => by rw [zrk_s, h, zrk_go k (zgk_down h)]; rfl
theorem zrk_stop {q : ZRow} {v k : Nat} (h : zgk q v k = false) : zrk q v (k + 1) = zrk q v k := by
  rw [zrk_s, zgk_stop h]; rfl
theorem zpk_stop {q : ZRow} {v k : Nat} (h : zgk q v k = false) (i : Nat) : zpk q v (k + 1) i = zpk q v k i := by
  rw [zpk_s, zhad_stop h]; rfl
theorem zlk_stop {q : ZRow} {v k : Nat} (h : zgk q v k = false) : zlk q v (k + 1) = zlk q v k := by
  rw [zlk_s, zsum_congr (g := fun _ => 0) (fun i _ => zhad_stop h i), zsum_0]; rfl
/-- once it stops all stays -/
theorem zstop {q : ZRow} {v k : Nat} (h : zgk q v k = false) : ∀ d, zgk q v (k + d) = false ∧ (∀ i, zpk q v (k + d) i = zpk q v k i) ∧ zlk q v (k + d) = zlk q v k ∧ zrk q v (k + d) = zrk q v k
  | 0 => ⟨h, fun _ => rfl, rfl, rfl⟩
  | d + 1 => by
    obtain ⟨h1, h2, h3, h4⟩ := zstop h d
    refine ⟨zgk_stop h1, fun i => ?_, ?_, ?_⟩
    · show zpk q v (k + d + 1) i = _
      rw [zpk_stop h1]; exact h2 i
    · show zlk q v (k + d + 1) = _
      rw [zlk_stop h1]; exact h3
    · show zrk q v (k + d + 1) = _
      rw [zrk_stop h1]; exact h4
