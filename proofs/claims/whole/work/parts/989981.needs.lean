/-! LAYER 2: the least NET by which all hungry ones have all -/
def zcH (q : ZRow) : Nat := zsum (fun i => if zhun q i = true then zclaim q i else 0) (q 0)
def zgot (q : ZRow) (v : Nat) : Nat := zsum (fun i => if zhun q i = true then zpaidF q v i else 0) (q 0)
def zraw (q : ZRow) (v i : Nat) : Nat := zpotF q v (zpart q i) * zclaim q i / zgc q (zpart q i)
theorem zfst_raw (q : ZRow) (v i : Nat) : zfst q v i = zleastOf q (min (zclaim q i) (zraw q v i)) := rfl
def zcut (a b : Nat) : Nat := (a + b - 1) / b
theorem zcut_le {a b v : Nat} (hb : 0 < b) : zcut a b ≤ v ↔ a ≤ v * b := by
  unfold zcut
  rw [← Nat.lt_succ_iff, Nat.div_lt_iff_lt_mul hb, Nat.succ_mul]
  omega
theorem zgrp_pos {q : ZRow} (hw : WF q) {i : Nat} (hi : i < q 0) (hc : zcnt q i = true) : zpart q i < 10 ∧ 0 < zgc q (zpart q i) ∧ zgh q (zpart q i) ≠ 0 ∧ 0 < zwt q (zpart q i) ∧ 0 < zwa q ∧ zclaim q i ≤ zgc q (zpart q i) := by
  have hp := zpart10 hw.1 hi hc
  have hcp := zcnt_pos hc
  have h1 := zsum_one (f := fun j => if zcnt q j && (zpart q j == zpart q i) then zclaim q j else 0) hi
  rw [if_pos (show (zcnt q i && (zpart q i == zpart q i)) = true by simp [hc])] at h1
  have h4 : zgc q (zpart q i) = zsum (fun j => if zcnt q j && (zpart q j == zpart q i) then zclaim q j else 0) (q 0) := rfl
  have h2 := zsum_one (f := fun j => if zcnt q j && (zpart q j == zpart q i) then 1 else 0) hi
  rw [if_pos (show (zcnt q i && (zpart q i == zpart q i)) = true by simp [hc])] at h2
  have h5 : zgh q (zpart q i) = zsum (fun j => if zcnt q j && (zpart q j == zpart q i) then 1 else 0) (q 0) := rfl
  have hgh : zgh q (zpart q i) ≠ 0 := by omega
  refine ⟨hp, by omega, hgh, ?_, zwa_pos hw.1 hp hgh, by omega⟩
  unfold zwt
  split
  · omega
  · split <;> omega
theorem zpotF_mono {q : ZRow} {v v' k : Nat} (h : v ≤ v') : zpotF q v k ≤ zpotF q v' k := by
  unfold zpotF
  split
  · exact Nat.le_refl _
  · exact Nat.div_le_div_right (Nat.mul_le_mul_right _ h)
theorem zraw_mono {q : ZRow} {v v' i : Nat} (h : v ≤ v') : zraw q v i ≤ zraw q v' i := Nat.div_le_div_right (Nat.mul_le_mul_right _ (zpotF_mono h))
/-- the least NET for a POT, and for what one is sent in ROUND 1 -/
def znP (q : ZRow) (k p : Nat) : Nat := zcut (p * zwa q) (zwt q k)
def znS (q : ZRow) (i s : Nat) : Nat := znP q (zpart q i) (zcut (s * zgc q (zpart q i)) (zclaim q i))
theorem znP_le {q : ZRow} (hw : WF q) {i p v : Nat} (hi : i < q 0) (hc : zcnt q i = true) : znP q (zpart q i) p ≤ v ↔ p ≤ zpotF q v (zpart q i) := by
  obtain ⟨a1, a2, a3, a4, a5, a6⟩ := zgrp_pos hw hi hc
  unfold znP zpotF
  rw [zcut_le a4, if_neg a3, Nat.le_div_iff_mul_le a5]
theorem znS_le {q : ZRow} (hw : WF q) {i s v : Nat} (hi : i < q 0) (hc : zcnt q i = true) : znS q i s ≤ v ↔ s ≤ zraw q v i := by
  obtain ⟨a1, a2, a3, a4, a5, a6⟩ := zgrp_pos hw hi hc
  unfold znS zraw
  rw [znP_le hw hi hc, zcut_le (zcnt_pos hc), Nat.le_div_iff_mul_le a2]
def zbad (q : ZRow) (v i : Nat) : Bool := zhun q i && (decide (0 < zclaim q i - zfst q v i) && decide (zclaim q i - zfst q v i < q 4))
theorem zbad_iff {q : ZRow} {v i : Nat} : zbad q v i = true ↔ zhun q i = true ∧ 0 < zclaim q i - zfst q v i ∧ zclaim q i - zfst q v i < q 4 := by
  unfold zbad
  rw [Bool.and_eq_true, Bool.and_eq_true, decide_eq_true_eq, decide_eq_true_eq]
def zany (q : ZRow) (v : Nat) : Bool := decide (0 < zsum (fun i => if zhun q i = true then zfst q v i else 0) (q 0))
theorem zany_of {q : ZRow} {v i : Nat} (hi : i < q 0) (hh : zhun q i = true) (h : 0 < zfst q v i) : zany q v = true := by
  unfold zany
  rw [decide_eq_true_eq]
  have := zsum_one (f := fun i => if zhun q i = true then zfst q v i else 0) hi
  rw [if_pos hh] at this
  omega
theorem zsum_pos {f : Nat → Nat} : ∀ n, 0 < zsum f n → ∃ i, i < n ∧ 0 < f i
  | 0, h => absurd h (Nat.lt_irrefl 0)
  | n + 1, h => by
    by_cases g : 0 < f n
    · exact ⟨n, by omega, g⟩
    · have h' : 0 < zsum f n + f n := h
      obtain ⟨i, h1, h2⟩ := zsum_pos n (show 0 < zsum f n by omega)
      exact ⟨i, by omega, h2⟩
theorem zany_ex {q : ZRow} {v : Nat} (h : zany q v = true) : ∃ i, i < q 0 ∧ zhun q i = true ∧ 0 < zfst q v i := by
  unfold zany at h
  rw [decide_eq_true_eq] at h
  obtain ⟨i, h1, h2⟩ := zsum_pos _ h
  by_cases g : zhun q i = true
  · have h2' : 0 < (if zhun q i = true then zfst q v i else 0) := h2
    rw [if_pos g] at h2'
    exact ⟨i, h1, g, h2'⟩
  · have h2' : 0 < (if zhun q i = true then zfst q v i else 0) := h2
    rw [if_neg g] at h2'
    omega
/-- each hungry one claims the least at least -/
def zfil (q : ZRow) : Prop := ∀ i, i < q 0 → zhun q i = true → q 4 ≤ zclaim q i
theorem zfst_pos {q : ZRow} {v i : Nat} (hf : q 4 ≤ zclaim q i) (hp : 0 < zclaim q i) : 0 < zfst q v i ↔ max 1 (q 4) ≤ zraw q v i := by
  rw [zfst_raw]
  unfold zleastOf
  by_cases g : min (zclaim q i) (zraw q v i) < q 4
  · rw [if_pos g]; omega
  · rw [if_neg g]; omega
theorem zbad_lt {q : ZRow} (hw : WF q) {v i : Nat} (hi : i < q 0) (hf : q 4 ≤ zclaim q i) (h : zbad q v i = true) : zpotF q v (zpart q i) < zgc q (zpart q i) := by
  obtain ⟨h1, h2, h3⟩ := zbad_iff.mp h
  obtain ⟨a1, a2, a3, a4, a5, a6⟩ := zgrp_pos hw hi (zhun_cnt h1)
  by_cases g : zpotF q v (zpart q i) < zgc q (zpart q i)
  · exact g
  · have : zclaim q i ≤ zraw q v i := by
      unfold zraw
      rw [Nat.le_div_iff_mul_le a2, Nat.mul_comm]
      exact Nat.mul_le_mul_right _ (by omega)
    have e : zfst q v i = zclaim q i := by
      rw [zfst_raw, Nat.min_eq_left this]
      unfold zleastOf
      rw [if_neg (by omega)]
    omega
theorem zbad_stay {q : ZRow} (hw : WF q) {v v' i : Nat} (hi : i < q 0) (hf : q 4 ≤ zclaim q i) (h : zbad q v i = true) (hv : v ≤ v') (hg : zpotF q v' (zpart q i) < zgc q (zpart q i)) : zbad q v' i = true := by
  obtain ⟨h1, h2, h3⟩ := zbad_iff.mp h
  obtain ⟨a1, a2, a3, a4, a5, a6⟩ := zgrp_pos hw hi (zhun_cnt h1)
  have hcp := zcnt_pos (zhun_cnt h1)
  have hm := zraw_mono (q := q) (i := i) hv
  have hr : zraw q v' i < zclaim q i := by
    unfold zraw
    rw [Nat.div_lt_iff_lt_mul a2, Nat.mul_comm (zclaim q i)]
    exact Nat.mul_lt_mul_of_pos_right hg hcp
  have e1 : zfst q v i = zraw q v i ∧ q 4 ≤ zraw q v i := by
    rw [zfst_raw, Nat.min_eq_right (by omega)] at h2 h3 ⊢
    unfold zleastOf at h2 h3 ⊢
    by_cases g : zraw q v i < q 4
    · rw [if_pos g] at h3; omega
    · rw [if_neg g]; omega
  have e2 : zfst q v' i = zraw q v' i := by
    rw [zfst_raw, Nat.min_eq_right (by omega)]
    unfold zleastOf
    rw [if_neg (by omega)]
  exact zbad_iff.mpr ⟨h1, by omega, by omega⟩
/-- all have all -/
def zall (q : ZRow) (v : Nat) : Bool := zany q v && zallF (fun i => !(zbad q v i)) (q 0) 0
theorem zall_iff {q : ZRow} {v : Nat} : zall q v = true ↔ zany q v = true ∧ ∀ i, i < q 0 → zbad q v i = false := by
  unfold zall
  rw [Bool.and_eq_true, zallF_iff]
  constructor
  · intro h
    refine ⟨h.1, fun i hi => ?_⟩
    have := h.2 i (by omega) (by omega)
    simpa using this
  · intro h
    exact ⟨h.1, fun i _ hi => by rw [h.2 i (by omega)]; rfl⟩
theorem zpk_mono {q : ZRow} {v i k : Nat} : ∀ d, zpk q v k i ≤ zpk q v (k + d) i
  | 0 => Nat.le_refl _
  | d + 1 => by
    have h := zpk_mono (q := q) (v := v) (i := i) (k := k) d
    have e : zpk q v (k + (d + 1)) i = zpk q v (k + d) i + zhadF q v (k + d) i := zpk_s q v (k + d) i
    omega
theorem zpk1 {q : ZRow} {v i : Nat} (hh : zhun q i = true) : zpk q v 1 i = zfst q v i := by
  have e : zpk q v (0 + 1) i = zpk q v 0 i + zhadF q v 0 i := zpk_s q v 0 i
  rw [zpk_0, zhad_1 hh] at e
  exact e.trans (Nat.zero_add _)
theorem zhad0_sum {q : ZRow} {v : Nat} : zsum (zhadF q v 0) (q 0) = zsum (fun i => if zhun q i = true then zfst q v i else 0) (q 0) := zsum_congr (fun i hi => by
  rw [zhad_eq, zgk_0, Bool.true_and, if_pos rfl])
/-- who lacks less than the least never has all -/
theorem zbad_not {q : ZRow} {v i : Nat} (h : zbad q v i = true) : ∀ k, zpk q v (k + 1) i = zfst q v i
  | 0 => zpk1 (zbad_iff.mp h).1
  | k + 1 => by
    obtain ⟨h1, h2, h3⟩ := zbad_iff.mp h
    have i1 := zbad_not h k
    rw [zpk_s, i1, zhad_eq]
    split
    · rw [if_neg (by omega)]
      have : zfur q (zpk q v (k + 1)) (zlk q v (k + 1)) i = 0 := by
        unfold zfur zleastOf
        rw [i1, if_pos (by omega)]
      rw [this]
      rfl
    · rfl
theorem zsum_full {f g : Nat → Nat} : ∀ n, (∀ i, i < n → f i ≤ g i) → zsum f n = zsum g n → ∀ i, i < n → f i = g i
  | 0, _, _, i, hi => by omega
  | n + 1, h, e, i, hi => by
    have h1 := zsum_mono (n := n) (fun j hj => h j (show j < n + 1 by omega))
    have h2 := h n (by omega)
    have e' : zsum f n + f n = zsum g n + g n := e
    by_cases g' : i = n
    · rw [g']; omega
    · exact zsum_full n (fun j hj => h j (by omega)) (by omega) i (by omega)
theorem zcH_in {q : ZRow} {i : Nat} (hi : i < q 0) (hh : zhun q i = true) : zclaim q i ≤ zcH q := by
  have := zsum_one (f := fun i => if zhun q i = true then zclaim q i else 0) hi
  rw [if_pos hh] at this
  exact this
/-- all are paid all just if someone has something by ROUND 1 and none lacks less than the least -/
theorem zgot_iff {q : ZRow} (hw : WF q) {v : Nat} (hv : zcH q ≤ v) {i0 : Nat} (hi0 : i0 < q 0) (hh0 : zhun q i0 = true) : zgot q v = zcH q ↔ zall q v = true := by
  rw [zall_iff]
  constructor
  · intro h
    have hf := zsum_full (q 0) (fun i hi => by
      show (if zhun q i = true then zpaidF q v i else 0) ≤ (if zhun q i = true then zclaim q i else 0)
      split
      · exact zpk_le 9 i
      · exact Nat.le_refl _) h
    have hp : ∀ i, i < q 0 → zhun q i = true → zpaidF q v i = zclaim q i := fun i hi hh => by
      have := hf i hi
      rw [if_pos hh, if_pos hh] at this
      exact this
    constructor
    · cases ha : zany q v with
      | true => rfl
      | false =>
        have hz : zsum (zhadF q v 0) (q 0) = 0 := by
          rw [zhad0_sum]
          unfold zany at ha
          have := of_decide_eq_false ha
          omega
        have hg : zgk q v 1 = false := by
          rw [show zgk q v 1 = (zgk q v 0 && decide (0 < zsum (zhadF q v 0) (q 0))) from zgk_s q v 0, hz]
          simp
        have h9 := (zstop hg 8).2.1 i0
        have h1 : zpk q v 1 i0 = 0 := by
          rw [zpk1 hh0]
          have := zsum_eq0 (by rw [← zhad0_sum]; exact hz) i0 hi0
          rw [if_pos hh0] at this
          exact this
        have hpp := hp i0 hi0 hh0
        have hpos := zcnt_pos (zhun_cnt hh0)
        have h9' : zpaidF q v i0 = zpk q v 1 i0 := h9
        omega
    · intro i hi
      cases hb : zbad q v i with
      | false => rfl
      | true =>
        obtain ⟨h1, h2, h3⟩ := zbad_iff.mp hb
        have h8 := zbad_not hb 8
        have h8' : zpaidF q v i = zfst q v i := h8
        have := hp i hi h1
        omega
  · rintro ⟨ha, hb⟩
    have hg : zgk q v 1 = true := by
      rw [show zgk q v 1 = (zgk q v 0 && decide (0 < zsum (zhadF q v 0) (q 0))) from zgk_s q v 0, zgk_0, Bool.true_and, zhad0_sum]
      exact ha
    have hlk : zlk q v 1 = v - zsum (fun i => if zhun q i = true then zfst q v i else 0) (q 0) := by
      rw [show zlk q v 1 = zlk q v 0 - zsum (zhadF q v 0) (q 0) from zlk_s q v 0, zlk_0, zhad0_sum]
    have hla : zlack q (zpk q v 1) + zsum (fun i => if zhun q i = true then zfst q v i else 0) (q 0) = zcH q := by
      unfold zlack zcH
      rw [← zsum_add]
      refine zsum_congr (fun i hi => ?_)
      by_cases hh : zhun q i = true
      · rw [if_pos hh, if_pos hh, if_pos hh, zpk1 hh]
        have := zfst_le (q := q) (v := v) (i := i)
        omega
      · rw [if_neg hh, if_neg hh, if_neg hh]
    have full : ∀ i, i < q 0 → zhun q i = true → zpaidF q v i = zclaim q i := fun i hi hh => by
      have h2 : zpk q v 2 i = zclaim q i := by
        have e : zpk q v (1 + 1) i = zpk q v 1 i + zhadF q v 1 i := zpk_s q v 1 i
        have e2 : zhadF q v 1 i = zfur q (zpk q v 1) (zlk q v 1) i := by
          rw [zhad_eq, hg, hh, Bool.and_true, if_pos rfl, if_neg (by omega)]
        have hle := zfst_le (q := q) (v := v) (i := i)
        have hnb := hb i hi
        have e3 : zfur q (zpk q v 1) (zlk q v 1) i = zclaim q i - zfst q v i := by
          unfold zfur
          rw [zpk1 hh]
          by_cases hz : zclaim q i - zfst q v i = 0
          · rw [hz, Nat.zero_min]
            unfold zleastOf
            split <;> rfl
          · have hone := zsum_one (f := fun i => if zhun q i = true then zclaim q i - zpk q v 1 i else 0) hi
            rw [if_pos hh, zpk1 hh] at hone
            have hone' : zclaim q i - zfst q v i ≤ zlack q (zpk q v 1) := hone
            have hdiv : zclaim q i - zfst q v i ≤ zlk q v 1 * (zclaim q i - zfst q v i) / zlack q (zpk q v 1) := by
              rw [Nat.le_div_iff_mul_le (by omega), Nat.mul_comm]
              exact Nat.mul_le_mul_right _ (by omega)
            rw [Nat.min_eq_left hdiv]
            unfold zleastOf
            rw [if_neg (fun z => by
              have : zbad q v i = true := zbad_iff.mpr ⟨hh, by omega, z⟩
              rw [hnb] at this
              cases this)]
        have e' : zpk q v 2 i = zpk q v 1 i + zhadF q v 1 i := e
        rw [e', e2, e3, zpk1 hh]
        omega
      have h9 := zpk_mono (q := q) (v := v) (i := i) (k := 2) 7
      have h9' := zpk_le (q := q) (v := v) 9 i
      have : zpaidF q v i = zpk q v 9 i := rfl
      have h9'' : zpk q v 2 i ≤ zpk q v 9 i := h9
      omega
    unfold zgot zcH
    refine zsum_congr (fun i hi => ?_)
    by_cases hh : zhun q i = true
    · rw [if_pos hh, if_pos hh, full i hi hh]
    · rw [if_neg hh, if_neg hh]
theorem zgot_fil {q : ZRow} {v i : Nat} (hi : i < q 0) (hh : zhun q i = true) (h : zclaim q i < q 4) : zgot q v ≠ zcH q := by
  intro e
  have hf := zsum_full (q 0) (fun i hi => by
    show (if zhun q i = true then zpaidF q v i else 0) ≤ (if zhun q i = true then zclaim q i else 0)
    split
    · exact zpk_le 9 i
    · exact Nat.le_refl _) e i hi
  rw [if_pos hh, if_pos hh] at hf
  have hz : ∀ k, zpk q v k i = 0 := by
    intro k
    induction k with
    | zero => rfl
    | succ k ih =>
      rw [zpk_s, ih, zhad_eq]
      split
      · split
        · rw [zfst_raw]
          unfold zleastOf
          rw [if_pos (by omega)]
        · unfold zfur zleastOf
          rw [if_pos (by omega)]
      · rfl
  have hpos := zcnt_pos (zhun_cnt hh)
  have h9 : zpaidF q v i = 0 := hz 9
  omega
