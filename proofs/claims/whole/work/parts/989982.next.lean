/-! LAYER 2: from one NET to the next -/
/-- the least NET by which one of the first m has something -/
def zsoo (q : ZRow) : Nat → Nat
  | 0 => 1152921504606846976
  | m + 1 => if zhun q m = true then min (zsoo q m) (znS q m (max 1 (q 4))) else zsoo q m
theorem zsoo_s (q : ZRow) (m : Nat) : zsoo q (m + 1) = if zhun q m = true then min (zsoo q m) (znS q m (max 1 (q 4))) else zsoo q m := rfl
theorem zsoo_le {q : ZRow} {v : Nat} (hv : v < 1152921504606846976) : ∀ m, zsoo q m ≤ v ↔ ∃ i, i < m ∧ zhun q i = true ∧ znS q i (max 1 (q 4)) ≤ v
  | 0 => by
    show 1152921504606846976 ≤ v ↔ _
    constructor
    · intro h; omega
    · rintro ⟨i, h, -⟩; omega
  | m + 1 => by
    have ih := zsoo_le hv (q := q) m
    rw [zsoo_s]
    by_cases hh : zhun q m = true
    · rw [if_pos hh]
      constructor
      · intro h
        by_cases g : zsoo q m ≤ v
        · obtain ⟨i, h1, h2, h3⟩ := ih.mp g
          exact ⟨i, by omega, h2, h3⟩
        · exact ⟨m, by omega, hh, by omega⟩
      · rintro ⟨i, h1, h2, h3⟩
        by_cases e : i = m
        · subst e; omega
        · have := ih.mpr ⟨i, by omega, h2, h3⟩
          omega
    · rw [if_neg hh, ih]
      constructor
      · rintro ⟨i, h1, h2, h3⟩
        exact ⟨i, by omega, h2, h3⟩
      · rintro ⟨i, h1, h2, h3⟩
        by_cases e : i = m
        · subst e; exact absurd h2 hh
        · exact ⟨i, by omega, h2, h3⟩
theorem zany_soon {q : ZRow} (hw : WF q) (hf : zfil q) {v : Nat} (hv : v < 1152921504606846976) : zany q v = true ↔ zsoo q (q 0) ≤ v := by
  rw [zsoo_le hv]
  constructor
  · intro h
    obtain ⟨i, h1, h2, h3⟩ := zany_ex h
    refine ⟨i, h1, h2, (znS_le hw h1 (zhun_cnt h2)).mpr ?_⟩
    exact (zfst_pos (hf i h1 h2) (zcnt_pos (zhun_cnt h2))).mp h3
  · rintro ⟨i, h1, h2, h3⟩
    refine zany_of h1 h2 ?_
    exact (zfst_pos (hf i h1 h2) (zcnt_pos (zhun_cnt h2))).mpr ((znS_le hw h1 (zhun_cnt h2)).mp h3)
/-- the NET to try next -/
def znext (q : ZRow) (v : Nat) : Nat := match zfnd (zbad q v) (q 0) 0 with
  | some i => znP q (zpart q i) (zgc q (zpart q i))
  | none => max v (zsoo q (q 0))
def zmu (q : ZRow) (v : Nat) : Nat := zsum (fun k => if zpotF q v k < zgc q k then 1 else 0) 10 + (if zany q v = true then 0 else 1)
theorem zmu_le (q : ZRow) (v : Nat) : zmu q v ≤ 11 := by
  have : zsum (fun k => if zpotF q v k < zgc q k then 1 else 0) 10 ≤ 10 * 1 := zsum_le (fun i _ => by split <;> omega)
  unfold zmu
  split <;> omega
theorem zsum_lt {f g : Nat → Nat} {j n : Nat} (hj : j < n) (h : ∀ i, i < n → f i ≤ g i) (hl : f j < g j) : zsum f n < zsum g n := by
  induction n with
  | zero => omega
  | succ n ih =>
    show zsum f n + f n < zsum g n + g n
    have h1 := zsum_mono (n := n) (fun i hi => h i (show i < n + 1 by omega))
    have h2 := h n (by omega)
    by_cases e : j = n
    · subst e; omega
    · have := ih (by omega) (fun i hi => h i (by omega))
      omega
theorem zmu_k {q : ZRow} {v v' : Nat} (h : v ≤ v') (k : Nat) : (if zpotF q v' k < zgc q k then 1 else 0) ≤ (if zpotF q v k < zgc q k then 1 else 0) := by
  have := zpotF_mono (q := q) (k := k) h
  split
  · rw [if_pos (by omega)]; exact Nat.le_refl _
  · exact Nat.zero_le _
theorem zany_mono {q : ZRow} (hw : WF q) (hf : zfil q) {v v' : Nat} (h : v ≤ v') (ha : zany q v = true) : zany q v' = true := by
  obtain ⟨i, h1, h2, h3⟩ := zany_ex ha
  refine zany_of h1 h2 ?_
  have hp := zcnt_pos (zhun_cnt h2)
  rw [zfst_pos (hf i h1 h2) hp] at h3 ⊢
  have := zraw_mono (q := q) (i := i) h
  omega
/-- the search, NET by NET -/
def zlp9 (q : ZRow) (most : Nat) : Nat → Nat → Option Nat
  | 0, _ => none
  | d + 1, v => if most < v then none else if v < znext q v then zlp9 q most d (znext q v) else some v
theorem zlp9_s (q : ZRow) (most d v : Nat) : zlp9 q most (d + 1) v = if most < v then none else if v < znext q v then zlp9 q most d (znext q v) else some v := rfl
theorem znext_step {q : ZRow} (hw : WF q) (hf : zfil q) {v : Nat} (hv : v ≤ 99999) : (v < znext q v → (∀ v', v ≤ v' → v' < znext q v → v' ≤ 99999 → zall q v' = false) ∧ (znext q v ≤ 99999 → zmu q (znext q v) < zmu q v)) ∧ (¬ v < znext q v → zall q v = true) := by
  unfold znext
  cases hz : zfnd (zbad q v) (q 0) 0 with
  | some i =>
    obtain ⟨b1, -, b2⟩ := zfnd_some _ _ hz
    have hi : i < q 0 := by omega
    have hh := (zbad_iff.mp b1).1
    have hlt := zbad_lt hw hi (hf i hi hh) b1
    have hnv : v < znP q (zpart q i) (zgc q (zpart q i)) := by
      by_cases g : v < znP q (zpart q i) (zgc q (zpart q i))
      · exact g
      · have := (znP_le hw hi (zhun_cnt hh)).mp (Nat.le_of_not_lt g)
        omega
    refine ⟨fun _ => ⟨fun v' h1 h2 _ => ?_, fun hle => ?_⟩, fun h => absurd hnv h⟩
    · have hg : zpotF q v' (zpart q i) < zgc q (zpart q i) := by
        by_cases g : zpotF q v' (zpart q i) < zgc q (zpart q i)
        · exact g
        · have h2' : v' < znP q (zpart q i) (zgc q (zpart q i)) := h2
          have := (znP_le hw hi (zhun_cnt hh) (v := v')).mpr (Nat.le_of_not_lt g)
          omega
      have hb := zbad_stay hw hi (hf i hi hh) b1 h1 hg
      cases ha : zall q v' with
      | false => rfl
      | true =>
        have := (zall_iff.mp ha).2 i hi
        rw [hb] at this
        cases this
    · have hge : zgc q (zpart q i) ≤ zpotF q (znP q (zpart q i) (zgc q (zpart q i))) (zpart q i) := (znP_le hw hi (zhun_cnt hh)).mp (Nat.le_refl _)
      have hp := (zgrp_pos hw hi (zhun_cnt hh)).1
      show zmu q (znP q (zpart q i) (zgc q (zpart q i))) < zmu q v
      have hs : zsum (fun k => if zpotF q (znP q (zpart q i) (zgc q (zpart q i))) k < zgc q k then 1 else 0) 10 < zsum (fun k => if zpotF q v k < zgc q k then 1 else 0) 10 := by
        refine zsum_lt hp (fun k _ => zmu_k (Nat.le_of_lt hnv) k) ?_
        show (if zpotF q (znP q (zpart q i) (zgc q (zpart q i))) (zpart q i) < zgc q (zpart q i) then 1 else 0) < (if zpotF q v (zpart q i) < zgc q (zpart q i) then 1 else 0)
        rw [if_neg (by omega), if_pos hlt]
        omega
      unfold zmu
      cases ha : zany q v with
      | true =>
        rw [zany_mono hw hf (Nat.le_of_lt hnv) ha]
        show _ + 0 < _ + 0
        omega
      | false =>
        split
        · show _ + 0 < _ + 1
          omega
        · show _ + 1 < _ + 1
          omega
  | none =>
    have hnb : ∀ i, i < q 0 → zbad q v i = false := fun i hi => zfnd_none _ _ hz (by omega) (by omega)
    show (v < max v (zsoo q (q 0)) → _) ∧ (¬ v < max v (zsoo q (q 0)) → _)
    refine ⟨fun h => ⟨fun v' h1 h2 h3 => ?_, fun hle => ?_⟩, fun h => ?_⟩
    · cases ha : zall q v' with
      | false => rfl
      | true =>
        have h4 := (zany_soon hw hf (by omega)).mp (zall_iff.mp ha).1
        have h2' : v' < max v (zsoo q (q 0)) := h2
        omega
    · have hle' : max v (zsoo q (q 0)) ≤ 99999 := hle
      have h1 : zany q (max v (zsoo q (q 0))) = true := (zany_soon hw hf (by omega)).mpr (by omega)
      have h2 : zany q v = false := by
        cases ha : zany q v with
        | false => rfl
        | true =>
          have := (zany_soon hw hf (by omega)).mp ha
          omega
      show zmu q (max v (zsoo q (q 0))) < zmu q v
      have hs : zsum (fun k => if zpotF q (max v (zsoo q (q 0))) k < zgc q k then 1 else 0) 10 ≤ zsum (fun k => if zpotF q v k < zgc q k then 1 else 0) 10 := zsum_mono (fun k _ => zmu_k (by omega) k)
      unfold zmu
      rw [h1, h2]
      show _ + 0 < _ + 1
      omega
    · refine zall_iff.mpr ⟨(zany_soon hw hf (by omega)).mpr (by omega), hnb⟩
theorem zlp9_ok {q : ZRow} (hw : WF q) (hf : zfil q) {most c : Nat} (hm : most ≤ 99999) : ∀ d v, c ≤ v → (∀ v', c ≤ v' → v' < v → v' ≤ most → zall q v' = false) → (v ≤ most → zmu q v < d) → 0 < d →
    (∀ x, zlp9 q most d v = some x → c ≤ x ∧ x ≤ most ∧ zall q x = true ∧ ∀ v', c ≤ v' → v' < x → zall q v' = false) ∧ (zlp9 q most d v = none → ∀ v', c ≤ v' → v' ≤ most → zall q v' = false) := by
  intro d
  induction d with
  | zero => intro v _ _ _ h; omega
  | succ d ih =>
    intro v hc hn hmu _
    rw [zlp9_s]
    by_cases c1 : most < v
    · rw [if_pos c1]
      exact ⟨fun x h => (by cases h), fun _ v' h1 h2 => hn v' h1 (by omega) h2⟩
    · rw [if_neg c1]
      obtain ⟨s1, s2⟩ := znext_step hw hf (show v ≤ 99999 by omega)
      by_cases c2 : v < znext q v
      · rw [if_pos c2]
        obtain ⟨t1, t2⟩ := s1 c2
        have hmv := hmu (by omega)
        have hd : 0 < d := by
          by_cases g : 0 < d
          · exact g
          · have hd0 : d = 0 := by omega
            subst hd0
            have hz : zmu q v = 0 := by omega
            by_cases hle : znext q v ≤ 99999
            · have := t2 hle
              omega
            · exfalso
              unfold zmu at hz
              have ha : zany q v = true := by
                by_cases g : zany q v = true
                · exact g
                · rw [if_neg g] at hz; omega
              have hs : zsum (fun k => if zpotF q v k < zgc q k then 1 else 0) 10 = 0 := by omega
              unfold znext at c2
              cases hzz : zfnd (zbad q v) (q 0) 0 with
              | some i =>
                obtain ⟨b1, -, b2⟩ := zfnd_some _ _ hzz
                have hi : i < q 0 := by omega
                have hh := (zbad_iff.mp b1).1
                have hlt := zbad_lt hw hi (hf i hi hh) b1
                have := zsum_eq0 hs (zpart q i) (zgrp_pos hw hi (zhun_cnt hh)).1
                rw [if_pos hlt] at this
                omega
              | none =>
                rw [hzz] at c2
                have c2' : v < max v (zsoo q (q 0)) := c2
                have := (zany_soon hw hf (show v < 1152921504606846976 by omega)).mp ha
                omega
        refine ih (znext q v) (by omega) (fun v' h1 h2 h3 => ?_) (fun hle => ?_) hd
        · by_cases g : v' < v
          · exact hn v' h1 g h3
          · exact t1 v' (by omega) h2 (by omega)
        · have := t2 (by omega)
          omega
      · rw [if_neg c2]
        refine ⟨fun x h => ?_, fun h => (by cases h)⟩
        have e : v = x := Option.some.inj h
        subst e
        exact ⟨hc, by omega, s2 c2, fun v' h1 h2 => hn v' h1 h2 (by omega)⟩
/-- NET by FUND -/
theorem znetF_0 (q : ZRow) : znetF q 0 = 0 := by
  unfold znetF
  omega
theorem znetF_s {q : ZRow} (hw : WF q) (f : Nat) : znetF q f ≤ znetF q (f + 1) ∧ znetF q (f + 1) ≤ znetF q f + 1 := by
  have hb := hw.b
  have h1 : q 3 * f / 100 ≤ q 3 * (f + 1) / 100 := Nat.div_le_div_right (Nat.mul_le_mul_left _ (by omega))
  have h2 : q 3 * (f + 1) / 100 ≤ q 3 * f / 100 + 1 := by
    rw [Nat.mul_succ]
    omega
  unfold znetF
  omega
theorem znetF_mono {q : ZRow} (hw : WF q) (f : Nat) : ∀ d, znetF q f ≤ znetF q (f + d)
  | 0 => Nat.le_refl _
  | d + 1 => Nat.le_trans (znetF_mono hw f d) (znetF_s hw (f + d)).1
theorem zfnd_eq {f : Nat → Bool} {x : Nat} : ∀ d s, s ≤ x → x < s + d → f x = true → (∀ y, s ≤ y → y < x → f y = false) → zfnd f d s = some x
  | 0, s, h1, h2, _, _ => by omega
  | d + 1, s, h1, h2, h3, h4 => by
    rw [zfnd_s]
    by_cases e : s = x
    · rw [e, if_pos h3]
    · rw [if_neg (by rw [h4 s (Nat.le_refl _) (by omega)]; decide)]
      exact zfnd_eq d (s + 1) (by omega) (by omega) h3 (fun y a b => h4 y (by omega) b)
theorem zfnd_no {f : Nat → Bool} : ∀ d s, (∀ y, s ≤ y → y < s + d → f y = false) → zfnd f d s = none
  | 0, s, _ => rfl
  | d + 1, s, h => by
    rw [zfnd_s, if_neg (by rw [h s (Nat.le_refl _) (by omega)]; decide)]
    exact zfnd_no d (s + 1) (fun y a b => h y (by omega) (by omega))
/-- the least FUND for a NET -/
theorem zfund {q : ZRow} (hw : WF q) {x : Nat} (hx : 0 < x) (hm : x ≤ znetF q 99999) : ∃ f, f ≤ 99999 ∧ znetF q f = x ∧ ∀ y, y < f → znetF q y < x := by
  have key : ∀ d, d ≤ 99999 → x ≤ znetF q d → ∃ f, f ≤ d ∧ znetF q f = x ∧ ∀ y, y < f → znetF q y < x := by
    intro d
    induction d with
    | zero => intro _ h; rw [znetF_0] at h; omega
    | succ d ih =>
      intro hd h
      by_cases g : x ≤ znetF q d
      · obtain ⟨f, a, b, c⟩ := ih (by omega) g
        exact ⟨f, by omega, b, c⟩
      · obtain ⟨s1, s2⟩ := znetF_s hw d
        refine ⟨d + 1, Nat.le_refl _, by omega, fun y hy => ?_⟩
        have := znetF_mono hw y (d - y)
        rw [show y + (d - y) = d by omega] at this
        omega
  exact key 99999 (Nat.le_refl _) hm
/-- what the reference looks for -/
def zokF (q : ZRow) (f : Nat) : Bool := decide (zcH q ≤ znetF q f) && decide (zgot q (znetF q f) = zcH q)
def zhas (q : ZRow) : Option Nat := zfnd (zhun q) (q 0) 0
theorem needs_fil {q : ZRow} {i : Nat} (hi : i < q 0) (hh : zhun q i = true) (h : zclaim q i < q 4) : zfnd (zokF q) 100000 0 = none := zfnd_no _ _ (fun y _ _ => by
  unfold zokF
  rw [decide_eq_false (zgot_fil hi hh h), Bool.and_false])
theorem needs_0 {q : ZRow} (h : ∀ i, i < q 0 → zhun q i = false) : zfnd (zokF q) 100000 0 = some 0 ∧ zcH q = 0 := by
  have h1 : zcH q = 0 := zsum_z _ (fun i hi => by rw [h i hi]; rfl)
  have h2 : ∀ v, zgot q v = 0 := fun v => zsum_z _ (fun i hi => by rw [h i hi]; rfl)
  refine ⟨zfnd_eq _ _ (by omega) (by omega) ?_ (fun y _ hy => by omega), h1⟩
  unfold zokF
  rw [h1, h2]
  rfl
theorem needs_none {q : ZRow} (hw : WF q) {i : Nat} (hi : i < q 0) (hh : zhun q i = true) (h : ∀ v, zcH q ≤ v → v ≤ znetF q 99999 → zall q v = false) : zfnd (zokF q) 100000 0 = none := zfnd_no _ _ (fun y _ hy => by
  unfold zokF
  by_cases c : zcH q ≤ znetF q y
  · have hm := znetF_mono hw y (99999 - y)
    rw [show y + (99999 - y) = 99999 by omega] at hm
    rw [decide_eq_false (show ¬ zgot q (znetF q y) = zcH q from fun z => by
      have := (zgot_iff hw c hi hh).mp z
      rw [h _ c hm] at this
      cases this), Bool.and_false]
  · rw [decide_eq_false c, Bool.false_and])
theorem needs_some {q : ZRow} (hw : WF q) {i x f : Nat} (hi : i < q 0) (hh : zhun q i = true) (hx : zcH q ≤ x) (ha : zall q x = true) (hl : ∀ v, zcH q ≤ v → v < x → zall q v = false) (hf : f ≤ 99999) (hn : znetF q f = x) (hlf : ∀ y, y < f → znetF q y < x) : zfnd (zokF q) 100000 0 = some f := by
  refine zfnd_eq _ _ (by omega) (by omega) ?_ (fun y _ hy => ?_)
  · unfold zokF
    rw [hn, decide_eq_true hx, decide_eq_true ((zgot_iff hw hx hi hh).mpr ha)]
    rfl
  · unfold zokF
    by_cases c : zcH q ≤ znetF q y
    · rw [decide_eq_false (show ¬ zgot q (znetF q y) = zcH q from fun z => by
        have := (zgot_iff hw c hi hh).mp z
        rw [hl _ c (hlf y hy)] at this
        cases this), Bool.and_false]
    · rw [decide_eq_false c, Bool.false_and]
