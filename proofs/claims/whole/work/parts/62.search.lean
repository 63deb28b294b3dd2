/-! LAYER 2: going back, and that a new part is always the next one -/
/-- g goes on from f with parts for i, .., i + d - 1 -/
def zvx (q : ZRow) (s many i d : Nat) (f g : Nat → Nat) : Prop := (∀ j, j < i → g j = f j) ∧ ∀ j, i ≤ j → j < i + d → s.testBit j = true → g j < many ∧ zfree q s g j (g j) = true
theorem zfree_iff {q : ZRow} {s : Nat} {f : Nat → Nat} {i k : Nat} : zfree q s f i k = true ↔ ∀ j, j < i → s.testBit j = true → f j = k → (q (63 + i)).testBit j = false := by
  unfold zfree
  rw [List.all_eq_true]
  constructor
  · intro h j hj hs hk
    have := h j (List.mem_range.mpr hj)
    simp [hs, hk] at this
    exact this
  · intro h j hj
    have hj' := List.mem_range.mp hj
    by_cases hs : s.testBit j = true
    · by_cases hk : f j = k
      · simp [hs, hk, h j hj' hs hk]
      · simp [hk]
    · simp [hs]
theorem zfree_congr {q : ZRow} {s : Nat} {f g : Nat → Nat} {i k : Nat} (h : ∀ j, j < i → s.testBit j = true → f j = g j) : zfree q s f i k = zfree q s g i k := by
  apply Bool.eq_iff_iff.mpr
  rw [zfree_iff, zfree_iff]
  constructor
  · intro h1 j hj hs hk
    exact h1 j hj hs (by rw [h j hj hs]; exact hk)
  · intro h1 j hj hs hk
    exact h1 j hj hs (by rw [← h j hj hs]; exact hk)
theorem zfirst_some {α : Type} {g : Nat → Option α} {x : α} : ∀ {c k : Nat}, zfirst g c k = some x → ∃ j, k ≤ j ∧ j < k + c ∧ g j = some x
  | 0, k, h => by cases h
  | c + 1, k, h => by
    unfold zfirst at h
    split at h
    · next y hy => exact ⟨k, by omega, by omega, by rw [hy]; exact h⟩
    · obtain ⟨j, a, b, e⟩ := zfirst_some h
      exact ⟨j, by omega, by omega, e⟩
theorem zfirst_none {α : Type} {g : Nat → Option α} : ∀ {c k : Nat}, zfirst g c k = none → ∀ j, k ≤ j → j < k + c → g j = none
  | 0, k, h, j, a, b => by omega
  | c + 1, k, h, j, a, b => by
    unfold zfirst at h
    split at h
    · cases h
    · next hy =>
      by_cases e : j = k
      · rw [e]; exact hy
      · exact zfirst_none h j (by omega) (by omega)
theorem zfirst_of_none {α : Type} {g : Nat → Option α} : ∀ {c k : Nat}, (∀ j, k ≤ j → j < k + c → g j = none) → zfirst g c k = none
  | 0, k, h => rfl
  | c + 1, k, h => by
    unfold zfirst
    rw [h k (by omega) (by omega)]
    exact zfirst_of_none (fun j a b => h j (by omega) (by omega))
theorem zfirst_congr {α : Type} {g h : Nat → Option α} : ∀ {c k : Nat}, (∀ j, k ≤ j → j < k + c → g j = h j) → zfirst g c k = zfirst h c k
  | 0, k, _ => rfl
  | c + 1, k, e => by
    unfold zfirst
    rw [e k (by omega) (by omega), zfirst_congr (fun j a b => e j (by omega) (by omega))]
theorem zfirst_add {α : Type} {g : Nat → Option α} : ∀ {a b k : Nat}, (zfirst g a k = none → zfirst g b (k + a) = none) → zfirst g (a + b) k = zfirst g a k
  | 0, b, k, h => by
    have := h rfl
    rw [Nat.zero_add]
    exact this
  | a + 1, b, k, h => by
    rw [show a + 1 + b = (a + b) + 1 by omega]
    have e1 : ∀ c, zfirst g (c + 1) k = match g k with | some x => some x | none => zfirst g c (k + 1) := fun c => rfl
    rw [e1, e1]
    rw [e1] at h
    cases hk : g k with
    | some x => rfl
    | none =>
      rw [hk] at h
      exact zfirst_add (fun z => by have := h z; rw [show k + 1 + a = k + (a + 1) by omega]; exact this)
theorem zupf_eq {f : Nat → Nat} {i k : Nat} : zupf f i k i = k := if_pos rfl
theorem zupf_ne {f : Nat → Nat} {i k j : Nat} (h : j ≠ i) : zupf f i k j = f j := if_neg h
theorem zsr_sound {q : ZRow} {s many : Nat} : ∀ {d i : Nat} {f g : Nat → Nat}, zsr q s many d i f = some g → zvx q s many i d f g ∧ ∀ j, s.testBit j = false ∨ i + d ≤ j → g j = f j
  | 0, i, f, g, h => by
    cases h
    exact ⟨⟨fun _ _ => rfl, fun j a b => by omega⟩, fun _ _ => rfl⟩
  | d + 1, i, f, g, h => by
    unfold zsr at h
    by_cases hs : s.testBit i = true
    · rw [if_pos hs] at h
      obtain ⟨k, a, b, e⟩ := zfirst_some h
      by_cases hf : zfree q s f i k = true
      · rw [if_pos hf] at e
        obtain ⟨⟨h1, h2⟩, h3⟩ := zsr_sound e
        have hi : g i = k := by rw [h1 i (by omega), zupf_eq]
        have hlt : ∀ j, j < i → g j = f j := fun j hj => by rw [h1 j (by omega), zupf_ne (by omega)]
        refine ⟨⟨hlt, fun j c e hj => ?_⟩, fun j hj => ?_⟩
        · by_cases ei : j = i
          · subst ei
            rw [hi]
            refine ⟨by omega, ?_⟩
            rw [zfree_congr (g := f) (fun j' hj' _ => hlt j' hj')]
            exact hf
          · exact h2 j (by omega) (by omega) hj
        · have hji : j ≠ i := fun z => by
            subst z
            rcases hj with hj | hj
            · rw [hs] at hj; cases hj
            · omega
          rw [h3 j (hj.imp id (fun z => by omega)), zupf_ne hji]
      · rw [if_neg hf] at e; cases e
    · rw [if_neg hs] at h
      obtain ⟨⟨h1, h2⟩, h3⟩ := zsr_sound h
      refine ⟨⟨fun j hj => h1 j (by omega), fun j c e hj => ?_⟩, fun j hj => h3 j (hj.imp id (fun z => by omega))⟩
      by_cases ei : j = i
      · subst ei; exact absurd hj hs
      · exact h2 j (by omega) (by omega) hj
theorem zsr_complete {q : ZRow} {s many : Nat} : ∀ {d i : Nat} {f g : Nat → Nat}, zsr q s many d i f = none → (∀ j, j < i → s.testBit j = true → g j = f j) → (∀ j, i ≤ j → j < i + d → s.testBit j = true → g j < many ∧ zfree q s g j (g j) = true) → False
  | 0, i, f, g, h, _, _ => by cases h
  | d + 1, i, f, g, h, h1, h2 => by
    unfold zsr at h
    by_cases hs : s.testBit i = true
    · rw [if_pos hs] at h
      obtain ⟨h3, h4⟩ := h2 i (by omega) (by omega) hs
      have e := zfirst_none h (g i) (by omega) (by omega)
      have hf : zfree q s f i (g i) = true := by rw [← zfree_congr (f := g) (fun j hj hsj => h1 j hj hsj)]; exact h4
      have e2 : zsr q s many d (i + 1) (zupf f i (g i)) = none := by
        have e3 := e
        simp only [hf, if_true] at e3
        exact e3
      refine zsr_complete e2 (fun j hj hsj => ?_) (fun j a b c => h2 j (by omega) (by omega) c)
      by_cases ei : j = i
      · subst ei; rw [zupf_eq]
      · rw [zupf_ne ei]; exact h1 j (by omega) hsj
    · rw [if_neg hs] at h
      refine zsr_complete h (fun j hj hsj => ?_) (fun j a b c => h2 j (by omega) (by omega) c)
      by_cases ei : j = i
      · subst ei; exact absurd hsj hs
      · exact h1 j (by omega) hsj
/-- the same, a new part being the next one -/
def zsrR (q : ZRow) (s many : Nat) : Nat → Nat → Nat → (Nat → Nat) → Option (Nat → Nat)
  | 0, _, _, f => some f
  | d + 1, i, o, f => if s.testBit i then zfirst (fun k => if zfree q s f i k then zsrR q s many d (i + 1) (max o (k + 1)) (zupf f i k) else none) (min (o + 1) many) 0 else zsrR q s many d (i + 1) o f
def zswap (a b x : Nat) : Nat := if x = a then b else if x = b then a else x
theorem zsrR_eq {q : ZRow} {s many : Nat} : ∀ {d i o : Nat} {f : Nat → Nat}, (∀ j, j < i → s.testBit j = true → f j < o) → zsrR q s many d i o f = zsr q s many d i f
  | 0, i, o, f, _ => rfl
  | d + 1, i, o, f, h => by
    unfold zsrR zsr
    by_cases hs : s.testBit i = true
    · rw [if_pos hs, if_pos hs]
      have e1 : zfirst (fun k => if zfree q s f i k then zsrR q s many d (i + 1) (max o (k + 1)) (zupf f i k) else none) (min (o + 1) many) 0 = zfirst (fun k => if zfree q s f i k then zsr q s many d (i + 1) (zupf f i k) else none) (min (o + 1) many) 0 := by
        apply zfirst_congr
        intro k a b
        by_cases hf : zfree q s f i k = true
        · rw [if_pos hf, if_pos hf]
          apply zsrR_eq
          intro j hj hsj
          by_cases ei : j = i
          · subst ei; rw [zupf_eq]; omega
          · rw [zupf_ne ei]
            have := h j (by omega) hsj
            omega
        · rw [if_neg hf, if_neg hf]
      rw [e1]
      by_cases hm : many ≤ o + 1
      · rw [Nat.min_eq_right hm]
      · rw [Nat.min_eq_left (by omega)]
        have e2 := zfirst_add (g := fun k => if zfree q s f i k then zsr q s many d (i + 1) (zupf f i k) else none) (a := o + 1) (b := many - (o + 1)) (k := 0) (fun hn => by
          apply zfirst_of_none
          intro k a b
          have hno := zfirst_none hn o (by omega) (by omega)
          have hfo : zfree q s f i o = true := zfree_iff.mpr (fun j hj hsj e => by have := h j hj hsj; omega)
          simp only [hfo, if_true] at hno
          show (if zfree q s f i k then zsr q s many d (i + 1) (zupf f i k) else none) = none
          by_cases hf : zfree q s f i k = true
          · rw [if_pos hf]
            cases hg : zsr q s many d (i + 1) (zupf f i k) with
            | none => rfl
            | some g =>
              exfalso
              obtain ⟨⟨h1, h2⟩, h3⟩ := zsr_sound hg
              have hgi : g i = k := by rw [h1 i (by omega), zupf_eq]
              have hgl : ∀ j, j < i → g j = f j := fun j hj => by rw [h1 j (by omega), zupf_ne (by omega)]
              have hinj : ∀ x y, zswap o k x = zswap o k y → x = y := by
                intro x y e
                unfold zswap at e
                split at e <;> split at e <;> (try split at e) <;> (try split at e) <;> omega
              refine zsr_complete (g := fun j => zswap o k (g j)) hno (fun j hj hsj => ?_) (fun j c e hsj => ?_)
              · show zswap o k (g j) = _
                by_cases ei : j = i
                · subst ei
                  rw [hgi, zupf_eq]
                  unfold zswap
                  rw [if_neg (by omega), if_pos rfl]
                · rw [zupf_ne ei, hgl j (by omega)]
                  have := h j (by omega) hsj
                  unfold zswap
                  rw [if_neg (by omega), if_neg (by omega)]
              · obtain ⟨h4, h5⟩ := h2 j (by omega) (by omega) hsj
                refine ⟨?_, ?_⟩
                · show zswap o k (g j) < many
                  unfold zswap
                  split
                  · omega
                  · split <;> omega
                · rw [zfree_iff] at h5 ⊢
                  intro j' hj' hsj' e'
                  exact h5 j' hj' hsj' (hinj _ _ e')
          · rw [if_neg hf])
        rw [show o + 1 + (many - (o + 1)) = many by omega] at e2
        exact e2.symm
    · rw [if_neg hs, if_neg hs]
      apply zsrR_eq
      intro j hj hsj
      by_cases ei : j = i
      · subst ei; exact absurd hsj hs
      · exact h j (by omega) hsj
theorem zfit_all {q : ZRow} {s : Nat} : zfit q s (q 0) ≠ none := fun h => by
  refine zsr_complete (g := fun j => j) h (fun j hj => by omega) (fun j a b _ => ⟨by omega, zfree_iff.mpr (fun j' hj' _ e => ?_)⟩)
  have : j' = j := e
  omega
theorem zfit_sound {q : ZRow} {s many : Nat} {f : Nat → Nat} (h : zfit q s many = some f) : (∀ j, j < q 0 → s.testBit j = true → f j < many ∧ ∀ j', j' < j → s.testBit j' = true → f j' = f j → (q (63 + j)).testBit j' = false) ∧ ∀ j, s.testBit j = false → f j = 0 := by
  obtain ⟨⟨h1, h2⟩, h3⟩ := zsr_sound h
  exact ⟨fun j hj hs => ⟨(h2 j (by omega) (by omega) hs).1, zfree_iff.mp (h2 j (by omega) (by omega) hs).2⟩, fun j hs => h3 j (Or.inl hs)⟩
theorem zdivF_spec {q : ZRow} {s : Nat} : ∀ {c k : Nat}, k ≤ q 0 → q 0 < k + c → (∀ j, j < k → zfit q s j = none) → (zdivF q s c k).1 ≤ q 0 ∧ zfit q s (zdivF q s c k).1 = some (zdivF q s c k).2 ∧ ∀ j, j < (zdivF q s c k).1 → zfit q s j = none
  | 0, k, h1, h2, _ => by omega
  | c + 1, k, h1, h2, h3 => by
    unfold zdivF
    cases hz : zfit q s k with
    | some f => exact ⟨h1, hz, h3⟩
    | none =>
      have hk : k ≠ q 0 := fun z => zfit_all (q := q) (s := s) (by rw [← z]; exact hz)
      exact zdivF_spec (by omega) (by omega) (fun j hj => by
        by_cases e : j = k
        · rw [e]; exact hz
        · exact h3 j (by omega))
theorem zdv_spec {q : ZRow} {s : Nat} (h : q 0 ≤ 10) : (zdv q s).1 ≤ q 0 ∧ zfit q s (zdv q s).1 = some (zdv q s).2 ∧ ∀ j, j < (zdv q s).1 → zfit q s j = none := zdivF_spec (by omega) (by omega) (fun j hj => by omega)
