/-! LAYER 2: reading a tape -/
def zbl (b : Nat) : Bool := b == 32 || b == 10
def zlet (b : Nat) : Bool := decide (97 ≤ b) && decide (b ≤ 122)
def zdg (b : Nat) : Bool := decide (48 ≤ b) && decide (b ≤ 57)
def zrunF (T : ZT) (f : Nat → Bool) : Nat → Nat → Nat
  | 0, p => p
  | d + 1, p => if f (T.2 p) then zrunF T f d (p + 1) else p
def zrun (T : ZT) (f : Nat → Bool) (p : Nat) : Nat := zrunF T f (T.1 - p) p
theorem zrunF_s (T : ZT) (f : Nat → Bool) (d p : Nat) : zrunF T f (d + 1) p = if f (T.2 p) then zrunF T f d (p + 1) else p := rfl
theorem zrun_step {T : ZT} {f : Nat → Bool} {p : Nat} (h : p < T.1) (hf : f (T.2 p) = true) : zrun T f p = zrun T f (p + 1) := by
  unfold zrun
  rw [show T.1 - p = (T.1 - (p + 1)) + 1 by omega, zrunF_s, if_pos hf]
theorem zrun_stop {T : ZT} {f : Nat → Bool} {p : Nat} (h : T.1 ≤ p ∨ f (T.2 p) = false) : zrun T f p = p := by
  unfold zrun
  by_cases hp : T.1 ≤ p
  · rw [show T.1 - p = 0 by omega]
    rfl
  · rw [show T.1 - p = (T.1 - (p + 1)) + 1 by omega, zrunF_s, if_neg (fun z => by rcases h with h | h; exact hp h; rw [h] at z; cases z)]
theorem zrun_ind {T : ZT} {f : Nat → Bool} {P : Nat → Nat → Prop} (h0 : ∀ p, (T.1 ≤ p ∨ f (T.2 p) = false) → P p p) (h1 : ∀ p q, p < T.1 → f (T.2 p) = true → p + 1 ≤ q → P (p + 1) q → P p q) (p : Nat) : P p (zrun T f p) ∧ p ≤ zrun T f p := by
  have key : ∀ d p, T.1 - p = d → P p (zrun T f p) ∧ p ≤ zrun T f p := by
    intro d
    induction d with
    | zero => intro p hp; rw [zrun_stop (Or.inl (by omega))]; exact ⟨h0 p (Or.inl (by omega)), Nat.le_refl _⟩
    | succ d ih =>
      intro p hp
      by_cases hf : f (T.2 p) = true
      · obtain ⟨i1, i2⟩ := ih (p + 1) (by omega)
        rw [zrun_step (by omega) hf]
        exact ⟨h1 p _ (by omega) hf i2 i1, by omega⟩
      · have hf2 : f (T.2 p) = false := by simpa using hf
        rw [zrun_stop (Or.inr hf2)]
        exact ⟨h0 p (Or.inr hf2), Nat.le_refl _⟩
  exact key _ p rfl
theorem zrun_ge (T : ZT) (f : Nat → Bool) (p : Nat) : p ≤ zrun T f p := (zrun_ind (P := fun _ _ => True) (fun _ _ => trivial) (fun _ _ _ _ _ _ => trivial) p).2
theorem zrun_le {T : ZT} {f : Nat → Bool} {p : Nat} (h : p ≤ T.1) : zrun T f p ≤ T.1 :=
  (zrun_ind (P := fun p q => p ≤ T.1 → q ≤ T.1) (fun p _ h => h) (fun p q a b c d e => d (by omega)) p).1 h
theorem zrun_mem {T : ZT} {f : Nat → Bool} {p k : Nat} (h : p ≤ k) (hk : k < zrun T f p) : f (T.2 k) = true :=
  (zrun_ind (P := fun p q => ∀ k, p ≤ k → k < q → f (T.2 k) = true) (fun p _ k a b => by omega) (fun p q a b c d k e g => by
    by_cases z : k = p
    · rw [z]; exact b
    · exact d k (by omega) g) p).1 k h hk
theorem zrun_end {T : ZT} {f : Nat → Bool} {p : Nat} (h : zrun T f p < T.1) : f (T.2 (zrun T f p)) = false :=
  (zrun_ind (P := fun _ q => q < T.1 → f (T.2 q) = false) (fun p z h => by rcases z with z | z; omega; exact z) (fun p q a b c d => d) p).1 h
theorem zrun_in {T : ZT} {f : Nat → Bool} {p : Nat} (h : p < T.1) (hf : f (T.2 p) = true) : p + 1 ≤ zrun T f p := by
  rw [zrun_step h hf]
  exact zrun_ge _ _ _
/-- the value of k digits from q on -/
def zvl (T : ZT) (q : Nat) : Nat → Nat
  | 0 => 0
  | k + 1 => 10 * zvl T q k + (T.2 (q + k) - 48)
theorem zvl_s (T : ZT) (q k : Nat) : zvl T q (k + 1) = 10 * zvl T q k + (T.2 (q + k) - 48) := rfl
theorem zvl_lt {T : ZT} {q : Nat} : ∀ k, (∀ j, j < k → zdg (T.2 (q + j)) = true) → zvl T q k < 10 ^ k
  | 0, _ => Nat.zero_lt_one
  | k + 1, h => by
    have h1 := zvl_lt k (fun j hj => h j (by omega))
    have h2 := h k (by omega)
    simp only [zdg, Bool.and_eq_true, decide_eq_true_eq] at h2
    rw [zvl_s, Nat.pow_succ]
    omega
/-- a number after p: its value and where it ends -/
def zN (T : ZT) (p lo hi : Nat) : Option (Nat × Nat) :=
  if zrun T zbl p < T.1 ∧ zdg (T.2 (zrun T zbl p)) = true ∧ 0 < zrun T zbl p ∧ zbl (T.2 (zrun T zbl p - 1)) = true ∧ zrun T zdg (zrun T zbl p) - zrun T zbl p ≤ 5 ∧ lo ≤ zvl T (zrun T zbl p) (zrun T zdg (zrun T zbl p) - zrun T zbl p) ∧ zvl T (zrun T zbl p) (zrun T zdg (zrun T zbl p) - zrun T zbl p) < hi then some (zvl T (zrun T zbl p) (zrun T zdg (zrun T zbl p) - zrun T zbl p), zrun T zdg (zrun T zbl p)) else none
/-- the class's reader -/
theorem tc9_rd {M : ZMem} {T : ZT} {β : Type} (h : TC9 M T) (hT : TT T) {k : Nat} (hk : k < T.1) (K : Int32 → Option β) : zrd M 43 400 (nI k) K = K (nI (T.2 k)) := by
  have := hT.1
  rw [zrd_at k rfl (by omega), h.2 k hk]
theorem tc9_w {M : ZMem} {T : ZT} (h : TC9 M T) {j : Nat} {x : Int32} (hj : j ≠ 1) : TC9 (zwr M 42 j x) T := ⟨by rw [wrj (Ne.symm hj)]; exact h.1, fun k hk => by rw [wrn (by omega)]; exact h.2 k hk⟩
theorem skip9 {M : ZMem} {T : ZT} (hT : TT T) {p n : Nat} (h : TC9 M T) (hp : M 42 2 = nI p) (hpT : p ≤ T.1) (hn : 400 < n) : zf_X4_skipBlanks n M = some (zwr M 42 2 (nI (zrun T zbl p))) := by
  have hl := hT.1
  have key : ∀ d p m (S : ZMem), T.1 - p = d → p ≤ T.1 → d < m → TC9 S T → S 42 2 = nI p → zf_X4_skipBlanks_L0 (fun M29 => some M29) m S = some (zwr S 42 2 (nI (zrun T zbl p))) := by
    intro d
    induction d with
    | zero =>
      intro p m S hd hp hm h hp2
      obtain ⟨m, rfl⟩ : ∃ y, m = y + 1 := ⟨m - 1, by omega⟩
      rw [zf_X4_skipBlanks_L0, h.1, hp2, zi_le (by omega) (by omega), if_pos (by omega), zrun_stop (Or.inl (by omega)), zwr_same hp2]
    | succ d ih =>
      intro p m S hd hp hm h hp2
      obtain ⟨m, rfl⟩ : ∃ y, m = y + 1 := ⟨m - 1, by omega⟩
      have hb := hT.2 p (by omega)
      have go : zf_X4_skipBlanks_j39 S (fun x0 => zf_X4_skipBlanks_L0 (fun M29 => some M29) m x0) = some (zwr S 42 2 (nI (zrun T zbl (p + 1)))) := by
        unfold zf_X4_skipBlanks_j39
        rw [zput_at, hp2, nI_1]
        refine (ih (p + 1) m (zwr S 42 2 (nI (p + 1))) (by omega) (by omega) (by omega) (tc9_w h (by omega)) wre).trans ?_
        rw [zwr_zwr]
      rw [zf_X4_skipBlanks_L0, h.1, hp2, zi_le (by omega) (by omega), if_neg (by omega), tc9_rd h hT (by omega), tc9_rd h hT (by omega), show (32 : Int32) = nI 32 from rfl, show (10 : Int32) = nI 10 from rfl, zi_eq (by omega) (by omega), zi_eq (by omega) (by omega), go]
      by_cases e1 : T.2 p = 32
      · rw [if_pos e1, zrun_step (p := p) (by omega) (by rw [e1]; rfl)]
      · rw [if_neg e1]
        by_cases e2 : T.2 p = 10
        · rw [if_pos e2, zrun_step (p := p) (by omega) (by rw [e2]; rfl)]
        · rw [if_neg e2, zrun_stop (Or.inr (by simp [zbl, e1, e2])), zwr_same hp2]
  exact key _ p n M rfl hpT (by omega) h hp
theorem isDig9 {M : ZMem} {T : ZT} (hT : TT T) (h : TC9 M T) {k : Nat} (hk : k ≤ 400) : zf_X4_isDigitAt (nI k) M = some (zB (decide (k < T.1) && zdg (T.2 k))) := by
  have hl := hT.1
  unfold zf_X4_isDigitAt zf_X4_isDigitAt_j38 zf_X4_isDigitAt_j39
  rw [if_neg (show ¬ nI k < 0 from nI_pos (by omega)), h.1, zi_le (by omega) (by omega)]
  by_cases e : T.1 ≤ k
  · rw [if_pos e, decide_eq_false (by omega)]; rfl
  · have hb := hT.2 k (by omega)
    rw [if_neg e, tc9_rd h hT (by omega), tc9_rd h hT (by omega), show (48 : Int32) = nI 48 from rfl, show (57 : Int32) = nI 57 from rfl, zi_lt (by omega) (by omega), zi_lt (by omega) (by omega), decide_eq_true (show k < T.1 by omega)]
    unfold zdg
    by_cases e1 : T.2 k < 48
    · rw [if_pos e1, decide_eq_false (show ¬ 48 ≤ T.2 k by omega)]; rfl
    · rw [if_neg e1, decide_eq_true (show 48 ≤ T.2 k by omega)]
      by_cases e2 : 57 < T.2 k
      · rw [if_pos e2, decide_eq_false (show ¬ T.2 k ≤ 57 by omega)]; rfl
      · rw [if_neg e2, decide_eq_true (show T.2 k ≤ 57 by omega)]; rfl
theorem isLet9 {M : ZMem} {T : ZT} (hT : TT T) (h : TC9 M T) {k : Nat} (hk : k ≤ 400) : zf_X4_isLetterAt (nI k) M = some (zB (decide (k < T.1) && zlet (T.2 k))) := by
  have hl := hT.1
  unfold zf_X4_isLetterAt zf_X4_isLetterAt_j38 zf_X4_isLetterAt_j39
  rw [if_neg (show ¬ nI k < 0 from nI_pos (by omega)), h.1, zi_le (by omega) (by omega)]
  by_cases e : T.1 ≤ k
  · rw [if_pos e, decide_eq_false (by omega)]; rfl
  · have hb := hT.2 k (by omega)
    rw [if_neg e, tc9_rd h hT (by omega), tc9_rd h hT (by omega), show (97 : Int32) = nI 97 from rfl, show (122 : Int32) = nI 122 from rfl, zi_lt (by omega) (by omega), zi_lt (by omega) (by omega), decide_eq_true (show k < T.1 by omega)]
    unfold zlet
    by_cases e1 : T.2 k < 97
    · rw [if_pos e1, decide_eq_false (show ¬ 97 ≤ T.2 k by omega)]; rfl
    · rw [if_neg e1, decide_eq_true (show 97 ≤ T.2 k by omega)]
      by_cases e2 : 122 < T.2 k
      · rw [if_pos e2, decide_eq_false (show ¬ T.2 k ≤ 122 by omega)]; rfl
      · rw [if_neg e2, decide_eq_true (show T.2 k ≤ 122 by omega)]; rfl
theorem isBl9 {M : ZMem} {T : ZT} (hT : TT T) (h : TC9 M T) {k : Nat} (hk : k ≤ 400) : zf_X4_isBlankAt (nI k - 1) M = some (zB (decide (0 < k) && decide (k - 1 < T.1) && zbl (T.2 (k - 1)))) := by
  have hl := hT.1
  unfold zf_X4_isBlankAt zf_X4_isBlankAt_j34 zf_X4_isBlankAt_j38 zf_X4_isBlankAt_j39
  by_cases e0 : k = 0
  · subst e0
    rw [if_pos (by decide)]; rfl
  · rw [show nI k - 1 = nI (k - 1) from pk_sub (b := 1) (by omega), if_neg (show ¬ nI (k - 1) < 0 from nI_pos (by omega)), h.1, zi_le (by omega) (by omega), decide_eq_true (show 0 < k by omega)]
    by_cases e : T.1 ≤ k - 1
    · rw [if_pos e, decide_eq_false (show ¬ k - 1 < T.1 by omega)]; rfl
    · have hb := hT.2 (k - 1) (by omega)
      rw [if_neg e, tc9_rd h hT (by omega), tc9_rd h hT (by omega), show (32 : Int32) = nI 32 from rfl, show (10 : Int32) = nI 10 from rfl, zi_eq (by omega) (by omega), zi_eq (by omega) (by omega), decide_eq_true (show k - 1 < T.1 by omega)]
      by_cases e1 : T.2 (k - 1) = 32
      · rw [if_pos e1, e1]; rfl
      · rw [if_neg e1]
        by_cases e2 : T.2 (k - 1) = 10
        · rw [if_pos e2, e2]; rfl
        · rw [if_neg e2, show zbl (T.2 (k - 1)) = false by simp [zbl, e1, e2]]; rfl
theorem wordEnd9 {M : ZMem} {T : ZT} (hT : TT T) {p n : Nat} (h : TC9 M T) (hpT : p ≤ T.1) (hn : 400 < n) : zf_X4_wordEnd n (nI p) M = some (nI (zrun T zlet p)) := by
  have hl := hT.1
  have key : ∀ d p m, T.1 - p = d → p ≤ T.1 → d < m → zf_X4_wordEnd_L2 M (fun v25 => some v25) m (nI p) = some (nI (zrun T zlet p)) := by
    intro d
    induction d with
    | zero =>
      intro p m hd hp hm
      obtain ⟨m, rfl⟩ : ∃ y, m = y + 1 := ⟨m - 1, by omega⟩
      rw [zf_X4_wordEnd_L2, h.1, zi_le (by omega) (by omega), if_pos (by omega), zrun_stop (Or.inl (by omega))]
    | succ d ih =>
      intro p m hd hp hm
      obtain ⟨m, rfl⟩ : ∃ y, m = y + 1 := ⟨m - 1, by omega⟩
      rw [zf_X4_wordEnd_L2, h.1, zi_le (by omega) (by omega), if_neg (by omega), zb1_at (isLet9 hT h (by omega)), decide_eq_true (show p < T.1 by omega), Bool.true_and]
      cases e : zlet (T.2 p) with
      | true => rw [if_neg (by decide), nI_1, ih (p + 1) m (by omega) (by omega) (by omega), zrun_step (by omega) e]
      | false => rw [if_pos (by decide), zrun_stop (Or.inr e)]
  exact key _ p n rfl hpT (by omega)
theorem zne1 {e : Nat} (he : e ≤ 1000) : ¬ nI e = -1 := fun z => nI_pos (show e < 2 ^ 31 by omega) (by rw [z]; decide)
theorem right9 {M : ZMem} (h : M 42 4 = -1) : zf_X4_isRight M = some 1 := by
  unfold zf_X4_isRight zf_X4_isRight_j13
  rw [if_pos h]
  rfl
theorem wrong9 {M : ZMem} {e : Nat} (h : M 42 4 = nI e) (he : e ≤ 400) : zf_X4_isRight M = some 0 := by
  unfold zf_X4_isRight zf_X4_isRight_j13
  rw [if_neg (fun z => by rw [h] at z; exact zne1 (by omega) z)]
  rfl
theorem fail9 {M : ZMem} (x : Int32) (h : M 42 4 = -1) : zf_X4_fail x M = some (zwr M 42 4 x) := by
  unfold zf_X4_fail zf_X4_fail_j13
  rw [if_pos h, zput_at]
theorem fail9e {M : ZMem} (x : Int32) {e : Nat} (h : M 42 4 = nI e) (he : e ≤ 400) : zf_X4_fail x M = some M := by
  unfold zf_X4_fail zf_X4_fail_j13
  rw [if_neg (fun z => by rw [h] at z; exact zne1 (by omega) z)]
