/-! LAYER 2: calls that end well, loops, frames -/
def Ok {β : Type} (o : Option β) (Q : β → Prop) : Prop := ∃ b, o = some b ∧ Q b
theorem Ok.mk {β : Type} {o : Option β} {Q : β → Prop} {b : β} (h : o = some b) (q : Q b) : Ok o Q := ⟨b, h, q⟩
theorem ok_some {β : Type} {b : β} {Q : β → Prop} (q : Q b) : Ok (some b) Q := ⟨b, rfl, q⟩
theorem Ok.imp {β : Type} {o : Option β} {P Q : β → Prop} (h : Ok o P) (k : ∀ x, P x → Q x) : Ok o Q := by
  obtain ⟨x, e, p⟩ := h
  exact ⟨x, e, k x p⟩
theorem Ok.b1 {α β : Type} {o : Option α} {K : α → Option β} {P : α → Prop} {Q : β → Prop} (h : Ok o P) (k : ∀ x, P x → Ok (K x) Q) : Ok (zb1 o K) Q := by
  obtain ⟨x, rfl, p⟩ := h
  exact k x p
theorem Ok.b2 {α γ β : Type} {o : Option (α × γ)} {K : α → γ → Option β} {P : α × γ → Prop} {Q : β → Prop} (h : Ok o P) (k : ∀ x y, P (x, y) → Ok (K x y) Q) : Ok (zb2 o K) Q := by
  obtain ⟨⟨x, y⟩, rfl, p⟩ := h
  exact k x y p
/-- a loop with at most k steps more -/
theorem wloop {σ β : Type} (L : Nat → σ → Option β) (I : Nat → σ → Prop) (Q : β → Prop) (step : ∀ k s, I k s → (∀ n, Ok (L (n + 1) s) Q) ∨ ∃ k' s', k' < k ∧ I k' s' ∧ ∀ n, L (n + 1) s = L n s') : ∀ n k s, I k s → k < n → Ok (L n s) Q := by
  intro n
  induction n with
  | zero => intro k s _ h; omega
  | succ n ih =>
    intro k s hI hk
    rcases step k s hI with h | ⟨k', s', h1, h2, h3⟩
    · exact h n
    · rw [h3 n]
      exact ih k' s' h2 (by omega)
/-- a loop by a counter -/
theorem floop {σ β : Type} (L : Nat → Nat → σ → Option β) (I : Nat → σ → Prop) (m : Nat) (Q : β → Prop) (step : ∀ i s, i < m → I i s → (∃ s', I (i + 1) s' ∧ ∀ n, L (n + 1) i s = L n (i + 1) s') ∨ ∀ n, Ok (L (n + 1) i s) Q) (ends : ∀ s, I m s → ∀ n, Ok (L (n + 1) m s) Q) : ∀ n i s, i ≤ m → I i s → m - i < n → Ok (L n i s) Q := by
  intro n
  induction n with
  | zero => intro i s _ _ h; omega
  | succ n ih =>
    intro i s hi hI hk
    rcases Nat.lt_or_ge i m with g | g
    · rcases step i s g hI with ⟨s', h2, h3⟩ | h
      · rw [h3 n]
        exact ih (i + 1) s' (by omega) h2 (by omega)
      · exact h n
    · obtain rfl : i = m := by omega
      exact ends s hI n
/-- only cells lo .. hi are touched -/
def Fr (lo hi : Nat) (M M' : ZMem) : Prop := ∀ k, k < lo ∨ hi < k → M' k = M k
theorem Fr.refl (lo hi : Nat) (M : ZMem) : Fr lo hi M M := fun _ _ => rfl
theorem Fr.trans {lo hi : Nat} {A B C : ZMem} (h : Fr lo hi A B) (g : Fr lo hi B C) : Fr lo hi A C := fun k hk => (g k hk).trans (h k hk)
theorem Fr.mono {lo hi lo' hi' : Nat} {A B : ZMem} (h : Fr lo hi A B) (h1 : lo' ≤ lo) (h2 : hi ≤ hi') : Fr lo' hi' A B := fun k hk => h k (by omega)
theorem Fr.wr {lo hi : Nat} (M : ZMem) {a : Nat} (j : Nat) (x : Int32) (h1 : lo ≤ a) (h2 : a ≤ hi) : Fr lo hi M (zwr M a j x) := fun k hk => wrn (by omega)
theorem Fr.at {lo hi : Nat} {A B : ZMem} (h : Fr lo hi A B) (k j : Nat) (hk : k < lo ∨ hi < k) : B k j = A k j := by rw [h k hk]
/-- a row filled from the front -/
def zfl (M : ZMem) (o : Nat) (x : Int32) (i : Nat) : ZMem := fun b p => if b = o ∧ p < i then x else M b p
theorem zfl_0 (M : ZMem) (o : Nat) (x : Int32) : zfl M o x 0 = M := by
  funext b p
  unfold zfl
  rw [if_neg (by omega)]
theorem zfl_s (M : ZMem) (o : Nat) (x : Int32) (i : Nat) : zwr (zfl M o x i) o i x = zfl M o x (i + 1) := by
  funext b p
  rw [zwr_get]
  unfold zfl
  by_cases h : b = o
  · subst h
    by_cases h2 : p = i
    · subst h2
      rw [if_pos ⟨rfl, rfl⟩, if_pos ⟨rfl, by omega⟩]
    · rw [if_neg (fun z => h2 z.2)]
      by_cases h3 : p < i
      · rw [if_pos ⟨rfl, h3⟩, if_pos ⟨rfl, by omega⟩]
      · rw [if_neg (fun z => h3 z.2), if_neg (fun z => absurd z.2 (by omega))]
  · rw [if_neg (fun z => h z.1), if_neg (fun z => h z.1), if_neg (fun z => h z.1)]
theorem zfl_ne {M : ZMem} {o i : Nat} {x : Int32} {b : Nat} (h : b ≠ o) : zfl M o x i b = M b := by
  funext p
  unfold zfl
  rw [if_neg (fun z => h z.1)]
theorem zfl_at {M : ZMem} {o i : Nat} {x : Int32} {p : Nat} (h : p < i) : zfl M o x i o p = x := if_pos ⟨rfl, h⟩
theorem Fr.fl {lo hi : Nat} (M : ZMem) {a : Nat} (x : Int32) (i : Nat) (h1 : lo ≤ a) (h2 : a ≤ hi) : Fr lo hi M (zfl M a x i) := fun k hk => zfl_ne (by omega)
theorem fill7 {M : ZMem} {o l n : Nat} {x : Int32} (hl : l < 2147483648) (hn : l < n) : zf_J7_fill_53178 n o l x M = some (zfl M o x l) := by
  unfold zf_J7_fill_53178
  have key := zloop (fun k i (S : ZMem) => zf_J7_fill_53178_L5 l o x (fun M26 => some M26) k (nI i) S) (zfl M o x) (some (zfl M o x l)) l (fun k i hi => by
      show zf_J7_fill_53178_L5 l o x _ (k + 1) (nI i) _ = zf_J7_fill_53178_L5 l o x _ k (nI (i + 1)) _
      rw [zf_J7_fill_53178_L5, zi_le hl (by omega), if_neg (by omega), zst_at i rfl hi hl, zfl_s, nI_1]) (fun k => by
      show zf_J7_fill_53178_L5 l o x _ (k + 1) (nI l) _ = _
      rw [zf_J7_fill_53178_L5, zi_le hl hl, if_pos (Nat.le_refl _)]) n 0 (by omega) (by omega)
  rw [zfl_0] at key
  exact key
/-! and, or, xor, not of sets -/
theorem nI_not {a m : Nat} (hm : m ≤ 10) : nI (2 ^ m - 1) &&& (nI a ^^^ (-1 : Int32)) = nI ((2 ^ m - 1) &&& (a ^^^ (2 ^ m - 1))) := by
  apply Int32.toBitVec_inj.1
  show BitVec.ofNat 32 (2 ^ m - 1) &&& (BitVec.ofNat 32 a ^^^ BitVec.allOnes 32) = BitVec.ofNat 32 ((2 ^ m - 1) &&& (a ^^^ (2 ^ m - 1)))
  apply BitVec.eq_of_getLsbD_eq
  intro i hi
  simp only [BitVec.getLsbD_and, BitVec.getLsbD_xor, BitVec.getLsbD_ofNat, BitVec.getLsbD_allOnes, hi, decide_true, Bool.true_and, Nat.testBit_and, Nat.testBit_xor, Nat.testBit_two_pow_sub_one]
  by_cases h : i < m
  · simp [h]
  · simp [h]
theorem nI_andn {a b : Nat} (ha : a < 1024) (hb : b < 1024) : nI a &&& (nI b ^^^ (-1 : Int32)) = nI (a &&& (b ^^^ 1023)) := by
  apply Int32.toBitVec_inj.1
  show BitVec.ofNat 32 a &&& (BitVec.ofNat 32 b ^^^ BitVec.allOnes 32) = BitVec.ofNat 32 (a &&& (b ^^^ 1023))
  apply BitVec.eq_of_getLsbD_eq
  intro i hi
  simp only [BitVec.getLsbD_and, BitVec.getLsbD_xor, BitVec.getLsbD_ofNat, BitVec.getLsbD_allOnes, hi, decide_true, Bool.true_and, Nat.testBit_and, Nat.testBit_xor]
  by_cases h : i < 10
  · rw [show (1023 : Nat) = 2 ^ 10 - 1 by decide, Nat.testBit_two_pow_sub_one]
    simp [h]
  · rw [tb_lt (n := 10) ha (by omega)]
    simp
theorem andn_tb {a b j : Nat} (hj : j < 10) : (a &&& (b ^^^ 1023)).testBit j = (a.testBit j && !b.testBit j) := by
  rw [Nat.testBit_and, Nat.testBit_xor, show (1023 : Nat) = 2 ^ 10 - 1 by decide, Nat.testBit_two_pow_sub_one]
  simp [hj]
theorem andn_lt {a b n : Nat} (h : a < 2 ^ n) : a &&& b < 2 ^ n := Nat.lt_of_le_of_lt Nat.and_le_left h
/-- long numbers -/
theorem ev_l {a : Nat} (h : a < 2147483648) : (nI a).toInt64 = lN a := nI_l h
