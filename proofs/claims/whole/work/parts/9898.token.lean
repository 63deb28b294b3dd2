/-! LAYER 2: the reference's tokens -/
def TC7 (M : ZMem) (T : ZT) : Prop := M 77 7 = nI T.1 ∧ ∀ k, k < T.1 → M 81 k = nI (T.2 k)
def zan (b : Nat) : Bool := zlet b || zdg b
theorem tc7_rd {M : ZMem} {T : ZT} {β : Type} (h : TC7 M T) (hT : TT T) {k : Nat} (hk : k < T.1) (K : Int32 → Option β) : zrd M 81 400 (nI k) K = K (nI (T.2 k)) := by
  have := hT.1
  rw [zrd_at k rfl (by omega), h.2 k hk]
theorem tc7_w {M : ZMem} {T : ZT} (h : TC7 M T) {j : Nat} {x : Int32} (hj : j ≠ 7) : TC7 (zwr M 77 j x) T := ⟨by rw [wrj (Ne.symm hj)]; exact h.1, fun k hk => by rw [wrn (by omega)]; exact h.2 k hk⟩
theorem isDig10 {M : ZMem} {T : ZT} (hT : TT T) (h : TC7 M T) {k : Nat} (hk : k ≤ 400) : zf_X10_isDigit (nI k) M = some (zB (decide (k < T.1) && zdg (T.2 k))) := by
  have hl := hT.1
  unfold zf_X10_isDigit zf_X10_isDigit_j28 zf_X10_isDigit_j29
  rw [h.1, zi_le (by omega) (by omega)]
  by_cases e : T.1 ≤ k
  · rw [if_pos e, decide_eq_false (by omega)]; rfl
  · have hb := hT.2 k (by omega)
    rw [if_neg e, tc7_rd h hT (by omega), zb1_at (isIn10 _ _ _), show (48 : Int32) = nI 48 from rfl, show (57 : Int32) = nI 57 from rfl, decide_eq_true (show k < T.1 by omega)]
    unfold zdg
    by_cases e1 : T.2 k < 48
    · rw [if_pos (show nI (T.2 k) < nI 48 ∨ nI 57 < nI (T.2 k) from Or.inl ((nI_ltI (by omega) (by omega)).mpr e1)), decide_eq_false (show ¬ 48 ≤ T.2 k by omega)]; rfl
    · rw [decide_eq_true (show 48 ≤ T.2 k by omega)]
      by_cases e2 : 57 < T.2 k
      · rw [if_pos (show nI (T.2 k) < nI 48 ∨ nI 57 < nI (T.2 k) from Or.inr ((nI_ltI (by omega) (by omega)).mpr e2)), decide_eq_false (show ¬ T.2 k ≤ 57 by omega)]; rfl
      · rw [if_neg (show ¬ (nI (T.2 k) < nI 48 ∨ nI 57 < nI (T.2 k)) from fun z => by
          rcases z with z | z
          · exact e1 ((nI_ltI (by omega) (by omega)).mp z)
          · exact e2 ((nI_ltI (by omega) (by omega)).mp z)), decide_eq_true (show T.2 k ≤ 57 by omega)]; rfl
theorem isLet10 {M : ZMem} {T : ZT} (hT : TT T) (h : TC7 M T) {k : Nat} (hk : k ≤ 400) : zf_X10_isLetter (nI k) M = some (zB (decide (k < T.1) && zlet (T.2 k))) := by
  have hl := hT.1
  unfold zf_X10_isLetter zf_X10_isLetter_j28 zf_X10_isLetter_j29
  rw [h.1, zi_le (by omega) (by omega)]
  by_cases e : T.1 ≤ k
  · rw [if_pos e, decide_eq_false (by omega)]; rfl
  · have hb := hT.2 k (by omega)
    rw [if_neg e, tc7_rd h hT (by omega), zb1_at (isIn10 _ _ _), show (97 : Int32) = nI 97 from rfl, show (122 : Int32) = nI 122 from rfl, decide_eq_true (show k < T.1 by omega)]
    unfold zlet
    by_cases e1 : T.2 k < 97
    · rw [if_pos (show nI (T.2 k) < nI 97 ∨ nI 122 < nI (T.2 k) from Or.inl ((nI_ltI (by omega) (by omega)).mpr e1)), decide_eq_false (show ¬ 97 ≤ T.2 k by omega)]; rfl
    · rw [decide_eq_true (show 97 ≤ T.2 k by omega)]
      by_cases e2 : 122 < T.2 k
      · rw [if_pos (show nI (T.2 k) < nI 97 ∨ nI 122 < nI (T.2 k) from Or.inr ((nI_ltI (by omega) (by omega)).mpr e2)), decide_eq_false (show ¬ T.2 k ≤ 122 by omega)]; rfl
      · rw [if_neg (show ¬ (nI (T.2 k) < nI 97 ∨ nI 122 < nI (T.2 k)) from fun z => by
          rcases z with z | z
          · exact e1 ((nI_ltI (by omega) (by omega)).mp z)
          · exact e2 ((nI_ltI (by omega) (by omega)).mp z)), decide_eq_true (show T.2 k ≤ 122 by omega)]; rfl
theorem skip10 {T : ZT} (hT : TT T) (K : ZMem → Option ZMem) : ∀ d p m (S : ZMem), T.1 - p = d → p ≤ T.1 → d < m → TC7 S T → S 77 8 = nI p → zf_X10_nextToken_L5 K m S = K (zwr S 77 8 (nI (zrun T zbl p))) := by
  have hl := hT.1
  intro d
  induction d with
  | zero =>
    intro p m S hd hp hm h hp2
    obtain ⟨m, rfl⟩ : ∃ y, m = y + 1 := ⟨m - 1, by omega⟩
    rw [zf_X10_nextToken_L5, h.1, hp2, zi_le (by omega) (by omega), if_pos (by omega), zrun_stop (Or.inl (by omega)), zwr_same hp2]
  | succ d ih =>
    intro p m S hd hp hm h hp2
    obtain ⟨m, rfl⟩ : ∃ y, m = y + 1 := ⟨m - 1, by omega⟩
    have hb := hT.2 p (by omega)
    have go : zf_X10_nextToken_j44 S (fun x0 => zf_X10_nextToken_L5 K m x0) = K (zwr S 77 8 (nI (zrun T zbl (p + 1)))) := by
      unfold zf_X10_nextToken_j44
      rw [zput_at, hp2, nI_1]
      refine (ih (p + 1) m (zwr S 77 8 (nI (p + 1))) (by omega) (by omega) (by omega) (tc7_w h (by omega)) wre).trans ?_
      rw [zwr_zwr]
    rw [zf_X10_nextToken_L5, h.1, hp2, zi_le (by omega) (by omega), if_neg (by omega), tc7_rd h hT (by omega), tc7_rd h hT (by omega), show (32 : Int32) = nI 32 from rfl, show (10 : Int32) = nI 10 from rfl, zi_eq (by omega) (by omega), zi_eq (by omega) (by omega), go]
    by_cases e1 : T.2 p = 32
    · rw [if_pos e1, zrun_step (p := p) (by omega) (by rw [e1]; rfl)]
    · rw [if_neg e1]
      by_cases e2 : T.2 p = 10
      · rw [if_pos e2, zrun_step (p := p) (by omega) (by rw [e2]; rfl)]
      · rw [if_neg e2, zrun_stop (Or.inr (by simp [zbl, e1, e2])), zwr_same hp2]
theorem letters10 {T : ZT} (hT : TT T) (K : ZMem → Option ZMem) : ∀ d p m (S : ZMem), T.1 - p = d → p ≤ T.1 → d < m → TC7 S T → S 77 8 = nI p → zf_X10_nextToken_L176 K m S = K (zwr S 77 8 (nI (zrun T zlet p))) := by
  have hl := hT.1
  intro d
  induction d with
  | zero =>
    intro p m S hd hp hm h hp2
    obtain ⟨m, rfl⟩ : ∃ y, m = y + 1 := ⟨m - 1, by omega⟩
    rw [zf_X10_nextToken_L176, hp2, zb1_at (isLet10 hT h (by omega)), decide_eq_false (by omega), Bool.false_and, if_pos (show zB false = 0 by decide), zrun_stop (Or.inl (by omega)), zwr_same hp2]
  | succ d ih =>
    intro p m S hd hp hm h hp2
    obtain ⟨m, rfl⟩ : ∃ y, m = y + 1 := ⟨m - 1, by omega⟩
    rw [zf_X10_nextToken_L176, hp2, zb1_at (isLet10 hT h (by omega)), decide_eq_true (show p < T.1 by omega), Bool.true_and]
    cases e : zlet (T.2 p) with
    | true =>
      rw [if_neg (show ¬ zB true = 0 by decide), zput_at, nI_1, zrun_step (by omega) e]
      refine (ih (p + 1) m (zwr S 77 8 (nI (p + 1))) (by omega) (by omega) (by omega) (tc7_w h (by omega)) wre).trans ?_
      rw [zwr_zwr]
    | false => rw [if_pos (show zB false = 0 by decide), zrun_stop (Or.inr e), zwr_same hp2]
/-- the value of the digits from q up to x -/
def zkD (T : ZT) (q x : Nat) : Nat := if x - q ≤ 5 then zvl T q (x - q) else 1000000
theorem digits10 {T : ZT} (hT : TT T) {q : Nat} (K : ZMem → Option ZMem) : ∀ d x m (S : ZMem), T.1 - x = d → q ≤ x → x ≤ T.1 → d < m → TC7 S T → S 77 8 = nI x → S 77 10 = nI q → S 77 11 = nI (zkD T q x) → (∀ j, j < x - q → zdg (T.2 (q + j)) = true) → ∃ S', zf_X10_nextToken_L216 K m S = K S' ∧ S' 77 8 = nI (zrun T zdg x) ∧ S' 77 11 = nI (zkD T q (zrun T zdg x)) ∧ (∀ k, k ≠ 77 → S' k = S k) ∧ ∀ j, j ≠ 8 → j ≠ 11 → S' 77 j = S 77 j := by
  have hl := hT.1
  intro d
  induction d with
  | zero =>
    intro x m S hd hq hx hm h h8 h10 h11 hdg
    obtain ⟨m, rfl⟩ : ∃ y, m = y + 1 := ⟨m - 1, by omega⟩
    refine ⟨S, ?_, ?_, ?_, fun _ _ => rfl, fun _ _ _ => rfl⟩
    · rw [zf_X10_nextToken_L216, h8, zb1_at (isDig10 hT h (by omega)), decide_eq_false (by omega), Bool.false_and, if_pos (show zB false = 0 by decide)]
    · rw [zrun_stop (Or.inl (by omega))]; exact h8
    · rw [zrun_stop (Or.inl (by omega))]; exact h11
  | succ d ih =>
    intro x m S hd hq hx hm h h8 h10 h11 hdg
    obtain ⟨m, rfl⟩ : ∃ y, m = y + 1 := ⟨m - 1, by omega⟩
    have hb := hT.2 x (by omega)
    rw [zf_X10_nextToken_L216, h8, h10, h11, zb1_at (isDig10 hT h (by omega)), decide_eq_true (show x < T.1 by omega), Bool.true_and, pk_sub hq, show (4 : Int32) = nI 4 from rfl, zi_le (by omega) (by omega), tc7_rd h hT (by omega)]
    cases e : zdg (T.2 x) with
    | false =>
      rw [if_pos (show zB false = 0 by decide)]
      exact ⟨S, rfl, by rw [zrun_stop (Or.inr e)]; exact h8, by rw [zrun_stop (Or.inr e)]; exact h11, fun _ _ => rfl, fun _ _ _ => rfl⟩
    | true =>
      rw [if_neg (show ¬ zB true = 0 by decide)]
      have e' := e
      simp only [zdg, Bool.and_eq_true, decide_eq_true_eq] at e'
      have go : ∀ y, y = nI (zkD T q (x + 1)) → ∃ S', zf_X10_nextToken_j266 S (fun x0 => zf_X10_nextToken_L216 K m x0) y = K S' ∧ S' 77 8 = nI (zrun T zdg x) ∧ S' 77 11 = nI (zkD T q (zrun T zdg x)) ∧ (∀ k, k ≠ 77 → S' k = S k) ∧ ∀ j, j ≠ 8 → j ≠ 11 → S' 77 j = S 77 j := by
        intro y hy
        unfold zf_X10_nextToken_j266
        have w8 : zwr S 77 11 y 77 8 = nI x := by rw [wrj (by omega)]; exact h8
        rw [zput_at, zput_at, w8, nI_1, zrun_step (by omega) e]
        obtain ⟨S', a1, a2, a3, a4, a5⟩ := ih (x + 1) m (zwr (zwr S 77 11 y) 77 8 (nI (x + 1))) (by omega) (by omega) (by omega) (by omega) (tc7_w (tc7_w h (by omega)) (by omega)) wre (by rw [wrj (by omega), wrj (by omega)]; exact h10) (by rw [wrj (by omega), wre, hy]) (fun j hj => by
          by_cases g : j = x - q
          · rw [g, show q + (x - q) = x by omega]; exact e
          · exact hdg j (by omega))
        exact ⟨S', a1, a2, a3, fun k hk => by rw [a4 k hk, wrn hk, wrn hk], fun j p1 p2 => by rw [a5 j p1 p2, wrj p1, wrj p2]⟩
      by_cases c : x - q ≤ 4
      · rw [if_pos c]
        refine go _ ?_
        unfold zkD
        rw [if_pos (by omega), if_pos (by omega), show (10 : Int32) = nI 10 from rfl, show (48 : Int32) = nI 48 from rfl, pk_mul, nI_add, pk_sub (by omega), show x + 1 - q = (x - q) + 1 by omega, zvl_s, show q + (x - q) = x by omega]
        congr 1
        omega
      · rw [if_neg c]
        refine go _ ?_
        unfold zkD
        rw [if_neg (by omega)]
        rfl
/-- the token at q: its sort, where it ends, its value -/
def zkS (T : ZT) (q : Nat) : Nat := if T.1 ≤ q then 0 else if zlet (T.2 q) then 1 else if zdg (T.2 q) then 2 else 3
def zkE (T : ZT) (q : Nat) : Nat := if T.1 ≤ q then q else if zlet (T.2 q) then zrun T zlet q else if zdg (T.2 q) then zrun T zdg q else q + 1
def zkV (T : ZT) (q : Nat) : Nat := if T.1 ≤ q then 0 else if zlet (T.2 q) then 0 else if zdg (T.2 q) then zkD T q (zrun T zdg q) else T.2 q
def TKN (M : ZMem) (T : ZT) (q : Nat) : Prop := M 77 9 = nI (zkS T q) ∧ M 77 10 = nI q ∧ M 77 11 = nI (zkV T q) ∧ M 77 8 = nI (zkE T q)
/-- a word or a number that stands right behind one -/
def zglu (T : ZT) (p : Nat) : Prop := p < T.1 ∧ 0 < p ∧ zan (T.2 p) = true ∧ zan (T.2 (p - 1)) = true
theorem zan_nb {b : Nat} (h : zan b = true) : zbl b = false := by
  unfold zan at h
  rw [Bool.or_eq_true] at h
  rcases h with h | h
  · exact zlet_nb h
  · exact zdg_nb h
theorem zglu_q {T : ZT} {p : Nat} (h : zglu T p) : zrun T zbl p = p := zrun_stop (Or.inr (zan_nb h.2.2.1))
theorem token10 {S : ZMem} {T : ZT} {q n : Nat} (hT : TT T) (h : TC7 S T) (h8 : S 77 8 = nI q) (h10 : S 77 10 = nI q) (h11 : S 77 11 = nI 0) (hq : q ≤ T.1) (hn : 400 < n) : ∃ M', zf_X10_nextToken_j141 n S = some M' ∧ TKN M' T q ∧ (∀ k, k ≠ 77 → M' k = S k) ∧ ∀ j, j ≠ 8 → j ≠ 9 → j ≠ 11 → M' 77 j = S 77 j := by
  have hl := hT.1
  unfold zf_X10_nextToken_j141 TKN zkS zkE zkV
  rw [h8, h.1, zi_eq (by omega) (by omega)]
  by_cases c : q = T.1
  · rw [if_pos c, if_pos (show T.1 ≤ q by omega), if_pos (show T.1 ≤ q by omega), if_pos (show T.1 ≤ q by omega), zput_at]
    exact ⟨_, rfl, ⟨wre, by rw [wrj (by omega)]; exact h10, by rw [wrj (by omega)]; exact h11, by rw [wrj (by omega)]; exact h8⟩, fun k hk => wrn hk, fun j _ p2 _ => wrj p2⟩
  · rw [if_neg c, if_neg (show ¬ T.1 ≤ q by omega), if_neg (show ¬ T.1 ≤ q by omega), if_neg (show ¬ T.1 ≤ q by omega), zb1_at (isLet10 hT h (by omega)), zb1_at (isDig10 hT h (by omega)), decide_eq_true (show q < T.1 by omega), Bool.true_and, Bool.true_and]
    cases e1 : zlet (T.2 q) with
    | true =>
      rw [if_neg (show ¬ zB true = 0 by decide), zput_at]
      refine ⟨zwr (zwr S 77 9 1) 77 8 (nI (zrun T zlet q)), letters10 hT _ _ q n _ rfl hq (by omega) (tc7_w h (by omega)) (by rw [wrj (by omega)]; exact h8), ⟨by rw [wrj (by omega), wre]; rfl, by rw [wrj (by omega), wrj (by omega)]; exact h10, by rw [wrj (by omega), wrj (by omega)]; exact h11, wre⟩, fun k hk => by rw [wrn hk, wrn hk], fun j p1 p2 _ => by rw [wrj p1, wrj p2]⟩
    | false =>
      rw [if_pos (show zB false = 0 by decide)]
      cases e2 : zdg (T.2 q) with
      | true =>
        rw [if_neg (show ¬ zB true = 0 by decide), zput_at]
        obtain ⟨S', a1, a2, a3, a4, a5⟩ := digits10 hT (q := q) (fun M70 => zf_X10_nextToken_j310 M70) _ q n (zwr S 77 9 2) rfl (Nat.le_refl _) hq (by omega) (tc7_w h (by omega)) (by rw [wrj (by omega)]; exact h8) (by rw [wrj (by omega)]; exact h10) (by rw [wrj (by omega), h11]; unfold zkD; rw [Nat.sub_self, if_pos (by omega)]; rfl) (fun j hj => by omega)
        exact ⟨S', a1, ⟨by rw [a5 9 (by omega) (by omega), wre]; rfl, by rw [a5 10 (by omega) (by omega), wrj (by omega)]; exact h10, a3, a2⟩, fun k hk => by rw [a4 k hk, wrn hk], fun j p1 p2 p3 => by rw [a5 j p1 p3, wrj p2]⟩
      | false =>
        have w8 : zwr S 77 9 3 77 8 = nI q := by rw [wrj (by omega)]; exact h8
        have w8' : zwr (zwr S 77 9 3) 77 11 (nI (T.2 q)) 77 8 = nI q := by rw [wrj (by omega)]; exact w8
        rw [if_pos (show zB false = 0 by decide), zput_at, w8, tc7_rd (tc7_w h (by omega)) hT (by omega), zput_at, zput_at, w8', nI_1]
        refine ⟨_, rfl, ⟨by rw [wrj (by omega), wrj (by omega), wre]; rfl, by rw [wrj (by omega), wrj (by omega), wrj (by omega)]; exact h10, by rw [wrj (by omega), wre]; rfl, wre⟩, fun k hk => by rw [wrn hk, wrn hk, wrn hk], fun j p1 p2 p3 => by rw [wrj p1, wrj p3, wrj p2]⟩
theorem wrong10 {M : ZMem} (x : Int32) (h : M 77 12 = -1) : zf_X10_wrong x M = some (zwr M 77 12 x) := by
  unfold zf_X10_wrong zf_X10_wrong_j13
  rw [if_pos h, zput_at]
theorem wrong10e {M : ZMem} (x : Int32) {e : Nat} (h : M 77 12 = nI e) (he : e ≤ 400) : zf_X10_wrong x M = some M := by
  unfold zf_X10_wrong zf_X10_wrong_j13
  rw [if_neg (fun z => by rw [h] at z; exact zne1 (by omega) z)]
/-- a token is gone by -/
theorem next10 {M : ZMem} {T : ZT} {p n : Nat} (hT : TT T) (h : TC7 M T) (h8 : M 77 8 = nI p) (hp : p ≤ T.1) (h12 : M 77 12 = -1) (hn : 400 < n) : ∃ M', zf_X10_nextToken n M = some M' ∧ TKN M' T (zrun T zbl p) ∧ (zglu T p ∧ M' 77 12 = nI p ∨ ¬ zglu T p ∧ M' 77 12 = -1) ∧ (∀ k, k ≠ 77 → M' k = M k) ∧ ∀ j, (j < 8 ∨ 12 < j) → M' 77 j = M 77 j := by
  have hl := hT.1
  have hq := zrun_le (T := T) (f := zbl) hp
  unfold zf_X10_nextToken
  rw [skip10 hT _ _ p n M rfl hp (by omega) h h8, h8]
  simp only [zput_at]
  have w8 : zwr (zwr (zwr M 77 8 (nI (zrun T zbl p))) 77 10 (zwr M 77 8 (nI (zrun T zbl p)) 77 8)) 77 11 0 77 8 = nI (zrun T zbl p) := by rw [wrj (by omega), wrj (by omega), wre]
  have w10 : zwr (zwr (zwr M 77 8 (nI (zrun T zbl p))) 77 10 (zwr M 77 8 (nI (zrun T zbl p)) 77 8)) 77 11 0 77 10 = nI (zrun T zbl p) := by rw [wrj (by omega), wre, wre]
  have w11 : zwr (zwr (zwr M 77 8 (nI (zrun T zbl p))) 77 10 (zwr M 77 8 (nI (zrun T zbl p)) 77 8)) 77 11 0 77 11 = nI 0 := wre
  have w12 : zwr (zwr (zwr M 77 8 (nI (zrun T zbl p))) 77 10 (zwr M 77 8 (nI (zrun T zbl p)) 77 8)) 77 11 0 77 12 = -1 := by rw [wrj (by omega), wrj (by omega), wrj (by omega)]; exact h12
  have wC : TC7 (zwr (zwr (zwr M 77 8 (nI (zrun T zbl p))) 77 10 (zwr M 77 8 (nI (zrun T zbl p)) 77 8)) 77 11 0) T := tc7_w (tc7_w (tc7_w h (by omega)) (by omega)) (by omega)
  have wF : ∀ k, k ≠ 77 → zwr (zwr (zwr M 77 8 (nI (zrun T zbl p))) 77 10 (zwr M 77 8 (nI (zrun T zbl p)) 77 8)) 77 11 0 k = M k := fun k hk => by rw [wrn hk, wrn hk, wrn hk]
  have wJ : ∀ j, j ≠ 8 → j ≠ 10 → j ≠ 11 → zwr (zwr (zwr M 77 8 (nI (zrun T zbl p))) 77 10 (zwr M 77 8 (nI (zrun T zbl p)) 77 8)) 77 11 0 77 j = M 77 j := fun j p1 p2 p3 => by rw [wrj p3, wrj p2, wrj p1]
  generalize zwr (zwr (zwr M 77 8 (nI (zrun T zbl p))) 77 10 (zwr M 77 8 (nI (zrun T zbl p)) 77 8)) 77 11 0 = S at *
  have ok : ¬ zglu T p → ∃ M', zf_X10_nextToken_j141 n S = some M' ∧ TKN M' T (zrun T zbl p) ∧ (zglu T p ∧ M' 77 12 = nI p ∨ ¬ zglu T p ∧ M' 77 12 = -1) ∧ (∀ k, k ≠ 77 → M' k = M k) ∧ ∀ j, (j < 8 ∨ 12 < j) → M' 77 j = M 77 j := by
    intro g
    obtain ⟨M', a1, a2, a3, a4⟩ := token10 (n := n) hT wC w8 w10 w11 hq hn
    exact ⟨M', a1, a2, Or.inr ⟨g, by rw [a4 12 (by omega) (by omega) (by omega)]; exact w12⟩, fun k hk => by rw [a3 k hk, wF k hk], fun j hj => by rw [a4 j (by omega) (by omega) (by omega), wJ j (by omega) (by omega) (by omega)]⟩
  have bad : zglu T p → ∃ M', zf_X10_nextToken_j133 S n = some M' ∧ TKN M' T (zrun T zbl p) ∧ (zglu T p ∧ M' 77 12 = nI p ∨ ¬ zglu T p ∧ M' 77 12 = -1) ∧ (∀ k, k ≠ 77 → M' k = M k) ∧ ∀ j, (j < 8 ∨ 12 < j) → M' 77 j = M 77 j := by
    intro g
    unfold zf_X10_nextToken_j133
    rw [zb1_at (wrong10 _ w12), w8]
    obtain ⟨M', a1, a2, a3, a4⟩ := token10 (n := n) (S := zwr S 77 12 (nI (zrun T zbl p))) hT (tc7_w wC (by omega)) (by rw [wrj (by omega)]; exact w8) (by rw [wrj (by omega)]; exact w10) (by rw [wrj (by omega)]; exact w11) hq hn
    exact ⟨M', a1, a2, Or.inl ⟨g, by rw [a4 12 (by omega) (by omega) (by omega), wre, zglu_q g]⟩, fun k hk => by rw [a3 k hk, wrn hk, wF k hk], fun j hj => by rw [a4 j (by omega) (by omega) (by omega), wrj (by omega), wJ j (by omega) (by omega) (by omega)]⟩
  rw [w8, zi_eq (by omega) (by omega)]
  by_cases c : zrun T zbl p = p
  · rw [if_pos c, c, show (0 : Int32) = nI 0 from rfl, zi_le (by omega) (by omega)]
    rw [c] at w8
    by_cases c0 : p ≤ 0
    · rw [if_pos c0]
      rw [c] at ok
      exact ok (fun g => by have := g.2.1; omega)
    · rw [if_neg c0, zb1_at (isLet10 hT wC (by omega)), zb1_at (isDig10 hT wC (by omega))]
      unfold zf_X10_nextToken_j107
      have e8 : S 77 8 - 1 = nI (p - 1) := by rw [w8]; exact pk_sub (b := 1) (by omega)
      rw [e8, zb1_at (isLet10 hT wC (by omega)), zb1_at (isDig10 hT wC (by omega)), decide_eq_true (show p - 1 < T.1 by omega), Bool.true_and, Bool.true_and]
      rw [c] at ok bad
      have mid : (p < T.1 ∧ zan (T.2 p) = true) → ∃ M', (if zB (zlet (T.2 (p - 1))) = nI 0 then (if zB (zdg (T.2 (p - 1))) = nI 0 then zf_X10_nextToken_j141 n S else zf_X10_nextToken_j133 S n) else zf_X10_nextToken_j133 S n) = some M' ∧ TKN M' T p ∧ (zglu T p ∧ M' 77 12 = nI p ∨ ¬ zglu T p ∧ M' 77 12 = -1) ∧ (∀ k, k ≠ 77 → M' k = M k) ∧ ∀ j, (j < 8 ∨ 12 < j) → M' 77 j = M 77 j := by
        intro g
        cases e1 : zlet (T.2 (p - 1)) with
        | true =>
          rw [if_neg (show ¬ zB true = nI 0 by decide)]
          exact bad ⟨g.1, by omega, g.2, by unfold zan; rw [e1]; rfl⟩
        | false =>
          rw [if_pos (show zB false = nI 0 by decide)]
          cases e2 : zdg (T.2 (p - 1)) with
          | true =>
            rw [if_neg (show ¬ zB true = nI 0 by decide)]
            exact bad ⟨g.1, by omega, g.2, by unfold zan; rw [e1, e2]; rfl⟩
          | false =>
            rw [if_pos (show zB false = nI 0 by decide)]
            exact ok (fun z => by have := z.2.2.2; unfold zan at this; rw [e1, e2] at this; cases this)
      by_cases g : p < T.1
      · rw [decide_eq_true g, Bool.true_and, Bool.true_and]
        cases e1 : zlet (T.2 p) with
        | true =>
          rw [if_neg (show ¬ zB true = nI 0 by decide)]
          exact mid ⟨g, by unfold zan; rw [e1]; rfl⟩
        | false =>
          rw [if_pos (show zB false = nI 0 by decide)]
          cases e2 : zdg (T.2 p) with
          | true =>
            rw [if_neg (show ¬ zB true = nI 0 by decide)]
            exact mid ⟨g, by unfold zan; rw [e1, e2]; rfl⟩
          | false =>
            rw [if_pos (show zB false = nI 0 by decide)]
            exact ok (fun z => by have := z.2.2.1; unfold zan at this; rw [e1, e2] at this; cases this)
      · rw [decide_eq_false g, Bool.false_and, Bool.false_and, if_pos (show zB false = nI 0 by decide), if_pos (show zB false = nI 0 by decide)]
        exact ok (fun z => g z.1)
  · rw [if_neg c]
    exact ok (fun z => c (zglu_q z))
