/-! LAYER 2: the reference's words -/
def zv27 (T : ZT) (q : Nat) : Nat → Nat
  | 0 => 0
  | k + 1 => 27 * zv27 T q k + (T.2 (q + k) - 96)
theorem zv27_s (T : ZT) (q k : Nat) : zv27 T q (k + 1) = 27 * zv27 T q k + (T.2 (q + k) - 96) := rfl
def zl27 (l : List Nat) : Nat → Nat
  | 0 => 0
  | k + 1 => 27 * zl27 l k + (l.getD k 0 - 96)
theorem zl27_s (l : List Nat) (k : Nat) : zl27 l (k + 1) = 27 * zl27 l k + (l.getD k 0 - 96) := rfl
theorem zv27_lt {T : ZT} {q : Nat} : ∀ k, (∀ j, j < k → zlet (T.2 (q + j)) = true) → zv27 T q k < 27 ^ k
  | 0, _ => Nat.zero_lt_one
  | k + 1, h => by
    have h1 := zv27_lt k (fun j hj => h j (by omega))
    have h2 := h k (by omega)
    simp only [zlet, Bool.and_eq_true, decide_eq_true_eq] at h2
    rw [zv27_s, Nat.pow_succ]
    omega
theorem zv27_eq {T : ZT} {q : Nat} {l : List Nat} : ∀ k m, (∀ j, j < k → zlet (T.2 (q + j)) = true) → (∀ j, j < m → zlet (l.getD j 0) = true) → zv27 T q k = zl27 l m → k = m ∧ ∀ j, j < k → T.2 (q + j) = l.getD j 0
  | 0, 0, _, _, _ => ⟨rfl, fun j hj => by omega⟩
  | 0, m + 1, _, h2, h => by
    have g := h2 m (by omega)
    simp only [zlet, Bool.and_eq_true, decide_eq_true_eq] at g
    have h' : 0 = 27 * zl27 l m + (l.getD m 0 - 96) := h
    omega
  | k + 1, 0, h1, _, h => by
    have g := h1 k (by omega)
    simp only [zlet, Bool.and_eq_true, decide_eq_true_eq] at g
    have h' : 27 * zv27 T q k + (T.2 (q + k) - 96) = 0 := h
    omega
  | k + 1, m + 1, h1, h2, h => by
    have g1 := h1 k (by omega)
    have g2 := h2 m (by omega)
    simp only [zlet, Bool.and_eq_true, decide_eq_true_eq] at g1 g2
    have h' : 27 * zv27 T q k + (T.2 (q + k) - 96) = 27 * zl27 l m + (l.getD m 0 - 96) := h
    have e1 : zv27 T q k = zl27 l m := by omega
    have e2 : T.2 (q + k) = l.getD m 0 := by omega
    obtain ⟨i1, i2⟩ := zv27_eq k m (fun j hj => h1 j (by omega)) (fun j hj => h2 j (by omega)) e1
    refine ⟨by omega, fun j hj => ?_⟩
    by_cases z : j = k
    · rw [z, e2, i1]
    · exact i2 j (by omega)
theorem zl27_of {T : ZT} {q : Nat} {l : List Nat} : ∀ k, (∀ j, j < k → T.2 (q + j) = l.getD j 0) → zv27 T q k = zl27 l k
  | 0, _ => rfl
  | k + 1, h => by
    rw [zv27_s, zl27_s, zl27_of k (fun j hj => h j (by omega)), h k (by omega)]
/-- the number of a word of the reference -/
def zwn (s : Nat) : Nat := [133789, 4514, 6476969, 400557, 232600981, 1277870079, 189450486, 37396683146, 79].getD s 0
theorem zwn_eq : ∀ s, s < 9 → zwn s = zl27 (zwd s) (zwd s).length ∧ (zwd s).length ≤ 8 ∧ zwn s < 282429536481 := by decide +kernel
theorem zwd_let : ∀ s, s < 9 → ∀ j, j < 8 → j < (zwd s).length → zlet ((zwd s).getD j 0) = true := by decide +kernel
theorem lcmp0 {α : Type} {a b : Nat} (ha : a < 2 ^ 63) (hb : b < 2 ^ 63) (A B : α) : (if lg_cmp (lN a) (lN b) = 0 then A else B) = if a = b then A else B := by
  by_cases h : a = b
  · rw [if_pos h, if_pos ((lg_cmp_eq _ _).mpr (by rw [h]))]
  · rw [if_neg h, if_neg (fun z => h ((pk_lEQ ha hb).mp ((lg_cmp_eq _ _).mp z)))]
theorem isWord10 {M : ZMem} {T : ZT} {q s n : Nat} (hT : TT T) (h : TC7 M T) (hk : TKN M T q) (hq : q ≤ T.1) (hs : s < 9) (hn : 400 < n) : zf_X10_isWord n (lN (zwn s)) M = some (zB ((decide (q < T.1) && zlet (T.2 q)) && zisw T q (zrun T zlet q) s)) := by
  have hl := hT.1
  obtain ⟨k1, k2, k3, k4⟩ := hk
  obtain ⟨w1, w2, w3⟩ := zwn_eq s hs
  unfold zf_X10_isWord
  by_cases c : q < T.1 ∧ zlet (T.2 q) = true
  · have e1 : zkS T q = 1 := by unfold zkS; rw [if_neg (by omega), if_pos c.2]
    have e2 : zkE T q = zrun T zlet q := by unfold zkE; rw [if_neg (by omega), if_pos c.2]
    rw [e1] at k1
    rw [e2] at k4
    have he := zrun_le (T := T) (f := zlet) hq
    have hg := zrun_ge T zlet q
    have hlet : ∀ j, q ≤ j → j < zrun T zlet q → zlet (T.2 j) = true := fun j a b => zrun_mem a b
    have loop : ∀ d x m (K : Int64 → Option Int32), x + d = min (zrun T zlet q - q) 9 → d < m → zf_X10_isWord_L8 M K m (lN (zv27 T q x)) (nI (q + x)) = K (lN (zv27 T q (min (zrun T zlet q - q) 9))) := by
      intro d
      induction d with
      | zero =>
        intro x m K hx hm
        obtain ⟨m, rfl⟩ : ∃ y, m = y + 1 := ⟨m - 1, by omega⟩
        rw [zf_X10_isWord_L8, k1, k4, k2, if_pos (show nI 1 = 1 from rfl), zi_le (by omega) (by omega), show (9 : Int32) = nI 9 from rfl, nI_add, zi_le (by omega) (by omega), ← hx, Nat.add_zero]
        by_cases g : zrun T zlet q ≤ q + x
        · rw [if_pos g]; rfl
        · rw [if_neg g, if_pos (by omega)]; rfl
      | succ d ih =>
        intro x m K hx hm
        obtain ⟨m, rfl⟩ : ∃ y, m = y + 1 := ⟨m - 1, by omega⟩
        have hb := hT.2 (q + x) (by omega)
        have hz := hlet (q + x) (by omega) (by omega)
        simp only [zlet, Bool.and_eq_true, decide_eq_true_eq] at hz
        rw [zf_X10_isWord_L8, k1, k4, k2, if_pos (show nI 1 = 1 from rfl), zi_le (by omega) (by omega), show (9 : Int32) = nI 9 from rfl, nI_add, zi_le (by omega) (by omega), if_neg (by omega), if_neg (by omega), tc7_rd h hT (by omega), ev_l (by omega), show (27 : Int64) = lN 27 from rfl, show (96 : Int64) = lN 96 from rfl, lN_mul, lN_add, lN_sub (by omega), nI_1]
        have := ih (x + 1) m K (by omega) (by omega)
        rw [zv27_s] at this
        rw [show 27 * zv27 T q x + T.2 (q + x) - 96 = 27 * zv27 T q x + (T.2 (q + x) - 96) by omega]
        exact this
    have hL := loop (min (zrun T zlet q - q) 9) 0 n (fun w26 => (if (M 77 9) = (1 : Int32) then (if (9 : Int32) ≤ ((M 77 8) - (M 77 10)) then (zf_X10_isWord_j94) else (if (lg_cmp w26 (lN (zwn s))) = 0 then (zf_X10_isWord_j95 (1 : Int32)) else (zf_X10_isWord_j94))) else (zf_X10_isWord_j94))) (by omega) (by omega)
    rw [Nat.add_zero, ← k2] at hL
    refine hL.trans ?_
    show (if (M 77 9) = (1 : Int32) then (if (9 : Int32) ≤ ((M 77 8) - (M 77 10)) then (zf_X10_isWord_j94) else (if (lg_cmp (lN (zv27 T q (min (zrun T zlet q - q) 9))) (lN (zwn s))) = 0 then (zf_X10_isWord_j95 (1 : Int32)) else (zf_X10_isWord_j94))) else (zf_X10_isWord_j94)) = _
    rw [k1, k4, k2, if_pos (show nI 1 = 1 from rfl), pk_sub hg, show (9 : Int32) = nI 9 from rfl, zi_le (by omega) (by omega), decide_eq_true c.1, c.2, Bool.and_true, Bool.true_and]
    unfold zf_X10_isWord_j94 zf_X10_isWord_j95
    by_cases c9 : 9 ≤ zrun T zlet q - q
    · rw [if_pos c9]
      unfold zisw
      rw [decide_eq_false (fun z => by have := z.1; omega)]
      rfl
    · have hv := zv27_lt (T := T) (q := q) (zrun T zlet q - q) (fun j hj => hlet (q + j) (by omega) (by omega))
      have hp : 27 ^ (zrun T zlet q - q) ≤ 27 ^ 8 := Nat.pow_le_pow_right (by decide) (by omega)
      rw [if_neg c9, Nat.min_eq_left (by omega), lcmp0 (by omega) (by omega)]
      by_cases ce : zv27 T q (zrun T zlet q - q) = zwn s
      · rw [if_pos ce]
        rw [w1] at ce
        obtain ⟨i1, i2⟩ := zv27_eq (zrun T zlet q - q) (zwd s).length (fun j hj => hlet (q + j) (by omega) (by omega)) (fun j hj => zwd_let s hs j (by omega) hj) ce
        unfold zisw
        rw [decide_eq_true ⟨i1, fun j hj => i2 j (by omega)⟩]
        rfl
      · rw [if_neg ce]
        unfold zisw
        rw [decide_eq_false (fun z => ce (by rw [w1, z.1]; exact zl27_of _ z.2))]
        rfl
  · have e1 : ¬ nI (zkS T q) = (1 : Int32) := by
      have : zkS T q ≠ 1 := by
        unfold zkS
        by_cases g : T.1 ≤ q
        · rw [if_pos g]; omega
        · rw [if_neg g, if_neg (fun z => c ⟨by omega, z⟩)]
          split <;> omega
      have hb : zkS T q < 4 := by
        unfold zkS
        split
        · omega
        · split
          · omega
          · split <;> omega
      intro z
      exact this ((nI_eq (by omega) (by omega)).mp (show nI (zkS T q) = nI 1 from z))
    obtain ⟨n, rfl⟩ : ∃ y, n = y + 1 := ⟨n - 1, by omega⟩
    have hD : (decide (q < T.1) && zlet (T.2 q)) = false := by
      cases hz : zlet (T.2 q) with
      | false => rw [Bool.and_false]
      | true => rw [decide_eq_false (fun z => c ⟨z, hz⟩)]; rfl
    rw [zf_X10_isWord_L8, k1, if_neg e1, if_neg e1, hD, Bool.false_and]
    rfl
/-- words are unlike each other -/
theorem zwd_ne : ∀ s, s < 8 → ∀ t, t < 8 → s ≠ t → zwd s ≠ zwd t := by decide +kernel
theorem zisw_one {T : ZT} {p e s t : Nat} (hs : s < 8) (ht : t < 8) (h : zisw T p e s = true) (g : zisw T p e t = true) : s = t := by
  by_cases c : s = t
  · exact c
  · have h' := of_decide_eq_true h
    have g' := of_decide_eq_true g
    refine absurd ?_ (zwd_ne s hs t ht c)
    refine List.ext_getElem (by omega) (fun i h1 h2 => ?_)
    have a := h'.2 i h1
    have b := g'.2 i h2
    rw [List.getD_eq_getElem?_getD, List.getElem?_eq_getElem h1] at a
    rw [List.getD_eq_getElem?_getD, List.getElem?_eq_getElem h2] at b
    have a' : T.2 (p + i) = (zwd s)[i] := a
    have b' : T.2 (p + i) = (zwd t)[i] := b
    rw [← a', b']
theorem zsrt_of {T : ZT} {p s mk : Nat} {r : ZRow} (hs : s < 8) (h : zisw T p (zrun T zlet p) s = true) : zsrt T p r mk = if zmay r mk s then some s else none := by
  cases hz : zsrt T p r mk with
  | none =>
    have := zfnd_none (x := s) 8 0 hz (by omega) (by omega)
    have g : (zisw T p (zrun T zlet p) s && zmay r mk s) = false := this
    rw [h, Bool.true_and] at g
    rw [g]
    rfl
  | some t =>
    obtain ⟨a, -, b⟩ := zfnd_some 8 0 hz
    have a' : (zisw T p (zrun T zlet p) t && zmay r mk t) = true := a
    rw [Bool.and_eq_true] at a'
    have e := zisw_one hs (by omega) h a'.1
    subst e
    rw [a'.2, if_pos rfl]
theorem zsrt_no {T : ZT} {p mk : Nat} {r : ZRow} (h : ∀ s, s < 8 → zisw T p (zrun T zlet p) s = false) : zsrt T p r mk = none := by
  cases hz : zsrt T p r mk with
  | none => rfl
  | some t =>
    obtain ⟨a, -, b⟩ := zfnd_some 8 0 hz
    have a' : (zisw T p (zrun T zlet p) t && zmay r mk t) = true := a
    rw [h t (by omega)] at a'
    cases a'
