/-! LAYER 2: rules for reckoning, again -/
theorem zlp (k : Nat) : (OfNat.ofNat k : Int32) = nI k := id rfl
theorem zBt : zB true = nI 1 := id rfl
theorem zBf : zB false = nI 0 := id rfl
theorem ifp {α : Type} {c : Prop} [Decidable c] {A B : α} (h : c) : (if c then A else B) = A := if_pos h
theorem ifn {α : Type} {c : Prop} [Decidable c] {A B : α} (h : ¬ c) : (if c then A else B) = B := if_neg h
theorem isInN {k b c : Nat} (hk : k < 2147483648) (hb : b < 2147483648) (hc : c < 2147483648) : zf_X10_isIn (nI k) (nI b) (nI c) = some (zB (decide (b ≤ k ∧ k ≤ c))) := by
  rw [isIn10]
  by_cases h : k < b ∨ c < k
  · rw [if_pos (h.imp (fun z => by rw [ev_lt hk hb]; exact z) (fun z => by rw [ev_lt hc hk]; exact z)), decide_eq_false (by omega)]; rfl
  · rw [if_neg (fun z => h (z.imp (fun z => by rw [ev_lt hk hb] at z; exact z) (fun z => by rw [ev_lt hc hk] at z; exact z))), decide_eq_true (by omega)]; rfl
theorem ev_in {β : Type} {k b c : Nat} (K : Int32 → Option β) (hk : k < 2147483648) (hb : b < 2147483648) (hc : c < 2147483648) : zb1 (zf_X10_isIn (nI k) (nI b) (nI c)) K = K (zB (decide (b ≤ k ∧ k ≤ c))) := zb1_at (isInN hk hb hc)
theorem ev_inG {β : Type} {a c : Int32} {b : Nat} (K : Int32 → Option β) (ha : a < nI 0) (hb : b < 2147483648) : zb1 (zf_X10_isIn a (nI b) c) K = K (nI 0) := by
  rw [isIn10, if_pos (Or.inl (zneg_lt ha hb))]; rfl
theorem rd78 {β : Type} {M : ZMem} {r : ZRow} (hM : IR M r) {j : Nat} (K : Int32 → Option β) (h : j < 73) (h1 : j ≠ 11) : zrd M 78 73 (nI j) K = K (nI (r j)) := by
  rw [zrd_at j rfl h, hM j h, rI_ne h1]
theorem rd11 {β : Type} {M : ZMem} {r : ZRow} (hM : IR M r) (K : Int32 → Option β) : zrd M 78 73 (nI 11) K = K (nI (r 11) - nI 1) := by
  rw [zrd_at 11 rfl (by omega), hM 11 (by omega)]; rfl
theorem snt_lt {α : Type} {s : Nat} {A B : α} (h : s ≤ 100) : (if nI s - nI 1 < nI 0 then A else B) = if s = 0 then A else B := by
  by_cases g : s = 0
  · subst g; rfl
  · rw [pk_sub (by omega), zi_lt (by omega) (by omega), if_neg (by omega), if_neg g]
theorem snt_ge {α : Type} {s : Nat} {A B : α} (h : s ≤ 100) : (if nI 0 ≤ nI s - nI 1 then A else B) = if s = 0 then B else A := by
  by_cases g : s = 0
  · subst g; rfl
  · rw [pk_sub (by omega), zi_le (by omega) (by omega), if_pos (by omega), if_neg g]
theorem m2_lt {α : Type} {A B : α} {k : Nat} (h : k < 2147483648) : (if -nI 2 < nI k then A else B) = A := if_pos (zneg_lt (by decide) h)
theorem m2_le {α : Type} {A B : α} {k : Nat} (h : k < 2147483648) : (if nI k ≤ -nI 2 then A else B) = B := if_neg (zneg_nle (by decide) h)
theorem m2_eq {α : Type} {A B : α} {k : Nat} (h : k < 2147483648) : (if nI k = -nI 2 then A else B) = B := if_neg (fun z => zneg_ne (show -nI 2 < nI 0 by decide) h z.symm)
theorem m2_rf {α : Type} {A B : α} : (if -nI 2 = -nI 2 then A else B) = A := if_pos rfl
theorem m1_lt {α : Type} {A B : α} {k : Nat} (h : k < 2147483648) : (if -nI 1 < nI k then A else B) = A := if_pos (zneg_lt (by decide) h)
theorem m1_le {α : Type} {A B : α} {k : Nat} (h : k < 2147483648) : (if nI k ≤ -nI 1 then A else B) = B := if_neg (zneg_nle (by decide) h)
theorem m1_ge {α : Type} {A B : α} {k : Nat} (h : k < 2147483648) : (if -nI 1 ≤ nI k then A else B) = A := if_pos (Int32.le_of_lt (zneg_lt (by decide) h))
theorem m1_eq {α : Type} {A B : α} {k : Nat} (h : k < 2147483648) : (if nI k = -nI 1 then A else B) = B := if_neg (fun z => zneg_ne (show -nI 1 < nI 0 by decide) h z.symm)
theorem m1_rf {α : Type} {A B : α} : (if -nI 1 = -nI 1 then A else B) = A := if_pos rfl
/-- the numbers in the class's cells -/
theorem IC.rd {M : ZMem} {t nx u : Nat} {r : ZRow} {U : Nat → ZRow} {T : ZT} {L : ZL} (h : IC M t nx r u U T L) : M t 0 = nI (r 0) ∧ M t 1 = nI (r 1) ∧ M t 8 = nI (r 3) ∧ M t 9 = nI (r 4) ∧ M t 10 = nI (r 5) ∧ M 12 0 = nI (r 8) ∧ M 12 1 = nI (r 10) ∧ M 12 3 = nI (zcostN r) ∧ M 12 4 = nI (r 12) ∧ M 12 5 = nI (r 13) ∧ M 12 6 = nI (r 14) ∧ M 12 7 = nI (r 2) ∧ M 12 8 = nI (r 9) ∧ M 12 9 = nI (r 6) ∧ M 12 10 = nI (r 7) ∧ M 16 2 = nI u ∧ M 42 1 = nI T.1 ∧ M t 11 = nI L.1 := by
  obtain ⟨h1, h2, ⟨a1, a2, a3, a4, a5, -, -⟩, ⟨⟨b1, b2, b3, b4, b5, b6, b7, b8, b9, b10, b11⟩, b12⟩, ⟨-, -, c3, -, -⟩, ⟨d1, -⟩, ⟨e1, -⟩, -, -⟩ := h
  exact ⟨a1, a2, a3, a4, a5, b1, b2, b12, b4, b5, b6, b7, b8, b9, b10, c3, d1, e1⟩
theorem IC.s2 {M : ZMem} {t nx u : Nat} {r : ZRow} {U : Nat → ZRow} {T : ZT} {L : ZL} (h : IC M t nx r u U T L) : M 12 2 = (if r 11 = 0 then -2 else nI (r 11 - 1)) := h.2.2.2.1.1.2.2.1
theorem WF.b {r : ZRow} (h : WF r) : r 0 ≤ 10 ∧ r 1 ≤ 4 ∧ r 2 ≤ 99999 ∧ r 3 ≤ 50 ∧ r 4 ≤ 999 ∧ r 5 ≤ 99 ∧ r 6 ≤ r 7 ∧ r 7 ≤ 99 ∧ r 8 ≤ 99 ∧ r 9 ≤ 2 ∧ r 10 < 256 ∧ r 11 ≤ 100 ∧ r 12 < 1024 ∧ r 13 < 1024 ∧ r 14 < 1024 ∧ 2 ^ r 0 ≤ 1024 ∧ 0 < 2 ^ r 0 := by
  obtain ⟨h0, h1, h2, h3, h4, h5, h6, h7, h8, h9, h10, h11, h12, h13, h14, hm, hc, hf⟩ := h
  have hp := zpow_le h0
  have := Nat.two_pow_pos (r 0)
  exact ⟨h0, h1, h2, h3, h4, h5, h6, h7, h8, h9, h10, h11, by omega, by omega, by omega, hp, this⟩
theorem WF.foe {r : ZRow} (h : WF r) {i : Nat} (hi : i < 10) : r (63 + i) < 1024 := by
  have h1 := h.b
  obtain ⟨h0, -, -, -, -, -, -, -, -, -, -, -, -, -, -, -, -, hf⟩ := h
  have := (hf i hi).1
  omega
theorem IC.foe {M : ZMem} {t nx u : Nat} {r : ZRow} {U : Nat → ZRow} {T : ZT} {L : ZL} (h : IC M t nx r u U T L) {i : Nat} (hi : i < 10) : M 13 i = nI (r (63 + i)) := h.2.2.2.1.1.2.2.2.2.2.2.2.2.2.2 i hi
/-! NOTICES: when one is reached -/
theorem zdaysP_le {r : ZRow} (h : WF r) {o i : Nat} (ho : o < 256) (hz : zord (r 1) o = true) : ∀ {k p d : Nat}, p + k = r 1 → zdaysP r o i k p = some d → d ≤ 30 * k
  | 0, p, d, _, e => by cases e
  | k + 1, p, d, hp, e => by
    have hc := h.2.1
    have hch := zord_ch (r 1) (by omega) o ho hz p (by omega)
    have hw := (h.2.2.2.2.2.2.2.2.2.2.2.2.2.2.2.2.1 _ hch).2.2
    unfold zdaysP at e
    split at e
    · cases e; omega
    · cases e2 : zdaysP r o i k (p + 1) with
      | none => rw [e2] at e; cases e
      | some d2 =>
        rw [e2] at e
        have := zdaysP_le h ho hz (by omega) e2
        cases e
        show _ + d2 ≤ _
        omega
theorem zdaysTo_le {r : ZRow} (h : WF r) {o i d : Nat} (ho : o < 256) (hz : zord (r 1) o = true) (e : zdaysTo r o i = some d) : d ≤ 120 := by
  have := zdaysP_le h ho hz (Nat.zero_add _) e
  have := h.2.1
  omega
/-- from which day on one is reached -/
def zrd0 (r : ZRow) (i : Nat) : Option Nat := if r 11 = 0 then none else (zdaysTo r (r 10) i).map (r 11 - 1 + ·)
def zrch (r : ZRow) (i : Nat) : Bool := match zrd0 r i with
  | none => false
  | some d => decide (d ≤ r 8)
theorem zrd0_le {r : ZRow} (h : GD r) {i d : Nat} (e : zrd0 r i = some d) : d ≤ 220 := by
  have hb := h.1.b
  unfold zrd0 at e
  split at e
  · cases e
  · cases e2 : zdaysTo r (r 10) i with
    | none => rw [e2] at e; cases e
    | some d2 =>
      rw [e2] at e
      have := zdaysTo_le h.1 (by omega) h.2 e2
      cases e
      show _ + d2 ≤ _
      omega
theorem isSent9 {M : ZMem} {t nx u : Nat} {r : ZRow} {U : Nat → ZRow} {T : ZT} {L : ZL} (h : IC M t nx r u U T L) (hw : WF r) : zf_X7_isSent 12 M = some (zB (decide (r 11 ≠ 0))) := by
  have hb := hw.b
  unfold zf_X7_isSent zf_X7_isSent_j14
  rw [h.s2]
  by_cases g : r 11 = 0
  · rw [if_pos g, if_pos rfl, decide_eq_false (by omega)]; rfl
  · rw [if_neg g]
    have : (if nI (r 11 - 1) = -2 then zbz 0 (some (0 : Int32)) else zbz 1 (some 1)) = zbz 1 (some 1) := m2_eq (by omega)
    rw [this, decide_eq_true g]; rfl
theorem reachDay9 {M : ZMem} {t nx u i n : Nat} {r : ZRow} {U : Nat → ZRow} {T : ZT} {L : ZL} (h : IC M t nx r u U T L) (hg : GD r) (hi : i < r 0) (hn : 4 < n) : zf_X9_reachDay n (nI i) M = some (zdI 0 (zrd0 r i)) := by
  have hb := hg.1.b
  obtain ⟨a0, a1, a2, a3, a4, a5, a6, -⟩ := h.rd
  unfold zf_X9_reachDay zf_X9_reachDay_j49
  rw [zb1_at (isSent9 h hg.1), h.1.dy, a6, zb1_at (daysTo1 h.2.2.1 hg.1 (by omega) hg.2 hi hn), h.s2]
  unfold zrd0
  by_cases g : r 11 = 0
  · rw [decide_eq_false (by omega), if_pos g, if_pos (show zB false = 0 from rfl), if_pos g]; rfl
  · rw [decide_eq_true g, if_neg (by decide), if_neg g, if_neg g]
    cases e : zdaysTo r (r 10) i with
    | none => exact if_pos rfl
    | some d =>
      have := zdaysTo_le hg.1 (by omega) hg.2 e
      show (if nI (0 + d) = -nI 2 then some (-2) else some (nI (r 11 - 1) + nI (0 + d))) = some (nI (0 + (r 11 - 1 + d)))
      rw [m2_eq (by omega), nI_add, Nat.zero_add, Nat.zero_add]
theorem reachedOn10 {M : ZMem} {i n : Nat} {r : ZRow} (hM : IR M r) (hg : GD r) (hi : i < r 0) (hn : 4 < n) : zf_X10_reachedOn n (nI i) M = some (zdI 0 (zrd0 r i)) := by
  have hb := hg.1.b
  unfold zf_X10_reachedOn zf_X10_reachedOn_j27 zf_X10_reachedOn_j46
  simp only [zlp]
  rw [rd11 hM, snt_ge (by omega)]
  unfold zrd0
  by_cases g : r 11 = 0
  · rw [if_pos g, if_pos g]; rfl
  · rw [if_neg g, if_neg g, rd78 hM _ (by omega) (by omega), zb1_at (waitFor10 hM hg.1 (by omega) hg.2 hi hn)]
    cases e : zdaysTo r (r 10) i with
    | none => rfl
    | some d =>
      have := zdaysTo_le hg.1 (by omega) hg.2 e
      show (if nI 0 ≤ nI (0 + d) then zrd M 78 73 (nI 11) (fun v28 => some (v28 + nI (0 + d))) else some (-nI 2)) = some (nI (0 + (r 11 - 1 + d)))
      rw [zi_le (by omega) (by omega), if_pos (by omega), rd11 hM, pk_sub (by omega), nI_add, Nat.zero_add, Nat.zero_add]
theorem isReached9 {M : ZMem} {t nx u i n : Nat} {r : ZRow} {U : Nat → ZRow} {T : ZT} {L : ZL} (h : IC M t nx r u U T L) (hg : GD r) (hi : i < r 0) (hn : 4 < n) : zf_X9_isReached n (nI i) M = some (zB (zrch r i)) := by
  have hb := hg.1.b
  obtain ⟨a0, a1, a2, a3, a4, a5, a6, -⟩ := h.rd
  unfold zf_X9_isReached zf_X9_isReached_j27 zf_X9_isReached_j28
  rw [zb1_at (reachDay9 h hg hi hn), a5]
  unfold zrch
  cases e : zrd0 r i with
  | none => exact if_pos rfl
  | some d =>
    have := zrd0_le hg e
    show (if nI (0 + d) = -nI 2 then zbz 0 (some 0) else if nI (r 8) < nI (0 + d) then zbz 0 (some 0) else zbz 1 (some 1)) = some (zB (decide (d ≤ r 8)))
    rw [m2_eq (by omega), zi_lt (by omega) (by omega)]
    by_cases g : d ≤ r 8
    · rw [if_neg (by omega), decide_eq_true g]; rfl
    · rw [if_pos (by omega), decide_eq_false g]; rfl
theorem isReached10 {M : ZMem} {i n : Nat} {r : ZRow} (hM : IR M r) (hg : GD r) (hi : i < r 0) (hn : 4 < n) : zf_X10_isReached n (nI i) M = some (zB (zrch r i)) := by
  have hb := hg.1.b
  unfold zf_X10_isReached zf_X10_isReached_j27 zf_X10_isReached_j28
  simp only [zlp]
  rw [zb1_at (reachedOn10 hM hg hi hn), zb1_at (reachedOn10 hM hg hi hn), rd78 hM _ (by omega) (by omega)]
  unfold zrch
  cases e : zrd0 r i with
  | none => rfl
  | some d =>
    have := zrd0_le hg e
    show (if nI (0 + d) < nI 0 then zbz (nI 0) (some (nI 0)) else if nI (r 8) < nI (0 + d) then zbz (nI 0) (some (nI 0)) else zbz (nI 1) (some (nI 1))) = some (zB (decide (d ≤ r 8)))
    rw [zi_lt (by omega) (by omega), zi_lt (by omega) (by omega), if_neg (by omega)]
    by_cases g : d ≤ r 8
    · rw [if_neg (by omega), decide_eq_true g]; rfl
    · rw [if_pos (by omega), decide_eq_false g]; rfl
