/-! LAYER 2: what holds between two calls -/
def GD (r : ZRow) : Prop := WF r ∧ zord (r 1) (r 10) = true
/-- places that a TEXT tells and no ACT changes -/
def zto (j : Nat) : Prop := j = 0 ∨ j = 1 ∨ j = 3 ∨ j = 4 ∨ j = 5 ∨ (15 ≤ j ∧ j ≤ 62)
def TA (r q : ZRow) : Prop := ∀ j, zto j → q j = r j
theorem TA.refl (r : ZRow) : TA r r := fun _ _ => rfl
theorem TA.trans {a b c : ZRow} (h : TA a b) (g : TA b c) : TA a c := fun j hj => (g j hj).trans (h j hj)
theorem TA.symm {a b : ZRow} (h : TA a b) : TA b a := fun j hj => (h j hj).symm
def SDc (M : ZMem) (o : Nat) (r : ZRow) : Prop := SD M o r ∧ M o 3 = nI (zcostN r)
theorem SDc.congr {M M' : ZMem} {o : Nat} {r : ZRow} (h : SDc M o r) (e0 : M' o = M o) (e1 : M' (o + 1) = M (o + 1)) : SDc M' o r := ⟨h.1.congr e0 e1, by rw [e0]; exact h.2⟩
/-- the journal -/
def JC (M : ZMem) (nx u : Nat) (U : Nat → ZRow) : Prop := M 16 1 = nI nx ∧ nx < 12 ∧ M 16 2 = nI u ∧ u ≤ 12 ∧ ∀ k, k < u → SDc M (18 + 2 * ((nx + 12 - u + k) % 12)) (U k)
/-- a tape: how long, its bytes -/
abbrev ZT : Type := Nat × (Nat → Nat)
/-- lines: how many, sorts, how many numbers, numbers -/
abbrev ZL : Type := Nat × (Nat → Nat) × (Nat → Nat) × (Nat → Nat → Nat)
def TT (T : ZT) : Prop := T.1 ≤ 400 ∧ ∀ k, k < T.1 → T.2 k < 256
def LL (L : ZL) : Prop := L.1 ≤ 70 ∧ ∀ k, k < L.1 → L.2.1 k < 8 ∧ L.2.2.1 k ≤ 8 ∧ ∀ j, j < L.2.2.1 k → L.2.2.2 k j < 2147483648
def TC9 (M : ZMem) (T : ZT) : Prop := M 42 1 = nI T.1 ∧ ∀ k, k < T.1 → M 43 k = nI (T.2 k)
def TC10 (M : ZMem) (T : ZT) : Prop := M 77 6 = nI T.1 ∧ ∀ k, k < T.1 → M 81 k = nI (T.2 k)
def LC9 (M : ZMem) (t : Nat) (L : ZL) : Prop := M t 11 = nI L.1 ∧ ∀ k, k < L.1 → M (t + 7) k = nI (L.2.1 k) ∧ M (t + 9) k = nI (L.2.2.1 k) ∧ ∃ st, M (t + 8) k = nI st ∧ st + L.2.2.1 k ≤ 200 ∧ ∀ j, j < L.2.2.1 k → M (t + 10) (st + j) = nI (L.2.2.2 k j)
def LC10 (M : ZMem) (L : ZL) : Prop := M 77 16 = nI L.1 ∧ ∀ k, k < L.1 → M 82 k = nI (L.2.1 k) ∧ M 83 k = nI (L.2.2.1 k) ∧ ∀ j, j < L.2.2.1 k → M 84 (8 * k + j) = nI (L.2.2.2 k j)
/-- the two rows of ways -/
def WC (M : ZMem) : Prop := (M 57 7 = nI 61 ∧ M 57 8 = nI 62) ∨ (M 57 7 = nI 62 ∧ M 57 8 = nI 61)
/-- what is known of those that rest -/
def RC (M : ZMem) (r : ZRow) : Prop := M 71 0 = nI 0 ∨ ∃ odds suit, odds ≤ 100 ∧ suit ≤ 999 ∧ M 71 0 = nI 1 ∧ M 71 1 = nI odds ∧ M 71 2 = nI suit ∧ M 71 3 = nI (zrests r odds suit).length ∧ ∀ k, k < (zrests r odds suit).length → M 72 k = nI ((zrests r odds suit).getD k 0)
def IC (M : ZMem) (t nx : Nat) (r : ZRow) (u : Nat) (U : Nat → ZRow) (T : ZT) (L : ZL) : Prop :=
  IT M t ∧ M 42 6 = nI (45 - t) ∧ TD M t r ∧ SDc M 12 r ∧ JC M nx u U ∧ TC9 M T ∧ LC9 M t L ∧ WC M ∧ RC M r
def UC (M : ZMem) (u : Nat) (U : Nat → ZRow) : Prop := M 77 4 = nI u ∧ u ≤ 12 ∧ ∀ k, k < u → ∀ j, j < 73 → M 80 (73 * k + j) = rI (U k) j
def IM (M : ZMem) (r : ZRow) (u : Nat) (U : Nat → ZRow) (T : ZT) (L : ZL) : Prop := IR M r ∧ UC M u U ∧ TC10 M T ∧ LC10 M L
/-- the rows are in bounds -/
def GS (r : ZRow) (u : Nat) (U : Nat → ZRow) (T : ZT) (L : ZL) : Prop := GD r ∧ (∀ k, k < u → GD (U k) ∧ TA r (U k)) ∧ TT T ∧ LL L
def INV (M : ZMem) : Prop := ∃ t nx r u U T L, GS r u U T L ∧ IC M t nx r u U T L ∧ IM M r u U T L
/-- cells of the class that are kept between calls -/
def zkeep (k : Nat) : Prop := k ≤ 13 ∨ (16 ≤ k ∧ k ≤ 56)
theorem JC.congr {M M' : ZMem} {nx u : Nat} {U : Nat → ZRow} (h : JC M nx u U) (e : ∀ k, 16 ≤ k → k ≤ 41 → M' k = M k) : JC M' nx u U := by
  obtain ⟨h1, h2, h3, h4, h5⟩ := h
  refine ⟨by rw [e 16 (by omega) (by omega)]; exact h1, h2, by rw [e 16 (by omega) (by omega)]; exact h3, h4, fun k hk => ?_⟩
  have hm : (nx + 12 - u + k) % 12 < 12 := Nat.mod_lt _ (by decide)
  exact (h5 k hk).congr (e _ (by omega) (by omega)) (e _ (by omega) (by omega))
theorem LC9.congr {M M' : ZMem} {t : Nat} {L : ZL} (h : LC9 M t L) (e : ∀ k, t ≤ k → k ≤ t + 10 → M' k = M k) : LC9 M' t L := by
  unfold LC9 at *
  rw [e t (by omega) (by omega), e (t + 7) (by omega) (by omega), e (t + 8) (by omega) (by omega), e (t + 9) (by omega) (by omega), e (t + 10) (by omega) (by omega)]
  exact h
theorem LC10.congr {M M' : ZMem} {L : ZL} (h : LC10 M L) (e0 : M' 77 16 = M 77 16) (e1 : M' 82 = M 82) (e2 : M' 83 = M 83) (e3 : M' 84 = M 84) : LC10 M' L := by
  unfold LC10 at *
  rw [e0, e1, e2, e3]
  exact h
theorem TC9.congr {M M' : ZMem} {T : ZT} (h : TC9 M T) (e : M' 42 1 = M 42 1) (e1 : M' 43 = M 43) : TC9 M' T := by
  unfold TC9 at *
  rw [e, e1]
  exact h
theorem TC10.congr {M M' : ZMem} {T : ZT} (h : TC10 M T) (e : M' 77 6 = M 77 6) (e1 : M' 81 = M 81) : TC10 M' T := by
  unfold TC10 at *
  rw [e, e1]
  exact h
theorem UC.congr {M M' : ZMem} {u : Nat} {U : Nat → ZRow} (h : UC M u U) (e : M' 77 4 = M 77 4) (e1 : M' 80 = M 80) : UC M' u U := by
  unfold UC at *
  rw [e, e1]
  exact h
theorem IT.congr {M M' : ZMem} {t : Nat} (h : IT M t) (e : M' 0 = M 0) : IT M' t := by
  unfold IT at *
  rw [e]
  exact h
theorem WC.congr {M M' : ZMem} (h : WC M) (e7 : M' 57 7 = M 57 7) (e8 : M' 57 8 = M 57 8) : WC M' := by
  unfold WC at *
  rw [e7, e8]
  exact h
theorem RC.congr {M M' : ZMem} {r : ZRow} (h : RC M r) (e : M' 71 = M 71) (e1 : M' 72 = M 72) : RC M' r := by
  unfold RC at *
  rw [e, e1]
  exact h
theorem IC.t {M : ZMem} {t nx u : Nat} {r : ZRow} {U : Nat → ZRow} {T : ZT} {L : ZL} (h : IC M t nx r u U T L) : t = 1 ∨ t = 44 := h.1.2
/-- what a call that only writes into scratch leaves -/
theorem IC.scratch {M M' : ZMem} {t nx u : Nat} {r : ZRow} {U : Nat → ZRow} {T : ZT} {L : ZL} (h : IC M t nx r u U T L) (e : ∀ k, zkeep k → M' k = M k) (hw : WC M') (hr : RC M' r) : IC M' t nx r u U T L := by
  have ht := h.t
  obtain ⟨h1, h2, h3, h4, h5, h6, h7, h8, h9⟩ := h
  refine ⟨h1.congr (e 0 (Or.inl (by omega))), by rw [e 42 (Or.inr (by omega))]; exact h2, h3.congr (fun k a b => e k ?_), h4.congr (e 12 (Or.inl (by omega))) (e 13 (Or.inl (by omega))), h5.congr (fun k a b => e k (Or.inr (by omega))), h6.congr (by rw [e 42 (Or.inr (by omega))]) (e 43 (Or.inr (by omega))), h7.congr (fun k a b => e k ?_), hw, hr⟩
  · unfold zkeep; omega
  · unfold zkeep; omega
theorem IC.congr {M M' : ZMem} {t nx u : Nat} {r : ZRow} {U : Nat → ZRow} {T : ZT} {L : ZL} (h : IC M t nx r u U T L) (e : ∀ k, k < 77 → M' k = M k) : IC M' t nx r u U T L :=
  h.scratch (fun k hk => e k (by unfold zkeep at hk; omega)) (h.2.2.2.2.2.2.2.1.congr (by rw [e 57 (by omega)]) (by rw [e 57 (by omega)])) (h.2.2.2.2.2.2.2.2.congr (e 71 (by omega)) (e 72 (by omega)))
/-- a call of the reference that only writes into scratch -/
theorem IM.scratch {M M' : ZMem} {u : Nat} {r : ZRow} {U : Nat → ZRow} {T : ZT} {L : ZL} (h : IM M r u U T L) (e : M' 78 = M 78) (e1 : M' 80 = M 80) (e2 : M' 81 = M 81) (e3 : M' 82 = M 82) (e4 : M' 83 = M 83) (e5 : M' 84 = M 84) (f0 : M' 77 4 = M 77 4) (f1 : M' 77 6 = M 77 6) (f2 : M' 77 16 = M 77 16) : IM M' r u U T L :=
  ⟨h.1.congr e, h.2.1.congr f0 e1, h.2.2.1.congr f1 e2, h.2.2.2.congr f2 e3 e4 e5⟩
theorem IM.congr {M M' : ZMem} {u : Nat} {r : ZRow} {U : Nat → ZRow} {T : ZT} {L : ZL} (h : IM M r u U T L) (e : ∀ k, 77 ≤ k → M' k = M k) : IM M' r u U T L :=
  h.scratch (e _ (by omega)) (e _ (by omega)) (e _ (by omega)) (e _ (by omega)) (e _ (by omega)) (e _ (by omega)) (by rw [e 77 (by omega)]) (by rw [e 77 (by omega)]) (by rw [e 77 (by omega)])
/-- a class's call: it answers v, and the state is then another one -/
def C9 (M : ZMem) (o : Option (Int32 × ZMem)) (v : Int32) (P : ZMem → Prop) : Prop := ∃ M1, o = some (v, M1) ∧ P M1 ∧ ∀ k, 77 ≤ k → M1 k = M k
def C10 (M : ZMem) (o : Option (Int32 × ZMem)) (v : Int32) (P : ZMem → Prop) : Prop := ∃ M1, o = some (v, M1) ∧ P M1 ∧ ∀ k, k < 77 → M1 k = M k
/-- what is asked of each operation that writes -/
def OPW (f g : ZMem → Option (Int32 × ZMem)) (M : ZMem) : Prop := ∃ v M1 M2, f M = some (v, M1) ∧ g M1 = some (v, M2) ∧ INV M2
/-- what is asked of each question that writes nothing -/
def OPQ (f g : ZMem → Option Int32) (M : ZMem) : Prop := ∃ v, f M = some v ∧ g M = some v
theorem OPW.of {f g : ZMem → Option (Int32 × ZMem)} {M : ZMem} {t nx u : Nat} {r : ZRow} {U : Nat → ZRow} {T : ZT} {L : ZL} {v : Int32} {t' nx' u' : Nat} {r' : ZRow} {U' : Nat → ZRow} {T' : ZT} {L' : ZL}
    (hM : IM M r u U T L) (hS : GS r' u' U' T' L') (h9 : C9 M (f M) v (fun M1 => IC M1 t' nx' r' u' U' T' L')) (h10 : ∀ M1, IM M1 r u U T L → C10 M1 (g M1) v (fun M2 => IM M2 r' u' U' T' L')) : OPW f g M := by
  obtain ⟨M1, a1, a2, a3⟩ := h9
  obtain ⟨M2, b1, b2, b3⟩ := h10 M1 (hM.congr a3)
  exact ⟨v, M1, M2, a1, b1, t', nx', r', u', U', T', L', hS, a2.congr b3, b2⟩
