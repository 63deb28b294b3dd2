/-! LAYER 2: a number that is read -/
def HI (x : Int32) (hi : Nat) : Prop := ∀ v, v < 100000 → (nI v ≤ x ↔ v < hi)
theorem hi_lit {m : Nat} (hm : m < 1000000) : HI (nI m) (m + 1) := fun v hv => by
  rw [nI_leI (by omega) (by omega)]
  omega
theorem hi_m1 {c : Nat} (hc : c < 1000) : HI (nI c - 1) c := fun v hv => by
  by_cases e : c = 0
  · subst e
    refine ⟨fun z => ?_, fun z => by omega⟩
    have h1 : (nI 0 - 1 : Int32) = -1 := by decide
    rw [h1] at z
    have h2 := Int32.le_iff_toInt_le.mp z
    have h3 : ((-1 : Int32)).toInt = -1 := rfl
    have h4 : (0 : Int32).toInt = 0 := rfl
    exact absurd (Int32.lt_iff_toInt_lt.mpr (show (nI v).toInt < (0 : Int32).toInt by omega)) (nI_pos (by omega))
  · rw [show nI c - 1 = nI (c - 1) from pk_sub (b := 1) (by omega), nI_leI (by omega) (by omega)]
    omega
def zopn (L : ZL) (s : Nat) : ZL := (L.1 + 1, (fun k => if k = L.1 then s else L.2.1 k), (fun k => if k = L.1 then 0 else L.2.2.1 k), L.2.2.2)
def zadn (L : ZL) (v : Nat) : ZL := (L.1, L.2.1, (fun k => if k = L.1 - 1 then L.2.2.1 k + 1 else L.2.2.1 k), (fun k j => if k = L.1 - 1 ∧ j = L.2.2.1 k then v else L.2.2.2 k j))
/-- lines as the class's reader writes them -/
def LR9 (M : ZMem) (o : Nat) (L : ZL) (w : Nat) : Prop := M o 11 = nI L.1 ∧ M o 15 = nI w ∧ ∃ st : Nat → Nat, (∀ k, k < L.1 → M (o + 7) k = nI (L.2.1 k) ∧ M (o + 8) k = nI (st k) ∧ M (o + 9) k = nI (L.2.2.1 k) ∧ st k + L.2.2.1 k ≤ w ∧ (k + 1 < L.1 → st k + L.2.2.1 k ≤ st (L.1 - 1)) ∧ ∀ j, j < L.2.2.1 k → M (o + 10) (st k + j) = nI (L.2.2.2 k j)) ∧ (0 < L.1 → st (L.1 - 1) + L.2.2.1 (L.1 - 1) = w)
theorem LR9.congr {M M' : ZMem} {o w : Nat} {L : ZL} (h : LR9 M o L w) (e11 : M' o 11 = M o 11) (e15 : M' o 15 = M o 15) (e7 : M' (o + 7) = M (o + 7)) (e8 : M' (o + 8) = M (o + 8)) (e9 : M' (o + 9) = M (o + 9)) (e10 : M' (o + 10) = M (o + 10)) : LR9 M' o L w := by
  unfold LR9 at *
  rw [e11, e15, e7, e8, e9, e10]
  exact h
theorem LR9.lc {M : ZMem} {o w : Nat} {L : ZL} (h : LR9 M o L w) (hw : w ≤ 200) : LC9 M o L := by
  obtain ⟨h1, h2, st, h3, h4⟩ := h
  refine ⟨h1, fun k hk => ?_⟩
  obtain ⟨a1, a2, a3, a4, a5, a6⟩ := h3 k hk
  exact ⟨a1, a3, st k, a2, by omega, a6⟩
theorem openLine9 {M : ZMem} {o w s : Nat} {L : ZL} (h : LR9 M o L w) (hl : L.1 < 80) (hw : w ≤ 200) : ∃ M', zf_X8_openLine o (nI s) M = some M' ∧ LR9 M' o (zopn L s) w ∧ (∀ k, k ≠ o → k ≠ o + 7 → k ≠ o + 8 → k ≠ o + 9 → M' k = M k) ∧ ∀ j, j ≠ 11 → M' o j = M o j := by
  obtain ⟨h1, h2, st, h3, h4⟩ := h
  refine ⟨zwr (zwr (zwr (zwr M (o + 7) L.1 (nI s)) (o + 8) L.1 (nI w)) (o + 9) L.1 (nI 0)) o 11 (nI (L.1 + 1)), ?_, ⟨wre, by rw [wrj (by omega), wrn (by omega), wrn (by omega), wrn (by omega)]; exact h2, fun k => if k = L.1 then w else st k, fun k hk => ?_, fun _ => ?_⟩, fun k a b c d => by rw [wrn a, wrn d, wrn c, wrn b], fun j a => by rw [wrj a, wrn (by omega), wrn (by omega), wrn (by omega)]⟩
  · have e1 : ∀ x, zwr M (o + 7) L.1 x o 11 = nI L.1 := fun x => by rw [wrn (by omega)]; exact h1
    have e2 : ∀ x, zwr M (o + 7) L.1 x o 15 = nI w := fun x => by rw [wrn (by omega)]; exact h2
    have e3 : ∀ x y, zwr (zwr M (o + 7) L.1 x) (o + 8) L.1 y o 11 = nI L.1 := fun x y => by rw [wrn (by omega), wrn (by omega)]; exact h1
    have e4 : ∀ x y z, zwr (zwr (zwr M (o + 7) L.1 x) (o + 8) L.1 y) (o + 9) L.1 z o 11 = nI L.1 := fun x y z => by rw [wrn (by omega), wrn (by omega), wrn (by omega)]; exact h1
    unfold zf_X8_openLine zf_X8_openLine_j52
    rw [h1, show (80 : Int32) = nI 80 from rfl, zi_le (by omega) (by omega), if_neg (by omega), zst_at L.1 rfl (by omega), zst_at L.1 (e1 _) (by omega), e2, zst_at L.1 (e3 _ _) (by omega), zput_at, e4, nI_1]
    rfl
  · have hk2 : k < L.1 + 1 := hk
    rw [wrn (by omega), wrn (by omega), wrn (by omega), wrn (show o + 8 ≠ o by omega), wrn (show o + 8 ≠ o + 9 by omega), wrn (show o + 9 ≠ o by omega), wrn (show o + 10 ≠ o by omega), wrn (show o + 10 ≠ o + 9 by omega), wrn (show o + 10 ≠ o + 8 by omega), wrn (show o + 10 ≠ o + 7 by omega)]
    show _ = nI (if k = L.1 then s else L.2.1 k) ∧ _ = nI (if k = L.1 then w else st k) ∧ _ = nI (if k = L.1 then 0 else L.2.2.1 k) ∧ (if k = L.1 then w else st k) + (if k = L.1 then 0 else L.2.2.1 k) ≤ w ∧ (k + 1 < L.1 + 1 → (if k = L.1 then w else st k) + (if k = L.1 then 0 else L.2.2.1 k) ≤ (if L.1 + 1 - 1 = L.1 then w else st (L.1 + 1 - 1))) ∧ ∀ j, j < (if k = L.1 then 0 else L.2.2.1 k) → M (o + 10) ((if k = L.1 then w else st k) + j) = nI (L.2.2.2 k j)
    by_cases e : k = L.1
    · subst e
      simp only [eq_self, if_true]
      refine ⟨wre, wre, wre, by omega, fun z => by omega, fun j hj => by omega⟩
    · obtain ⟨a1, a2, a3, a4, a5, a6⟩ := h3 k (by omega)
      simp only [if_neg e]
      simp only [wrj e]
      refine ⟨a1, a2, a3, a4, fun z => ?_, a6⟩
      rw [if_pos (by omega)]
      exact a4
  · show (if L.1 + 1 - 1 = L.1 then w else st (L.1 + 1 - 1)) + (if L.1 + 1 - 1 = L.1 then 0 else L.2.2.1 (L.1 + 1 - 1)) = w
    rw [if_pos (by omega), if_pos (by omega)]
    rfl
theorem addNumber9 {M : ZMem} {o w v : Nat} {L : ZL} (h : LR9 M o L w) (hl : L.1 ≤ 80) (hl0 : 0 < L.1) (hw : w < 200) : ∃ M', zf_X8_addNumber o (nI v) M = some M' ∧ LR9 M' o (zadn L v) (w + 1) ∧ (∀ k, k ≠ o → k ≠ o + 9 → k ≠ o + 10 → M' k = M k) ∧ ∀ j, j ≠ 15 → M' o j = M o j := by
  obtain ⟨h1, h2, st, h3, h4⟩ := h
  have hlast := h4 hl0
  obtain ⟨l1, l2, l3, l4, l5, l6⟩ := h3 (L.1 - 1) (by omega)
  refine ⟨zwr (zwr (zwr M (o + 10) w (nI v)) o 15 (nI (w + 1))) (o + 9) (L.1 - 1) (nI (L.2.2.1 (L.1 - 1) + 1)), ?_, ⟨by rw [wrn (by omega), wrj (by omega), wrn (by omega)]; exact h1, by rw [wrn (by omega), wre], st, fun k hk => ?_, fun _ => ?_⟩, fun k a b c => by rw [wrn b, wrn a, wrn c], fun j a => by rw [wrn (by omega), wrj a, wrn (by omega)]⟩
  · have e2 : ∀ x, zwr M (o + 10) w x o 15 = nI w := fun x => by rw [wrn (by omega)]; exact h2
    have e3 : ∀ x y, zwr (zwr M (o + 10) w x) o 15 y o 11 = nI L.1 := fun x y => by rw [wrj (by omega), wrn (by omega)]; exact h1
    have e4 : ∀ x y, zwr (zwr M (o + 10) w x) o 15 y (o + 9) (L.1 - 1) = nI (L.2.2.1 (L.1 - 1)) := fun x y => by rw [wrn (by omega), wrn (by omega)]; exact l3
    have e5 : nI L.1 - 1 = nI (L.1 - 1) := pk_sub (b := 1) (by omega)
    unfold zf_X8_addNumber zf_X8_addNumber_j52
    rw [h1, h2, show (0 : Int32) = nI 0 from rfl, show (200 : Int32) = nI 200 from rfl, zi_le (by omega) (by omega), if_neg (by omega), zi_le (by omega) (by omega), if_neg (by omega), zst_at w rfl (by omega), zput_at, e2, nI_1, e3, e5, zrd_at (L.1 - 1) rfl (by omega), e4, zst_at (L.1 - 1) rfl (by omega), nI_1]
  · have hk2 : k < L.1 := hk
    obtain ⟨a1, a2, a3, a4, a5, a6⟩ := h3 k hk2
    rw [wrn (show o + 7 ≠ o + 9 by omega), wrn (show o + 7 ≠ o by omega), wrn (show o + 7 ≠ o + 10 by omega), wrn (show o + 8 ≠ o + 9 by omega), wrn (show o + 8 ≠ o by omega), wrn (show o + 8 ≠ o + 10 by omega), wrn (show o + 10 ≠ o + 9 by omega), wrn (show o + 10 ≠ o by omega)]
    show M (o + 7) k = nI (L.2.1 k) ∧ _ = nI (st k) ∧ _ = nI (if k = L.1 - 1 then L.2.2.1 k + 1 else L.2.2.1 k) ∧ st k + (if k = L.1 - 1 then L.2.2.1 k + 1 else L.2.2.1 k) ≤ w + 1 ∧ (k + 1 < L.1 → st k + (if k = L.1 - 1 then L.2.2.1 k + 1 else L.2.2.1 k) ≤ st (L.1 - 1)) ∧ ∀ j, j < (if k = L.1 - 1 then L.2.2.1 k + 1 else L.2.2.1 k) → zwr M (o + 10) w (nI v) (o + 10) (st k + j) = nI (if k = L.1 - 1 ∧ j = L.2.2.1 k then v else L.2.2.2 k j)
    by_cases e : k = L.1 - 1
    · simp only [if_pos e]
      refine ⟨a1, a2, by rw [e, wre], by omega, fun z => by omega, fun j hj => ?_⟩
      have hst : st k + L.2.2.1 k = w := by rw [e]; exact hlast
      by_cases ej : j = L.2.2.1 k
      · rw [if_pos ⟨e, ej⟩, show st k + j = w by omega, wre]
      · rw [if_neg (fun z => ej z.2), wrj (by omega)]
        exact a6 j (by omega)
    · simp only [if_neg e]
      have := a5 (by omega)
      refine ⟨a1, a2, by rw [wrj e, wrn (by omega), wrn (by omega)]; exact a3, by omega, fun z => this, fun j hj => ?_⟩
      rw [if_neg (fun z => e z.1), wrj (by omega)]
      exact a6 j hj
  · show st (L.1 - 1) + (if L.1 - 1 = L.1 - 1 then L.2.2.1 (L.1 - 1) + 1 else _) = w + 1
    rw [if_pos rfl]
    omega
