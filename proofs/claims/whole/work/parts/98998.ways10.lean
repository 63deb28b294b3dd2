/-! LAYER 2: the reference counts ways to part a set -/
theorem nI_m1 (i : Nat) : nI i + (-1) = nI i - 1 := (Int32.sub_eq_add_neg (nI i) 1).symm
/-- the highest of the first numbers, and 1 -/
def zmx (f : Nat → Nat) : Nat → Nat
  | 0 => 0
  | i + 1 => max (zmx f i) (f i + 1)
theorem zmx_s (f : Nat → Nat) (i : Nat) : zmx f (i + 1) = max (zmx f i) (f i + 1) := rfl
theorem zmx_congr {f g : Nat → Nat} : ∀ i, (∀ j, j < i → f j = g j) → zmx f i = zmx g i
  | 0, _ => rfl
  | i + 1, h => by rw [zmx_s, zmx_s, zmx_congr i (fun j hj => h j (by omega)), h i (by omega)]
theorem zmx_lt {f : Nat → Nat} {j : Nat} : ∀ i, j < i → f j < zmx f i
  | 0, h => by omega
  | i + 1, h => by
    rw [zmx_s]
    by_cases e : j = i
    · rw [e]; omega
    · have := zmx_lt (f := f) i (show j < i by omega)
      omega
theorem zmx_up {f : Nat → Nat} {i c : Nat} : zmx (zupf f i c) (i + 1) = max (zmx f i) (c + 1) := by
  rw [zmx_s, zupf_eq, zmx_congr i (fun j hj => zupf_ne (by omega))]
theorem zmx_le {f : Nat → Nat} : ∀ i, (∀ j, j < i → f j < 10) → zmx f i ≤ 10
  | 0, _ => by show 0 ≤ 10; omega
  | i + 1, h => by
    have h1 := zmx_le (f := f) i (fun j hj => h j (by omega))
    have h2 := h i (by omega)
    rw [zmx_s]
    omega
theorem highest10 {M : ZMem} {f : Nat → Nat} {i n : Nat} (hi : i ≤ 10) (hf : ∀ j, j < i → f j < 10) (hM : ∀ j, j < i → M 91 j = nI (f j)) (hn : 20 < n) : zf_X10_highest n 91 10 (nI i) M = some (nI (zmx f i) - 1) := by
  unfold zf_X10_highest
  have key : ∀ d j m, j + d = i → d < m → zf_X10_highest_L4 (nI i) M 91 10 (fun v29 => some v29) m (nI (zmx f j) - 1) (nI j) = some (nI (zmx f i) - 1) := by
    intro d
    induction d with
    | zero =>
      intro j m hj hm
      obtain ⟨m, rfl⟩ : ∃ y, m = y + 1 := ⟨m - 1, by omega⟩
      rw [zf_X10_highest_L4, zi_le (by omega) (by omega), if_pos (by omega), show j = i by omega]
    | succ d ih =>
      intro j m hj hm
      obtain ⟨m, rfl⟩ : ∃ y, m = y + 1 := ⟨m - 1, by omega⟩
      have h1 := hf j (by omega)
      have h2 := zmx_le (f := f) j (fun x hx => hf x (by omega))
      have e := ih (j + 1) m (by omega) (by omega)
      unfold zf_X10_highest_L4 zf_X10_highest_j23
      rw [zi_le (by omega) (by omega), if_neg (by omega), zrd_at j rfl (by omega), zrd_at j rfl (by omega), hM j (by omega), nI_1]
      rw [zmx_s] at e
      by_cases c : f j < zmx f j
      · rw [if_pos ((hi_m1 (c := zmx f j) (by omega) (f j) (by omega)).mpr c)]
        rw [show max (zmx f j) (f j + 1) = zmx f j by omega] at e
        exact e
      · rw [if_neg (fun z => c ((hi_m1 (c := zmx f j) (by omega) (f j) (by omega)).mp z))]
        rw [show max (zmx f j) (f j + 1) = f j + 1 by omega, nI_pred] at e
        exact e
  exact key i 0 n (by omega) (by omega)
/-- the parts that stand, as sets -/
def BK (b f w : Nat → Nat) (i : Nat) : Prop := ∀ c x, (b c).testBit x = true ↔ ∃ j, j < i ∧ f j = c ∧ w j = x
theorem BK.up {b f w : Nat → Nat} {i c : Nat} (h : BK b f w i) : BK (zupf b c (b c ||| 2 ^ w i)) (zupf f i c) w (i + 1) := by
  intro d x
  by_cases e : d = c
  · subst e
    rw [zupf_eq, Nat.testBit_or, Nat.testBit_two_pow, Bool.or_eq_true, decide_eq_true_eq, h d x]
    constructor
    · intro g
      rcases g with ⟨j, h1, h2, h3⟩ | g
      · exact ⟨j, by omega, by rw [zupf_ne (by omega)]; exact h2, h3⟩
      · exact ⟨i, by omega, zupf_eq, g⟩
    · rintro ⟨j, h1, h2, h3⟩
      by_cases ej : j = i
      · subst ej; exact Or.inr h3
      · rw [zupf_ne ej] at h2
        exact Or.inl ⟨j, by omega, h2, h3⟩
  · rw [zupf_ne e, h d x]
    constructor
    · rintro ⟨j, h1, h2, h3⟩
      exact ⟨j, by omega, by rw [zupf_ne (by omega)]; exact h2, h3⟩
    · rintro ⟨j, h1, h2, h3⟩
      by_cases ej : j = i
      · subst ej
        rw [zupf_eq] at h2
        exact absurd h2.symm e
      · rw [zupf_ne ej] at h2
        exact ⟨j, by omega, h2, h3⟩
theorem stands10 {q : ZRow} {M : ZMem} {b f w : Nat → Nat} {i c n : Nat} (hi : i < 10) (hc : c < 10) (hw : ∀ j, j ≤ i → w j < 10) (hfo : ∀ j, j < 10 → q (63 + j) < 1024) (h63 : ∀ j, j < 10 → M 78 (63 + j) = nI (q (63 + j))) (hf : ∀ j, j < i → f j < 10) (h91 : ∀ j, j < i → M 91 j = nI (f j)) (h91i : M 91 i = nI c) (h90 : ∀ j, j ≤ i → M 90 j = nI (w j)) (hB : BK b f w i) (hn : 20 < n) : zf_X10_stands n (nI i) M = some (zB (zcmp q (w i) (b c))) := by
  have hE : zcmp q (w i) (b c) = zallF (fun j => !(decide (f j = c) && (q (63 + w i)).testBit (w j))) i 0 := by
    cases hz : zallF (fun j => !(decide (f j = c) && (q (63 + w i)).testBit (w j))) i 0 with
    | true =>
      rw [zallF_iff] at hz
      refine zcmp_iff.mpr (fun x hx => ?_)
      obtain ⟨j, j1, j2, j3⟩ := (hB c x).mp hx
      have := hz j (by omega) (by omega)
      rw [decide_eq_true j2, Bool.true_and, j3] at this
      simpa using this
    | false =>
      cases hy : zcmp q (w i) (b c) with
      | false => rfl
      | true =>
        rw [zcmp_iff] at hy
        have : zallF (fun j => !(decide (f j = c) && (q (63 + w i)).testBit (w j))) i 0 = true := (zallF_iff _ _).mpr (fun j _ hj => by
          by_cases e : f j = c
          · rw [hy (w j) ((hB c (w j)).mpr ⟨j, by omega, e, rfl⟩), Bool.and_false]; rfl
          · rw [decide_eq_false e]; rfl)
        rw [hz] at this
        cases this
  rw [hE]
  have hwi := hw i (Nat.le_refl _)
  have key : ∀ d j m, j + d = i → d < m → zf_X10_stands_L2 (nI i) M (some 1) m (nI j) = some (zB (zallF (fun j => !(decide (f j = c) && (q (63 + w i)).testBit (w j))) d j)) := by
    intro d
    induction d with
    | zero =>
      intro j m hj hm
      obtain ⟨m, rfl⟩ : ∃ y, m = y + 1 := ⟨m - 1, by omega⟩
      rw [zf_X10_stands_L2, zi_le (by omega) (by omega), if_pos (by omega)]
      rfl
    | succ d ih =>
      intro j m hj hm
      obtain ⟨m, rfl⟩ : ∃ y, m = y + 1 := ⟨m - 1, by omega⟩
      have e := ih (j + 1) m (by omega) (by omega)
      have h1 := hf j (by omega)
      rw [zallF_s]
      unfold zf_X10_stands_L2 zf_X10_stands_j50
      rw [zi_le (by omega) (by omega), if_neg (by omega), zrd_at j rfl (by omega), zrd_at i rfl (by omega), h91 j (by omega), h91i, zi_eq (by omega) (by omega), zrd_at i rfl (by omega), h90 i (Nat.le_refl _), zrd_at (i := (63 : Int32) + nI (w i)) (63 + w i) (nI_add 63 (w i)) (by omega), h63 _ hwi, zrd_at j rfl (by omega), h90 j (by omega), zb1_at (has10 (hfo _ hwi) (hw j (by omega))), zB0, nI_1]
      by_cases ec : f j = c
      · rw [if_pos ec, decide_eq_true ec, Bool.true_and]
        cases hz : (q (63 + w i)).testBit (w j) with
        | true => rfl
        | false => exact e
      · rw [if_neg ec, decide_eq_false ec]
        exact e
  unfold zf_X10_stands
  exact key i 0 n (by omega) (by omega)
def Zg3 (L : Nat → Int32 → Int32 → ZMem → Option (Int32 × ZMem)) (b : Nat) (v i : Int32) (M : ZMem) (v' i' : Int32) (M' : ZMem) : Prop := ∃ c, c ≤ b ∧ ∀ e, L (e + c) v i M = L e v' i' M'
theorem Zg3.trans {L : Nat → Int32 → Int32 → ZMem → Option (Int32 × ZMem)} {a b : Nat} {u i v j w k : Int32} {A B C : ZMem} (h : Zg3 L a u i A v j B) (g : Zg3 L b v j B w k C) : Zg3 L (a + b) u i A w k C := by
  obtain ⟨c, h1, h2⟩ := h
  obtain ⟨d, g1, g2⟩ := g
  exact ⟨c + d, by omega, fun e => by rw [show e + (c + d) = (e + d) + c by omega, h2, g2]⟩
theorem zg3_step {L : Nat → Int32 → Int32 → ZMem → Option (Int32 × ZMem)} {u i v j : Int32} {A B : ZMem} (h : ∀ e, L (e + 1) u i A = L e v j B) : Zg3 L 1 u i A v j B := ⟨1, Nat.le_refl _, h⟩
theorem Zg3.mono {L : Nat → Int32 → Int32 → ZMem → Option (Int32 × ZMem)} {a b : Nat} {u i v j : Int32} {A B : ZMem} (h : Zg3 L a u i A v j B) (hb : a ≤ b) : Zg3 L b u i A v j B := by
  obtain ⟨c, h1, h2⟩ := h
  exact ⟨c, by omega, h2⟩
set_option maxHeartbeats 1000000 in
theorem lvl10 {q : ZRow} {k n : Nat} {w : Nat → Nat} {l : List Nat} (hl : l.length ≤ 10) (hl0 : 0 < l.length) (hwl : ∀ j, j < l.length → l.getD j 0 = w j) (hw : ∀ j, w j < 10) (hfo : ∀ j, j < 10 → q (63 + j) < 1024) (hk : k < 2147483648) (hn : 20 < n) (K : Int32 → ZMem → Option (Int32 × ZMem)) : ∀ (d i : Nat) (f b : Nat → Nat) (M : ZMem) (a : Nat), i + d = l.length → (∀ j, j < i → M 91 j = nI (f j)) → (∀ j, i ≤ j → j < 10 → M 91 j = -1) → (∀ j, j < l.length → M 90 j = nI (w j)) → (∀ j, j < 10 → M 78 (63 + j) = nI (q (63 + j))) → (∀ j, j < i → f j < 10) → zmx f i ≤ k → zmx f i ≤ i → BK b f w i → Zg3 (zf_X10_splits_L97 (nI l.length) n (nI k) K) (zstp d) (nI a) (nI i) M (nI (a + zwy q k (l.drop i) (zmx f i) b)) (nI i - 1) M := by
  intro d
  induction d with
  | zero =>
    intro i f b M a hi h91 h91' h90 h63 hf hmk hmi hB
    have e : i = l.length := by omega
    have hd : l.drop i = [] := List.drop_of_length_le (by omega)
    rw [hd, zwy_0]
    refine ⟨0, Nat.le_refl _, fun x => ?_⟩
    cases x with
    | zero => rfl
    | succ x =>
      subst e
      have hh := highest10 (n := n) (i := l.length) hl (fun j hj => hf j (by omega)) (fun j hj => h91 j (by omega)) hn
      have e1 : nI l.length - 1 = nI (l.length - 1) := pk_sub (b := 1) (by omega)
      have hR : ∀ v, zf_X10_splits_L97 (nI l.length) n (nI k) K (x + 1) v (nI (l.length - 1)) M = zf_X10_splits_j135 M n (fun x0 x1 x2 => zf_X10_splits_L97 (nI l.length) n (nI k) K x x0 x1 x2) (nI k) v (nI (l.length - 1)) := fun v => by
        rw [zf_X10_splits_L97, if_neg (nI_pos (by omega)), zi_eq (by omega) (by omega), if_neg (by omega)]
      show zf_X10_splits_L97 (nI l.length) n (nI k) K (x + 1) (nI a) (nI l.length) M = zf_X10_splits_L97 (nI l.length) n (nI k) K (x + 1) _ (nI l.length - 1) M
      rw [e1, hR, zf_X10_splits_L97, if_neg (nI_pos (by omega)), if_pos rfl, zb1_at hh, nI_k1, zi_eq (by omega) hk]
      unfold zf_X10_splits_j129
      rw [nI_m1, e1]
      by_cases c : zmx f l.length = k
      · rw [if_pos c, if_pos c, nI_1]
      · rw [if_neg c, if_neg c, show nI a + 0 = nI a from Int32.add_zero _]
        rfl
  | succ d ih =>
    intro i f b M a hi h91 h91' h90 h63 hf hmk hmi hB
    have hil : i < l.length := by omega
    have hd : l.drop i = w i :: l.drop (i + 1) := by
      rw [List.drop_eq_getElem_cons hil]
      congr 1
      have := hwl i hil
      rw [List.getD_eq_getElem?_getD, List.getElem?_eq_getElem hil] at this
      exact this
    have hi91 : M 91 i = -1 := h91' i (Nat.le_refl _) (by omega)
    have hst0 : zwr M 91 i (nI 0 - 1) = M := zwr_same hi91
    have inner : ∀ (cc c a : Nat), c + cc = min (zmx f i + 1) k → Zg3 (zf_X10_splits_L97 (nI l.length) n (nI k) K) (cc * (zstp d + 1) + 1) (nI a) (nI i) (zwr M 91 i (nI c - 1)) (nI (a + zsum (fun j => if zcmp q (w i) (b (c + j)) = true then zwy q k (l.drop (i + 1)) (max (zmx f i) (c + j + 1)) (zupf b (c + j) (b (c + j) ||| 2 ^ w i)) else 0) cc)) (nI i - 1) M := by
      intro cc
      induction cc with
      | zero =>
        intro c a hc
        refine (zg3_step (fun x => ?_)).mono (by omega)
        have e1 : zwr M 91 i (nI c - 1) 91 i = nI c - 1 := wre
        have e2 : zwr M 91 i (nI c) 91 i = nI c := wre
        have hh := highest10 (M := zwr M 91 i (nI c)) (n := n) (f := f) (i := i) (by omega) hf (fun j hj => by rw [wrj (by omega)]; exact h91 j hj) hn
        have hz : zwr (zwr M 91 i (nI c)) 91 i (-1) = M := by rw [zwr_zwr]; exact zwr_same hi91
        show zf_X10_splits_L97 (nI l.length) n (nI k) K (x + 1) (nI a) (nI i) (zwr M 91 i (nI c - 1)) = zf_X10_splits_L97 (nI l.length) n (nI k) K x (nI (a + 0)) (nI i - 1) M
        rw [zf_X10_splits_L97, if_neg (nI_pos (by omega)), zi_eq (by omega) (by omega), if_neg (by omega)]
        unfold zf_X10_splits_j135 zf_X10_splits_j178
        rw [zrd_at i rfl (by omega), e1, nI_k1, zst_at i rfl (by omega), zwr_zwr, zrd_at i rfl (by omega), e2, zb1_at hh, nI_k1, zi_lt (by omega) (by omega), zrd_at i rfl (by omega), e2, zi_lt (by omega) hk, zst_at i rfl (by omega), hz, nI_m1, Nat.add_zero]
        by_cases c1 : zmx f i < c
        · rw [if_pos c1]
        · rw [if_neg c1, if_neg (by omega)]
      | succ cc ihc =>
        intro c a hc
        have hcm : c ≤ zmx f i := by omega
        have hck : c < k := by omega
        have e1 : zwr M 91 i (nI c - 1) 91 i = nI c - 1 := wre
        have e2 : zwr M 91 i (nI c) 91 i = nI c := wre
        have hh := highest10 (M := zwr M 91 i (nI c)) (n := n) (f := f) (i := i) (by omega) hf (fun j hj => by rw [wrj (by omega)]; exact h91 j hj) hn
        have hs := stands10 (q := q) (M := zwr M 91 i (nI c)) (b := b) (f := f) (w := w) (i := i) (c := c) (n := n) (by omega) (by omega) (fun j _ => hw j) hfo (fun j hj => by rw [wrn (by omega)]; exact h63 j hj) hf (fun j hj => by rw [wrj (by omega)]; exact h91 j hj) e2 (fun j hj => by rw [wrn (by omega)]; exact h90 j (by omega)) hB hn
        have hstep : ∀ x, zf_X10_splits_L97 (nI l.length) n (nI k) K (x + 1) (nI a) (nI i) (zwr M 91 i (nI c - 1)) = if zcmp q (w i) (b c) = true then zf_X10_splits_L97 (nI l.length) n (nI k) K x (nI a) (nI (i + 1)) (zwr M 91 i (nI c)) else zf_X10_splits_L97 (nI l.length) n (nI k) K x (nI a) (nI i) (zwr M 91 i (nI c)) := fun x => by
          rw [zf_X10_splits_L97, if_neg (nI_pos (by omega)), zi_eq (by omega) (by omega), if_neg (by omega)]
          unfold zf_X10_splits_j135
          rw [zrd_at i rfl (by omega), e1, nI_k1, zst_at i rfl (by omega), zwr_zwr, zrd_at i rfl (by omega), e2, zb1_at hh, nI_k1, zi_lt (by omega) (by omega), if_neg (by omega), zrd_at i rfl (by omega), e2, zi_lt (by omega) hk, if_pos hck, zb1_at hs, zB0, nI_1]
        have ek : nI (c + 1) - 1 = nI c := nI_pred c
        have hmul : (cc + 1) * (zstp d + 1) = cc * (zstp d + 1) + (zstp d + 1) := Nat.succ_mul _ _
        have hsh : ∀ t : Nat → Nat, (fun j => t (c + 1 + j)) = fun j => t (c + (j + 1)) := fun t => by
          funext j
          rw [show c + 1 + j = c + (j + 1) by omega]
        have hcong : zsum (fun j => if zcmp q (w i) (b (c + 1 + j)) = true then zwy q k (l.drop (i + 1)) (max (zmx f i) (c + 1 + j + 1)) (zupf b (c + 1 + j) (b (c + 1 + j) ||| 2 ^ w i)) else 0) cc = zsum (fun j => if zcmp q (w i) (b (c + (j + 1))) = true then zwy q k (l.drop (i + 1)) (max (zmx f i) (c + (j + 1) + 1)) (zupf b (c + (j + 1)) (b (c + (j + 1)) ||| 2 ^ w i)) else 0) cc := zsum_congr (fun j hj => by rw [show c + 1 + j = c + (j + 1) by omega])
        rw [zsum_h]
        by_cases hfr : zcmp q (w i) (b c) = true
        · simp only [hfr, if_true] at hstep
          have i1 := ih (i + 1) (zupf f i c) (zupf b c (b c ||| 2 ^ w i)) (zwr M 91 i (nI c)) a (by omega) (fun j hj => by
            by_cases e : j = i
            · subst e; rw [wre, zupf_eq]
            · rw [wrj e, zupf_ne e]; exact h91 j (by omega)) (fun j h1 h2 => by rw [wrj (by omega)]; exact h91' j (by omega) h2) (fun j hj => by rw [wrn (by omega)]; exact h90 j hj) (fun j hj => by rw [wrn (by omega)]; exact h63 j hj) (fun j hj => by
            by_cases e : j = i
            · subst e; rw [zupf_eq]; omega
            · rw [zupf_ne e]; exact hf j (by omega)) (by rw [zmx_up]; omega) (by rw [zmx_up]; omega) hB.up
          rw [zmx_up, nI_pred] at i1
          have i2 := ihc (c + 1) (a + zwy q k (l.drop (i + 1)) (max (zmx f i) (c + 1)) (zupf b c (b c ||| 2 ^ w i))) (by omega)
          rw [ek, hcong] at i2
          have i3 := ((zg3_step hstep).trans i1).trans i2
          have e3 : (if zcmp q (w i) (b (c + 0)) = true then zwy q k (l.drop (i + 1)) (max (zmx f i) (c + 0 + 1)) (zupf b (c + 0) (b (c + 0) ||| 2 ^ w i)) else 0) = zwy q k (l.drop (i + 1)) (max (zmx f i) (c + 1)) (zupf b c (b c ||| 2 ^ w i)) := if_pos hfr
          rw [e3, ← Nat.add_assoc]
          exact i3.mono (by omega)
        · simp only [hfr, if_false] at hstep
          have i2 := ihc (c + 1) a (by omega)
          rw [ek, hcong] at i2
          have i3 := (zg3_step hstep).trans i2
          have e3 : (if zcmp q (w i) (b (c + 0)) = true then zwy q k (l.drop (i + 1)) (max (zmx f i) (c + 0 + 1)) (zupf b (c + 0) (b (c + 0) ||| 2 ^ w i)) else 0) = 0 := if_neg hfr
          rw [e3, Nat.zero_add]
          exact i3.mono (by omega)
    have h0 := inner (min (zmx f i + 1) k) 0 a (by omega)
    rw [hst0] at h0
    have hle : min (zmx f i + 1) k * (zstp d + 1) + 1 ≤ zstp (d + 1) := by
      show _ ≤ 11 * (zstp d + 1)
      have : min (zmx f i + 1) k * (zstp d + 1) ≤ 10 * (zstp d + 1) := Nat.mul_le_mul_right _ (by omega)
      omega
    rw [hd, zwy_s]
    have hsum : zsum (fun j => if zcmp q (w i) (b (0 + j)) = true then zwy q k (l.drop (i + 1)) (max (zmx f i) (0 + j + 1)) (zupf b (0 + j) (b (0 + j) ||| 2 ^ w i)) else 0) (min (zmx f i + 1) k) = zsum (fun c => if zcmp q (w i) (b c) = true then zwy q k (l.drop (i + 1)) (max (zmx f i) (c + 1)) (zupf b c (b c ||| 2 ^ w i)) else 0) (zmx f i + 1) := by
      have hs1 : zsum (fun j => if zcmp q (w i) (b (0 + j)) = true then zwy q k (l.drop (i + 1)) (max (zmx f i) (0 + j + 1)) (zupf b (0 + j) (b (0 + j) ||| 2 ^ w i)) else 0) (min (zmx f i + 1) k) = zsum (fun c => if zcmp q (w i) (b c) = true then zwy q k (l.drop (i + 1)) (max (zmx f i) (c + 1)) (zupf b c (b c ||| 2 ^ w i)) else 0) (min (zmx f i + 1) k) := zsum_congr (fun j hj => by rw [Nat.zero_add])
      rw [hs1]
      by_cases g : zmx f i + 1 ≤ k
      · rw [Nat.min_eq_left g]
      · rw [show min (zmx f i + 1) k = zmx f i by omega]
        show _ = zsum _ (zmx f i) + (if zcmp q (w i) (b (zmx f i)) = true then zwy q k (l.drop (i + 1)) (max (zmx f i) (zmx f i + 1)) (zupf b (zmx f i) (b (zmx f i) ||| 2 ^ w i)) else 0)
        have : (if zcmp q (w i) (b (zmx f i)) = true then zwy q k (l.drop (i + 1)) (max (zmx f i) (zmx f i + 1)) (zupf b (zmx f i) (b (zmx f i) ||| 2 ^ w i)) else 0) = 0 := by
          split
          · exact zwy_gt _ _ _ (by omega)
          · rfl
        rw [this]
        rfl
    rw [hsum] at h0
    exact h0.mono hle
theorem getD_app {l : List Nat} {x j : Nat} : (l ++ [x]).getD j 0 = if j < l.length then l.getD j 0 else if j = l.length then x else 0 := by
  rw [List.getD_eq_getElem?_getD, List.getD_eq_getElem?_getD]
  by_cases h : j < l.length
  · rw [if_pos h, List.getElem?_append_left h]
  · rw [if_neg h, List.getElem?_append_right (by omega)]
    by_cases e : j = l.length
    · rw [if_pos e, e, Nat.sub_self]
      rfl
    · rw [if_neg e]
      obtain ⟨y, hy⟩ : ∃ y, j - l.length = y + 1 := ⟨j - l.length - 1, by omega⟩
      rw [hy]
      rfl
theorem who10 {q : ZRow} {s : Nat} (hs : s < 1024) (h0 : q 0 ≤ 10) (K : Int32 → ZMem → Option (Int32 × ZMem)) : ∀ d i m (S : ZMem), i + d = q 0 → d < m → S 78 0 = nI (q 0) → (∀ j, j < (zel s i).length → S 90 j = nI ((zel s i).getD j 0)) → ∃ S', zf_X10_splits_L16 (nI s) K m (nI (zel s i).length) (nI i) S = K (nI (zel s (q 0)).length) S' ∧ (∀ j, j < (zel s (q 0)).length → S' 90 j = nI ((zel s (q 0)).getD j 0)) ∧ Fr 90 90 S S' := by
  intro d
  induction d with
  | zero =>
    intro i m S hi hm h78 h90
    obtain ⟨m, rfl⟩ : ∃ y, m = y + 1 := ⟨m - 1, by omega⟩
    have e : i = q 0 := by omega
    rw [e] at h90 ⊢
    refine ⟨S, ?_, h90, Fr.refl _ _ _⟩
    rw [zf_X10_splits_L16, zrd_at (i := (0 : Int32)) 0 rfl (by omega), h78, zi_le (by omega) (by omega), if_pos (Nat.le_refl _)]
  | succ d ih =>
    intro i m S hi hm h78 h90
    obtain ⟨m, rfl⟩ : ∃ y, m = y + 1 := ⟨m - 1, by omega⟩
    have hlen := zel_len s i
    rw [zf_X10_splits_L16, zrd_at (i := (0 : Int32)) 0 rfl (by omega), h78, zi_le (by omega) (by omega), if_neg (by omega), zb1_at (has10 hs (by omega)), zB0]
    unfold zf_X10_splits_j47
    by_cases hb : s.testBit i = true
    · have ez : zel s (i + 1) = zel s i ++ [i] := by rw [zel_s, if_pos hb]
      have el : (zel s (i + 1)).length = (zel s i).length + 1 := by rw [ez, List.length_append]; rfl
      rw [if_pos hb, zst_at (zel s i).length rfl (by omega), nI_1, nI_1]
      obtain ⟨S', a1, a2, a3⟩ := ih (i + 1) m (zwr S 90 (zel s i).length (nI i)) (by omega) (by omega) (by rw [wrn (by omega)]; exact h78) (fun j hj => by
        rw [el] at hj
        rw [ez, getD_app]
        by_cases e : j = (zel s i).length
        · rw [if_neg (by omega), if_pos e, e, wre]
        · rw [wrj e, if_pos (by omega)]
          exact h90 j (by omega))
      rw [el] at a1
      exact ⟨S', a1, a2, (Fr.wr S _ _ (by omega) (by omega)).trans a3⟩
    · have ez : zel s (i + 1) = zel s i := by rw [zel_s, if_neg hb]
      rw [if_neg hb, nI_1]
      obtain ⟨S', a1, a2, a3⟩ := ih (i + 1) m S (by omega) (by omega) h78 (fun j hj => by
        rw [ez] at hj ⊢
        exact h90 j hj)
      rw [ez] at a1
      exact ⟨S', a1, a2, a3⟩
theorem fill_73 {M : ZMem} {n : Nat} (K : ZMem → Option (Int32 × ZMem)) (hn : 20 < n) : zf_X10_splits_L73 K n 0 M = K (zfl M 91 (-1) 10) := by
  have key := zloop (fun k i (S : ZMem) => zf_X10_splits_L73 K k (nI i) S) (zfl M 91 (-1)) (K (zfl M 91 (-1) 10)) 10 (fun k i hi => by
      show zf_X10_splits_L73 K (k + 1) (nI i) _ = zf_X10_splits_L73 K k (nI (i + 1)) _
      rw [zf_X10_splits_L73, show (10 : Int32) = nI 10 from rfl, zi_le (by omega) (by omega), if_neg (by omega), zst_at i rfl hi, zfl_s, nI_1]) (fun k => by
      show zf_X10_splits_L73 K (k + 1) (nI 10) _ = _
      rw [zf_X10_splits_L73, show (10 : Int32) = nI 10 from rfl, zi_le (by omega) (by omega), if_pos (by omega)]) n 0 (by omega) (by omega)
  rw [zfl_0] at key
  exact key
theorem splits10 {M : ZMem} {r : ZRow} {k n : Nat} (hI : IR M r) (hw : WF r) (hk : k < 2147483648) (hn : 400000000001 < n) : ∃ M', zf_X10_splits n (nI k) M = some (nI (zP r k (zin r)), M') ∧ Fr 90 91 M M' := by
  have hb := hw.b
  have hinl := zin_lt hw.1
  have hil : zin r < 2 ^ r 0 := zset_lt _ _
  have hst : zel (zin r) 10 = zel (zin r) (r 0) := by
    have := zel_stab hil (10 - r 0)
    rw [show r 0 + (10 - r 0) = 10 by omega] at this
    exact this
  have h78 : M 78 0 = nI (r 0) := by rw [hI 0 (by omega), rI_ne (by omega)]
  have hlen := zel_len (zin r) (r 0)
  obtain ⟨S, a1, a2, a3⟩ := who10 (q := r) hinl (by omega) (fun v45 M46 => (if v45 = 0 then (if nI k = 0 then (zf_X10_splits_j66 M46 (1 : Int32)) else (zf_X10_splits_j66 M46 (0 : Int32))) else (zf_X10_splits_L73 (fun M51 => (zf_X10_splits_L97 v45 n (nI k) (fun v68 M69 => some (v68, M69)) n (0 : Int32) (0 : Int32) M51)) n (0 : Int32) M46))) (r 0) 0 n M (by omega) (by omega) h78 (fun j hj => absurd hj (Nat.not_lt_zero _))
  unfold zf_X10_splits
  rw [if_pos (Int32.not_lt.mp (nI_pos hk)), zb1_at (inNow10 hI hw)]
  have a1' : zf_X10_splits_L16 (nI (zin r)) (fun v45 M46 => (if v45 = 0 then (if nI k = 0 then (zf_X10_splits_j66 M46 (1 : Int32)) else (zf_X10_splits_j66 M46 (0 : Int32))) else (zf_X10_splits_L73 (fun M51 => (zf_X10_splits_L97 v45 n (nI k) (fun v68 M69 => some (v68, M69)) n (0 : Int32) (0 : Int32) M51)) n (0 : Int32) M46))) n 0 0 M = _ := a1
  rw [a1']
  show ∃ M', (if nI (zel (zin r) (r 0)).length = 0 then (if nI k = 0 then (zf_X10_splits_j66 S (1 : Int32)) else (zf_X10_splits_j66 S (0 : Int32))) else (zf_X10_splits_L73 (fun M51 => (zf_X10_splits_L97 (nI (zel (zin r) (r 0)).length) n (nI k) (fun v68 M69 => some (v68, M69)) n (0 : Int32) (0 : Int32) M51)) n (0 : Int32) S)) = _ ∧ _
  by_cases c0 : (zel (zin r) (r 0)).length = 0
  · have hnil : zel (zin r) 10 = [] := by rw [hst]; exact List.eq_nil_of_length_eq_zero c0
    have hz : zP r k (zin r) = if 0 = k then 1 else 0 := by unfold zP; rw [hnil, zwy_0]
    rw [c0, if_pos (show nI 0 = 0 from rfl), show (0 : Int32) = nI 0 from rfl, zi_eq hk (by omega), hz]
    unfold zf_X10_splits_j66
    by_cases ck : k = 0
    · rw [if_pos ck, if_pos ck.symm]
      exact ⟨S, rfl, a3.mono (by omega) (by omega)⟩
    · rw [if_neg ck, if_neg (Ne.symm ck)]
      exact ⟨S, rfl, a3.mono (by omega) (by omega)⟩
  · have hz0 : ¬ nI (zel (zin r) (r 0)).length = 0 := fun z => c0 ((nI_eq (by omega) (by omega)).mp (show nI (zel (zin r) (r 0)).length = nI 0 from z))
    rw [if_neg hz0, fill_73 _ (by omega)]
    have hzs := zstp_10 (show (zel (zin r) (r 0)).length ≤ 10 by omega)
    obtain ⟨c, c1, c2⟩ := lvl10 (q := r) (k := k) (n := n) (w := fun j => (zel (zin r) (r 0)).getD j 0) (l := zel (zin r) (r 0)) (by omega) (by omega) (fun j hj => rfl) (fun j => by
      show (zel (zin r) (r 0)).getD j 0 < 10
      by_cases hj : j < (zel (zin r) (r 0)).length
      · rw [List.getD_eq_getElem?_getD, List.getElem?_eq_getElem hj]
        have := (zel_mem (r 0) (List.getElem_mem hj)).1
        show (zel (zin r) (r 0))[j] < 10
        omega
      · rw [List.getD_eq_getElem?_getD, List.getElem?_eq_none (by omega)]
        show 0 < 10
        omega) (fun j hj => hw.foe hj) hk (by omega) (fun v68 M69 => some (v68, M69)) (zel (zin r) (r 0)).length 0 (fun _ => 0) (fun _ => 0) (zfl S 91 (-1) 10) 0 (by omega) (fun j hj => by omega) (fun j _ hj => zfl_at hj) (fun j hj => by rw [zfl_ne (by omega)]; exact a2 j hj) (fun j hj => by rw [zfl_ne (by omega), a3 78 (by omega), hI _ (by omega), rI_ne (by omega)]) (fun j hj => by omega) (Nat.zero_le _) (Nat.zero_le _) (fun c x => by
        rw [Nat.zero_testBit]
        constructor
        · intro z; cases z
        · rintro ⟨j, h1, -⟩; omega)
    obtain ⟨e, rfl⟩ : ∃ x, n = (x + 1) + c := ⟨n - c - 1, by omega⟩
    refine ⟨zfl S 91 (-1) 10, ?_, (a3.mono (by omega) (by omega)).trans (Fr.fl S _ _ (by omega) (by omega))⟩
    have c2' := c2 (e + 1)
    refine (show zf_X10_splits_L97 _ _ _ _ _ (nI 0) (nI 0) _ = _ from c2').trans ?_
    rw [zf_X10_splits_L97, if_pos (by decide), Nat.zero_add, List.drop_zero]
    unfold zP
    rw [hst]
    rfl
theorem op_splits {n : Nat} (hn : 400000000001 < n) {M : ZMem} (hI : INV M) (a : Int32) : OPW (zf_X9_splits n a) (zf_X10_splits n a) M := by
  have hI2 := hI
  obtain ⟨t, nx, r, u, U, T, L, hS, hC, hM⟩ := hI2
  have hw := hS.1.1
  have hb := hw.b
  have ht := hC.t
  rcases zint a with ha | ⟨k, hk, rfl⟩
  · have hna : ¬ (0 : Int32) ≤ a := fun z => absurd ha (Int32.not_lt.mpr z)
    refine OPW.same (-1) ?_ ?_ hI
    · unfold zf_X9_splits
      rw [if_neg hna]
    · unfold zf_X10_splits
      rw [if_neg hna]
  · have hsym : zsym r := fun i j hi hj => by
      obtain ⟨-, -, -, -, -, -, -, -, -, -, -, -, -, -, -, -, -, hf⟩ := hw
      exact (hf i hi).2 j hj
    have htk := take6 hw.1 hC.tk (by omega) (by omega)
    obtain ⟨k0, k1, k5, kn⟩ := ztk_57 (M := M) (o := 12) (q := r)
    have k58 := ztk_58 (M := M) (o := 12) (q := r) hC.tk.2.2 (by omega)
    have hWC : WC (ztk M 12 r) := hC.2.2.2.2.2.2.2.1.congr (kn 7 (by omega) (by omega) (by omega)) (kn 8 (by omega) (by omega) (by omega))
    obtain ⟨M1, e1, e2, e3⟩ := waysInto6 (n := n) (k := k) hsym hw.1 (fun j hj => hw.foe hj) k0 k1 k58 hWC hk (by omega)
    have hfr : ∀ x, x ≠ 57 → x ≠ 58 → (x < 60 ∨ 62 < x) → M1 x = M x := fun x y1 y2 y3 => by rw [e3.1 x y1 y3, ztk_ne y1 y2]
    refine OPW.of (t := t) (nx := nx) (t' := t) (nx' := nx) hM hS (v := nI (zP r k (zin r))) ⟨M1, ?_, ?_, fun x hx => hfr x (by omega) (by omega) (by omega)⟩ (fun A hA => ?_)
    · unfold zf_X9_splits
      rw [if_pos (Int32.not_lt.mp (nI_pos hk)), hC.1.dy, zb1_at htk, zb2_at e1]
    · exact hC.scratch (fun x hx => hfr x (by unfold zkeep at hx; omega) (by unfold zkeep at hx; omega) (by unfold zkeep at hx; omega)) e2 (hC.2.2.2.2.2.2.2.2.congr (hfr 71 (by omega) (by omega) (by omega)) (hfr 72 (by omega) (by omega) (by omega)))
    · obtain ⟨B, f1, f2⟩ := splits10 (n := n) (k := k) hA.1 hw hk hn
      exact ⟨B, f1, hA.scratch (f2 78 (by omega)) (f2 80 (by omega)) (f2 81 (by omega)) (f2 82 (by omega)) (f2 83 (by omega)) (f2 84 (by omega)) (by rw [f2 77 (by omega)]) (by rw [f2 77 (by omega)]) (by rw [f2 77 (by omega)]), fun x hx => f2 x (by omega)⟩
