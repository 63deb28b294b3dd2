/-! LAYER 2: the class counts ways to part a set -/
theorem zind_top {q : ZRow} (hq : zsym q) {i x : Nat} (hi : i < 10) (hx : x < 1024) : zind q (x ||| 2 ^ i) = (zind q x && zcmp q i x) := by
  by_cases h : zind q (x ||| 2 ^ i) = true
  · have h1 : zcmp q i x = true := zind_sub (x := 0) hx hi (by rw [Nat.zero_or]; exact h)
    have h2 : zind q x = true := zind_iff.mpr (fun a ha b hb c d => zind_iff.mp h a ha b hb (by rw [Nat.testBit_or, c, Bool.true_or]) (by rw [Nat.testBit_or, d, Bool.true_or]))
    rw [h, h1, h2]
    rfl
  · have h' : zind q (x ||| 2 ^ i) = false := by simpa using h
    rw [h']
    cases h2 : zind q x with
    | false => rfl
    | true =>
      cases h1 : zcmp q i x with
      | false => rfl
      | true => exact absurd (zind_add hq hi h2 h1) h
theorem nar0 : vp_nar .boolean (0 : Int32) = zB false := by decide +kernel
theorem nar1 : vp_nar .boolean (1 : Int32) = zB true := by decide +kernel
theorem pow_or {i x : Nat} (h : x < 2 ^ i) : 2 ^ i ||| x = 2 ^ i + x := by
  have := Nat.two_pow_add_eq_or_of_lt h 1
  rw [Nat.mul_one] at this
  exact this.symm
def PT (M : ZMem) (q : ZRow) (m : Nat) : Prop := ∀ y, y < m → M 60 y = zB (zind q y)
theorem peace6_i {q : ZRow} (hq : zsym q) (hf : ∀ j, j < 10 → q (63 + j) < 1024) {i : Nat} (hi : i < 10) (K : ZMem → Option ZMem) : ∀ d x m (S : ZMem), x + d = 2 ^ i → d < m → (∀ j, j < 10 → S 58 j = nI (q (63 + j))) → PT S q (2 ^ i + x) → ∃ S', zf_X6_markPeaceful_L23 (nI i) K m (nI x) S = K S' ∧ PT S' q (2 ^ (i + 1)) ∧ Fr 60 60 S S' := by
  have hp := pow10 hi
  have hp2 : 2 ^ (i + 1) = 2 ^ i + 2 ^ i := by rw [Nat.pow_succ, Nat.mul_two]
  have hp3 : 2 ^ (i + 1) ≤ 1024 := zpow_le (by omega)
  intro d
  induction d with
  | zero =>
    intro x m S hx hm h58 hP
    obtain ⟨m, rfl⟩ : ∃ y, m = y + 1 := ⟨m - 1, by omega⟩
    refine ⟨S, ?_, by rw [hp2]; rw [show x = 2 ^ i by omega] at hP; exact hP, Fr.refl _ _ _⟩
    rw [zf_X6_markPeaceful_L23, zpow i (by omega), zi_le (by omega) (by omega), if_pos (by omega)]
  | succ d ih =>
    intro x m S hx hm h58 hP
    obtain ⟨m, rfl⟩ : ∃ y, m = y + 1 := ⟨m - 1, by omega⟩
    have hxl : x < 2 ^ i := by omega
    have hfi := hf i hi
    have hand : q (63 + i) &&& x < 1024 := Nat.lt_of_le_of_lt Nat.and_le_left hfi
    have hz : zind q (2 ^ i + x) = (zind q x && zcmp q i x) := by rw [← pow_or hxl, Nat.or_comm]; exact zind_top hq hi (by omega)
    have go : ∀ b, b = zind q (2 ^ i + x) → ∃ S', zf_X6_markPeaceful_L23 (nI i) K m (nI x + 1) (zwr S 60 (2 ^ i + x) (zB b)) = K S' ∧ PT S' q (2 ^ (i + 1)) ∧ Fr 60 60 S S' := by
      intro b hb
      obtain ⟨S', a1, a2, a3⟩ := ih (x + 1) m (zwr S 60 (2 ^ i + x) (zB b)) (by omega) (by omega) (fun j hj => by rw [wrn (by omega)]; exact h58 j hj) (fun y hy => by
        by_cases e : y = 2 ^ i + x
        · rw [e, wre, hb]
        · rw [wrj e]; exact hP y (by omega))
      exact ⟨S', by rw [nI_1]; exact a1, a2, (Fr.wr S _ _ (by omega) (by omega)).trans a3⟩
    rw [zf_X6_markPeaceful_L23, zpow i (by omega), zi_le (by omega) (by omega), if_neg (by omega), zrd_at x rfl (by omega), hP x (by omega), zB0]
    unfold zf_X6_markPeaceful_j59 zf_X6_markPeaceful_j60
    rw [zpow i (by omega), nI_or, pow_or hxl, zst_at (2 ^ i + x) rfl (by omega), zst_at (2 ^ i + x) rfl (by omega), nar0, nar1, zrd_at i rfl (by omega), h58 i hi, nI_and, show (0 : Int32) = nI 0 from rfl, zi_eq (by omega) (by omega)]
    cases h1 : zind q x with
    | false =>
      rw [if_neg (by decide)]
      exact go false (by rw [hz, h1]; rfl)
    | true =>
      rw [if_pos rfl]
      by_cases hc : q (63 + i) &&& x = 0
      · rw [if_pos hc]
        exact go true (by rw [hz, h1]; unfold zcmp; rw [decide_eq_true hc]; rfl)
      · rw [if_neg hc]
        exact go false (by rw [hz, h1]; unfold zcmp; rw [decide_eq_false hc]; rfl)
theorem peace6 {q : ZRow} (hq : zsym q) (h0 : q 0 ≤ 10) (hf : ∀ j, j < 10 → q (63 + j) < 1024) {M : ZMem} {n : Nat} (p0 : M 57 0 = nI (q 0)) (p4 : ∀ j, j < 10 → M 58 j = nI (q (63 + j))) (hn : 1100 < n) : ∃ M', zf_X6_markPeaceful n M = some M' ∧ PT M' q (2 ^ q 0) ∧ Fr 60 60 M M' := by
  have key : ∀ d i m (S : ZMem), i + d = q 0 → d < m → S 57 0 = nI (q 0) → (∀ j, j < 10 → S 58 j = nI (q (63 + j))) → PT S q (2 ^ i) → ∃ S', zf_X6_markPeaceful_L9 n (fun M37 => some M37) m (nI i) S = some S' ∧ PT S' q (2 ^ q 0) ∧ Fr 60 60 S S' := by
    intro d
    induction d with
    | zero =>
      intro i m S hi hm s0 s4 hP
      obtain ⟨m, rfl⟩ : ∃ y, m = y + 1 := ⟨m - 1, by omega⟩
      refine ⟨S, ?_, by rw [show i = q 0 by omega] at hP; exact hP, Fr.refl _ _ _⟩
      rw [zf_X6_markPeaceful_L9, s0, zi_le (by omega) (by omega), if_pos (by omega)]
    | succ d ih =>
      intro i m S hi hm s0 s4 hP
      obtain ⟨m, rfl⟩ : ∃ y, m = y + 1 := ⟨m - 1, by omega⟩
      have hpi := pow10 (show i < 10 by omega)
      obtain ⟨S1, a1, a2, a3⟩ := peace6_i hq hf (show i < 10 by omega) (fun M36 => (zf_X6_markPeaceful_L9 n (fun M37 => some M37) m (nI i + (1 : Int32)) M36)) (2 ^ i) 0 n S (by omega) (by omega) s4 (by rw [Nat.add_zero]; exact hP)
      obtain ⟨S2, b1, b2, b3⟩ := ih (i + 1) m S1 (by omega) (by omega) (by rw [a3 57 (by omega)]; exact s0) (fun j hj => by rw [a3 58 (by omega)]; exact s4 j hj) a2
      refine ⟨S2, ?_, b2, a3.trans b3⟩
      rw [zf_X6_markPeaceful_L9, s0, zi_le (by omega) (by omega), if_neg (by omega)]
      refine (show zf_X6_markPeaceful_L23 (nI i) _ n 0 S = _ from a1).trans ?_
      show zf_X6_markPeaceful_L9 n _ m (nI i + 1) S1 = _
      rw [nI_1]
      exact b1
  unfold zf_X6_markPeaceful
  rw [zst_at (i := (0 : Int32)) 0 rfl (by omega), nar1]
  obtain ⟨S, a1, a2, a3⟩ := key (q 0) 0 n (zwr M 60 0 (zB true)) (by omega) (by omega) (by rw [wrn (by omega)]; exact p0) (fun j hj => by rw [wrn (by omega)]; exact p4 j hj) (fun y hy => by
    have : y = 0 := by
      have : 2 ^ 0 = 1 := rfl
      omega
    subst this
    rw [wre, zind_iff.mpr (fun i _ j _ h1 _ => by rw [Nat.zero_testBit] at h1; cases h1)])
  exact ⟨S, a1, a2, (Fr.wr M _ _ (by omega) (by omega)).trans a3⟩
/-- what waysOf sums -/
def zwt9 (q : ZRow) (s : Nat) (w : Nat → Nat) (x : Nat) : Nat := if x &&& (s &&& (s - 1)) = x then (if zind q (2 ^ zlo s ||| x) = true then w ((s &&& (s - 1)) ^^^ x) else 0) else 0
theorem waysOf6 {q : ZRow} {M : ZMem} {s o n : Nat} {w : Nat → Nat} (h0 : q 0 ≤ 10) (hs : s < 2 ^ q 0) (hP : PT M q (2 ^ q 0)) (hw : ∀ y, y < 1024 → M o y = nI (w y)) (hn : 1100 < n) : zf_X6_waysOf n (nI s) o 1024 M = some (nI (if s = 0 then 0 else zsum (zwt9 q s w) 1024)) := by
  have hpl := zpow_le h0
  unfold zf_X6_waysOf
  by_cases e0 : s = 0
  · subst e0
    rw [if_pos (by decide), if_pos rfl]
    rfl
  · obtain ⟨a1, a2, a3, a4⟩ := zlo_eq s (by omega) e0
    have hlo : 2 ^ zlo s < 2 ^ q 0 := by
      refine zpow_lt ?_
      by_cases g : zlo s < q 0
      · exact g
      · rw [tb_lt hs (by omega)] at a4; cases a4
    have hrs : s &&& (s - 1) ≤ s := Nat.and_le_left
    have hpos := Nat.two_pow_pos (zlo s)
    have er : nI s &&& (nI s - 1) = nI (s &&& (s - 1)) := by rw [show nI s - 1 = nI (s - 1) from pk_sub (b := 1) (by omega), nI_and]
    rw [if_neg e0, er, nI_xor, a2, show (0 : Int32) = nI 0 from rfl, zi_eq (by omega) (by omega), if_neg (by omega)]
    generalize hr : s &&& (s - 1) = r at *
    have hf : ∀ x, r < x → zwt9 q s w x = 0 := fun x hx => by
      unfold zwt9
      rw [hr, if_neg (fun z => by
        have : x &&& r ≤ r := Nat.and_le_right
        omega)]
    have key : ∀ o', o' &&& r = o' → ∀ a st m, st + o' ≤ 1023 → o' < m → zf_X6_waysOf_L27 M (nI s) o 1024 (fun v32 => (zf_X6_waysOf_j81 v32)) (fun v33 => (zf_X6_waysOf_j81 v33)) m (nI a) (nI o') (nI st) = some (nI (a + zsum (zwt9 q s w) (o' + 1))) := by
      intro o'
      induction o' using Nat.strongRecOn with
      | ind o' ih =>
        intro ho a st m hst hm
        obtain ⟨m, rfl⟩ : ∃ y, m = y + 1 := ⟨m - 1, by omega⟩
        have hol : o' ≤ r := by rw [← ho]; exact Nat.and_le_right
        have hor : 2 ^ zlo s ||| o' < 2 ^ q 0 := Nat.or_lt_two_pow hlo (by omega)
        have hxr : r ^^^ o' < 2 ^ q 0 := Nat.xor_lt_two_pow (by omega) (by omega)
        have hg : zwt9 q s w o' = if zind q (2 ^ zlo s ||| o') = true then w (r ^^^ o') else 0 := by
          unfold zwt9
          rw [hr, if_pos ho]
        have go : ∀ y, y = a + zwt9 q s w o' → zf_X6_waysOf_j59 (nI o') (fun v33 => (zf_X6_waysOf_j81 v33)) (fun x0 x1 x2 => zf_X6_waysOf_L27 M (nI s) o 1024 (fun v32 => (zf_X6_waysOf_j81 v32)) (fun v33 => (zf_X6_waysOf_j81 v33)) m x0 x1 x2) (nI s) (nI st) (nI y) = some (nI (a + zsum (zwt9 q s w) (o' + 1))) := by
          intro y hy
          unfold zf_X6_waysOf_j59
          rw [er, show (0 : Int32) = nI 0 from rfl, zi_eq (by omega) (by omega)]
          by_cases e : o' = 0
          · subst e
            rw [if_pos rfl, hy]
            show some (nI (a + zwt9 q s w 0)) = some (nI (a + (0 + zwt9 q s w 0)))
            rw [Nat.zero_add]
          · have hnx : (o' - 1) &&& r ≤ o' - 1 := Nat.and_le_left
            rw [if_neg e, show nI o' - 1 = nI (o' - 1) from pk_sub (b := 1) (by omega), nI_and, nI_1]
            have hi := ih ((o' - 1) &&& r) (by omega) (by rw [Nat.and_assoc, Nat.and_self]) y (st + 1) m (by omega) (by omega)
            refine hi.trans ?_
            have hs1 : zsum (zwt9 q s w) (o' + 1) = zsum (zwt9 q s w) o' + zwt9 q s w o' := rfl
            have hs2 : zsum (zwt9 q s w) o' = zsum (zwt9 q s w) (((o' - 1) &&& r) + 1) := by
              have := zsum_2 (zwt9 q s w) (((o' - 1) &&& r) + 1) (o' - (((o' - 1) &&& r) + 1))
              rw [show ((o' - 1) &&& r) + 1 + (o' - (((o' - 1) &&& r) + 1)) = o' by omega] at this
              rw [this, zsum_z (f := fun c => zwt9 q s w (((o' - 1) &&& r) + 1 + c)) _ (fun c hc => by
                show zwt9 q s w (((o' - 1) &&& r) + 1 + c) = 0
                unfold zwt9
                rw [hr, if_neg (fun z => by
                  have := sub_next o' (((o' - 1) &&& r) + 1 + c) r z ho (by omega)
                  omega)])]
              rfl
            rw [hs1, hs2, hy]
            congr 2
            omega
        rw [zf_X6_waysOf_L27, er, nI_xor, a2, nI_or, nI_xor, show (1024 : Int32) = nI 1024 from rfl, zi_le (by omega) (by omega), if_neg (by omega), zrd_at (2 ^ zlo s ||| o') rfl (by omega), hP _ hor, zB0, zrd_at (r ^^^ o') rfl (by omega), hw _ (by omega), nI_add]
        cases hz : zind q (2 ^ zlo s ||| o') with
        | true =>
          rw [if_pos rfl]
          exact go _ (by rw [hg, if_pos hz])
        | false =>
          rw [if_neg (by decide)]
          exact go _ (by rw [hg, if_neg (by rw [hz]; decide), Nat.add_zero])
    have := key r (Nat.and_self r) 0 0 n (by omega) (by omega)
    refine (show _ = some (nI (0 + zsum (zwt9 q s w) (r + 1))) from this).trans ?_
    rw [Nat.zero_add]
    have h2 := zsum_2 (zwt9 q s w) (r + 1) (1024 - (r + 1))
    rw [show r + 1 + (1024 - (r + 1)) = 1024 by omega, zsum_z (f := fun c => zwt9 q s w (r + 1 + c)) _ (fun c hc => hf _ (by omega)), Nat.add_zero] at h2
    rw [h2]
/-- the table of ways: only sets without the least one of all -/
def zwT (q : ZRow) (lt p y : Nat) : Nat := if y &&& lt = y then zP q p y else 0
theorem waysOf_T {q : ZRow} {M : ZMem} {s o n lt p : Nat} (hq : zsym q) (h0 : q 0 ≤ 10) (hs : s < 2 ^ q 0) (hsub : (s &&& (s - 1)) &&& lt = s &&& (s - 1)) (hP : PT M q (2 ^ q 0)) (hw : ∀ y, y < 1024 → M o y = nI (zwT q lt p y)) (hn : 1100 < n) : zf_X6_waysOf n (nI s) o 1024 M = some (nI (zP q (p + 1) s)) := by
  have hpl := zpow_le h0
  rw [waysOf6 h0 hs hP hw hn]
  congr 2
  by_cases e : s = 0
  · rw [if_pos e, e, zP_s0]
  · rw [if_neg e, zP_ss hq (by omega) e]
    refine zsum_congr (fun x hx => ?_)
    unfold zwt9
    by_cases hc : x &&& (s &&& (s - 1)) = x
    · rw [if_pos hc, if_pos hc]
      have hl : ((s &&& (s - 1)) ^^^ x) &&& lt = (s &&& (s - 1)) ^^^ x := zand_iff.mpr (fun i hi => by
        refine zand_iff.mp hsub i ?_
        rw [Nat.testBit_xor] at hi
        cases g : (s &&& (s - 1)).testBit i with
        | true => rfl
        | false =>
          rw [g, Bool.false_xor] at hi
          rw [zand_iff.mp hc i hi] at g
          cases g)
      unfold zwT
      rw [if_pos hl]
    · rw [if_neg hc, if_neg hc]
def WA (M : ZMem) (a b : Nat) : Prop := M 57 7 = nI a ∧ M 57 8 = nI b ∧ ((a = 61 ∧ b = 62) ∨ (a = 62 ∧ b = 61))
theorem WA.d7 {β : Type} {M : ZMem} {a b : Nat} (h : WA M a b) {K : Nat → Option β} : zdy M 57 7 (10, 1024) K = K a := by
  rcases h.2.2 with ⟨e, -⟩ | ⟨e, -⟩
  · exact zdy_at h.1 (by omega) (by rw [e]; decide +kernel)
  · exact zdy_at h.1 (by omega) (by rw [e]; decide +kernel)
theorem WA.d8 {β : Type} {M : ZMem} {a b : Nat} (h : WA M a b) {K : Nat → Option β} : zdy M 57 8 (10, 1024) K = K b := by
  rcases h.2.2 with ⟨-, e⟩ | ⟨-, e⟩
  · exact zdy_at h.2.1 (by omega) (by rw [e]; decide +kernel)
  · exact zdy_at h.2.1 (by omega) (by rw [e]; decide +kernel)
theorem zsub0 {x lt : Nat} (hx : x < 1024) : (x &&& (lt ^^^ 1023) = 0) ↔ x &&& lt = x := by
  constructor
  · intro h
    refine zand_iff.mpr (fun i hi => ?_)
    have hi10 := tb10 hx hi
    have : (x &&& (lt ^^^ 1023)).testBit i = false := by rw [h, Nat.zero_testBit]
    rw [andn_tb hi10, hi, Bool.true_and] at this
    simpa using this
  · intro h
    refine tb_ext (n := 10) (andn_lt hx) (by decide) (fun i hi => ?_)
    rw [andn_tb hi, Nat.zero_testBit]
    cases g : x.testBit i with
    | false => rfl
    | true => rw [zand_iff.mp h i g]; rfl
/-- one table more -/
theorem table6 {q : ZRow} {M37 : ZMem} {n a b p inn lt : Nat} (hq : zsym q) (h0 : q 0 ≤ 10) (hin : inn < 2 ^ q 0) (hlt : lt = inn &&& (inn - 1)) (h1 : M37 57 1 = nI inn) (hn : 1100 < n) (hi0 : inn ≠ 0) (K : ZMem → Option (Int32 × ZMem)) : ∀ d x m (S : ZMem), x + d = 1024 → d < m → WA S a b → PT S q (2 ^ q 0) → (∀ y, y < 1024 → S b y = nI (zwT q lt p y)) → (∀ y, y < x → S a y = nI (zwT q lt (p + 1) y)) → ∃ S', zf_X6_waysInto_L99 M37 n K m (nI x) S = K S' ∧ (∀ y, y < 1024 → S' a y = nI (zwT q lt (p + 1) y)) ∧ Fr a a S S' := by
  have hpl := zpow_le h0
  have hll : lt < 2 ^ q 0 := by rw [hlt]; exact andn_lt hin
  have el : (M37 57 1) &&& ((M37 57 1) - (1 : Int32)) = nI lt := by rw [h1, show nI inn - 1 = nI (inn - 1) from pk_sub (b := 1) (by omega), nI_and, hlt]
  intro d
  induction d with
  | zero =>
    intro x m S hx hm hA hP hb ha
    obtain ⟨m, rfl⟩ : ∃ y, m = y + 1 := ⟨m - 1, by omega⟩
    refine ⟨S, ?_, fun y hy => ha y (by omega), Fr.refl _ _ _⟩
    rw [zf_X6_waysInto_L99, show (1024 : Int32) = nI 1024 from rfl, zi_le (by omega) (by omega), if_pos (by omega)]
  | succ d ih =>
    intro x m S hx hm hA hP hb ha
    obtain ⟨m, rfl⟩ : ∃ y, m = y + 1 := ⟨m - 1, by omega⟩
    have hab : a ≠ b ∧ a ≠ 57 ∧ a ≠ 60 ∧ b ≠ 57 := by have := hA.2.2; omega
    have hand : x &&& (lt ^^^ 1023) < 1024 := Nat.lt_of_le_of_lt Nat.and_le_left (by omega)
    have go : ∀ v, v = zwT q lt (p + 1) x → ∃ S', zf_X6_waysInto_j136 S a (nI x) (fun x0 x1 => zf_X6_waysInto_L99 M37 n K m x0 x1) (nI v) = K S' ∧ (∀ y, y < 1024 → S' a y = nI (zwT q lt (p + 1) y)) ∧ Fr a a S S' := by
      intro v hv
      unfold zf_X6_waysInto_j136
      rw [zst_at x rfl (by omega), nI_1]
      obtain ⟨S', c1, c2, c3⟩ := ih (x + 1) m (zwr S a x (nI v)) (by omega) (by omega) ⟨by rw [wrn (by omega)]; exact hA.1, by rw [wrn (by omega)]; exact hA.2.1, hA.2.2⟩ (fun y hy => by rw [wrn (by omega)]; exact hP y hy) (fun y hy => by rw [wrn (by omega)]; exact hb y hy) (fun y hy => by
        by_cases e : y = x
        · rw [e, wre, hv]
        · rw [wrj e]; exact ha y (by omega))
      exact ⟨S', c1, c2, (Fr.wr S x _ (Nat.le_refl _) (Nat.le_refl _)).trans c3⟩
    rw [zf_X6_waysInto_L99, show (1024 : Int32) = nI 1024 from rfl, zi_le (by omega) (by omega), if_neg (by omega), hA.d7, el, nI_andn (by omega) (by omega), show (0 : Int32) = nI 0 from rfl, zi_eq (by omega) (by omega), hA.d8]
    by_cases hc : x &&& lt = x
    · have hxl : x ≤ lt := by rw [← hc]; exact Nat.and_le_right
      rw [if_pos ((zsub0 (by omega)).mpr hc), zb1_at (waysOf_T (lt := lt) (p := p) hq h0 (by omega) (zand_iff.mpr (fun i hi => by
        rw [Nat.testBit_and, Bool.and_eq_true] at hi
        exact zand_iff.mp hc i hi.1)) hP hb hn)]
      exact go _ (by unfold zwT; rw [if_pos hc])
    · rw [if_neg (fun z => hc ((zsub0 (by omega)).mp z))]
      exact go 0 (by unfold zwT; rw [if_neg hc])
/-- what is left as it was, but for the two rows of ways -/
def FW (M M' : ZMem) : Prop := (∀ k, k ≠ 57 → (k < 60 ∨ 62 < k) → M' k = M k) ∧ ∀ j, j ≠ 7 → j ≠ 8 → M' 57 j = M 57 j
theorem fw_trans {A B C : ZMem} (h : FW A B) (g : FW B C) : FW A C := ⟨fun k a b => (g.1 k a b).trans (h.1 k a b), fun j a b => (g.2 j a b).trans (h.2 j a b)⟩
theorem fw_fr {A B : ZMem} {lo hi : Nat} (h : Fr lo hi A B) (h1 : 60 ≤ lo) (h2 : hi ≤ 62) : FW A B := ⟨fun k a b => h k (by omega), fun j a b => by rw [h 57 (by omega)]⟩
theorem tables6 {q : ZRow} {M37 : ZMem} {n k inn lt : Nat} (hq : zsym q) (h0 : q 0 ≤ 10) (hin : inn < 2 ^ q 0) (hlt : lt = inn &&& (inn - 1)) (h1 : M37 57 1 = nI inn) (hn : 1100 < n) (hi0 : inn ≠ 0) (hk : k ≤ 10) (K : ZMem → Option (Int32 × ZMem)) : ∀ d p m (S : ZMem) a b, p + d = k → d < m → WA S a b → PT S q (2 ^ q 0) → 0 < p → (∀ y, y < 1024 → S a y = nI (zwT q lt (p - 1) y)) → ∃ S' a' b', zf_X6_waysInto_L71 (nI k) M37 n K m (nI p) S = K S' ∧ WA S' a' b' ∧ PT S' q (2 ^ q 0) ∧ (∀ y, y < 1024 → S' a' y = nI (zwT q lt (k - 1) y)) ∧ FW S S' := by
  intro d
  induction d with
  | zero =>
    intro p m S a b hp hm hA hP h0p ha
    obtain ⟨m, rfl⟩ : ∃ y, m = y + 1 := ⟨m - 1, by omega⟩
    refine ⟨S, a, b, ?_, hA, hP, by rw [show k = p by omega]; exact ha, fun _ _ _ => rfl, fun _ _ _ => rfl⟩
    rw [zf_X6_waysInto_L71, zi_le (by omega) (by omega), if_pos (by omega)]
  | succ d ih =>
    intro p m S a b hp hm hA hP h0p ha
    obtain ⟨m, rfl⟩ : ∃ y, m = y + 1 := ⟨m - 1, by omega⟩
    have hab : (a = 61 ∧ b = 62) ∨ (a = 62 ∧ b = 61) := hA.2.2
    have hA2 : WA (zwr (zwr S 57 8 (nI a)) 57 7 (nI b)) b a := ⟨wre, by rw [wrj (by omega), wre], by omega⟩
    have hF2 : FW S (zwr (zwr S 57 8 (nI a)) 57 7 (nI b)) := ⟨fun k x y => by rw [wrn x, wrn x], fun j x y => by rw [wrj x, wrj y]⟩
    obtain ⟨S1, c1, c2, c3⟩ := table6 (p := p - 1) hq h0 hin hlt h1 hn hi0 (fun M57 => (zf_X6_waysInto_L71 (nI k) M37 n K m (nI p + (1 : Int32)) M57)) 1024 0 n (zwr (zwr S 57 8 (nI a)) 57 7 (nI b)) (by omega) (by omega) hA2 (fun y hy => by rw [wrn (by omega), wrn (by omega)]; exact hP y hy) (fun y hy => by rw [wrn (by omega), wrn (by omega)]; exact ha y hy) (fun y hy => by omega)
    have hA3 : WA S1 b a := ⟨by rw [c3 57 (by omega)]; exact hA2.1, by rw [c3 57 (by omega)]; exact hA2.2.1, hA2.2.2⟩
    obtain ⟨S2, a', b', d1, d2, d3, d4, d5⟩ := ih (p + 1) m S1 b a (by omega) (by omega) hA3 (fun y hy => by rw [c3 60 (by omega), wrn (by omega), wrn (by omega)]; exact hP y hy) (by omega) (fun y hy => by rw [c2 y hy, show p - 1 + 1 = p + 1 - 1 by omega])
    refine ⟨S2, a', b', ?_, d2, d3, d4, fw_trans hF2 (fw_trans (fw_fr c3 (by omega) (by omega)) d5)⟩
    rw [zf_X6_waysInto_L71, zi_le (by omega) (by omega), if_neg (by omega), hA.d8, hA.d7, zput_at, zput_at]
    refine (show zf_X6_waysInto_L99 M37 n _ n 0 _ = _ from c1).trans ?_
    show zf_X6_waysInto_L71 (nI k) M37 n K m (nI p + 1) S1 = _
    rw [nI_1]
    exact d1
theorem waysInto6 {q : ZRow} {M : ZMem} {n k : Nat} (hq : zsym q) (h0 : q 0 ≤ 10) (hf : ∀ j, j < 10 → q (63 + j) < 1024) (p0 : M 57 0 = nI (q 0)) (p1 : M 57 1 = nI (zin q)) (p4 : ∀ j, j < 10 → M 58 j = nI (q (63 + j))) (hWC : WC M) (hk : k < 2147483648) (hn : 1100 < n) : ∃ M', zf_X6_waysInto n (nI k) M = some (nI (zP q k (zin q)), M') ∧ WC M' ∧ FW M M' := by
  have hpl := zpow_le h0
  have hil : zin q < 2 ^ q 0 := zset_lt _ _
  have hFr : FW M M := ⟨fun _ _ _ => rfl, fun _ _ _ => rfl⟩
  unfold zf_X6_waysInto
  rw [p0, p1, zi_le (by omega) (by omega)]
  by_cases c1 : k ≤ q 0
  · rw [if_pos c1, show (0 : Int32) = nI 0 from rfl, zi_eq (by omega) (by omega), zi_eq (by omega) (by omega)]
    unfold zf_X6_waysInto_j21 zf_X6_waysInto_j36 zf_X6_waysInto_j37
    rw [p1, show (0 : Int32) = nI 0 from rfl, zi_eq (by omega) (by omega), zi_eq (by omega) (by omega)]
    by_cases c2 : k = 0
    · rw [if_pos c2, if_pos c2]
      by_cases c3 : zin q = 0
      · rw [if_pos c3, c2, c3, zP_00]
        exact ⟨M, rfl, hWC, hFr⟩
      · rw [if_neg c3, c2, zP_0s (by omega) c3]
        exact ⟨M, rfl, hWC, hFr⟩
    · rw [if_neg c2, if_neg c2]
      by_cases c3 : zin q = 0
      · rw [if_pos c3, c3, show k = (k - 1) + 1 by omega, zP_s0]
        exact ⟨M, rfl, hWC, hFr⟩
      · rw [if_neg c3]
        obtain ⟨M1, a1, a2, a3⟩ := peace6 (n := n) hq h0 hf p0 p4 hn
        obtain ⟨a, b, hA⟩ : ∃ a b, WA M a b := by
          rcases hWC with ⟨x, y⟩ | ⟨x, y⟩
          · exact ⟨61, 62, x, y, Or.inl ⟨rfl, rfl⟩⟩
          · exact ⟨62, 61, x, y, Or.inr ⟨rfl, rfl⟩⟩
        have hab := hA.2.2
        have hA1 : WA M1 a b := ⟨by rw [a3 57 (by omega)]; exact hA.1, by rw [a3 57 (by omega)]; exact hA.2.1, hab⟩
        have hA2 : WA (zfl M1 a 0 1024) a b := ⟨by rw [zfl_ne (by omega)]; exact hA1.1, by rw [zfl_ne (by omega)]; exact hA1.2.1, hab⟩
        have hA3 : WA (zwr (zfl M1 a 0 1024) a 0 1) a b := ⟨by rw [wrn (by omega)]; exact hA2.1, by rw [wrn (by omega)]; exact hA2.2.1, hab⟩
        have hT0 : ∀ y, y < 1024 → zwr (zfl M1 a 0 1024) a 0 1 a y = nI (zwT q (zin q &&& (zin q - 1)) (1 - 1) y) := fun y hy => by
          unfold zwT
          by_cases e : y = 0
          · subst e
            rw [wre, Nat.zero_and, if_pos rfl]
            rfl
          · rw [wrj e, zfl_at hy, show 1 - 1 = 0 from rfl, zP_0s hy e]
            split <;> rfl
        have hP1 : PT (zwr (zfl M1 a 0 1024) a 0 1) q (2 ^ q 0) := fun y hy => by rw [wrn (by omega), zfl_ne (by omega)]; exact a2 y hy
        have h37 : M1 57 1 = nI (zin q) := by rw [a3 57 (by omega)]; exact p1
        obtain ⟨S, a', b', d1, d2, d3, d4, d5⟩ := tables6 (k := k) hq h0 hil rfl h37 hn c3 (by omega) (fun M58 => zdy M58 57 7 (10, 1024) (fun o59 => zb1 (zf_X6_waysOf n (M58 57 1) o59 1024 M58) (fun v60 => some (v60, M58)))) (k - 1) 1 n (zwr (zfl M1 a 0 1024) a 0 1) a b (by omega) (by omega) hA3 hP1 (by omega) hT0
        have hF1 : FW M (zwr (zfl M1 a 0 1024) a 0 1) := fw_trans (fw_fr a3 (by omega) (by omega)) (fw_trans (fw_fr (Fr.fl (lo := 60) (hi := 62) M1 (a := a) 0 1024 (by omega) (by omega)) (by omega) (by omega)) (fw_fr (Fr.wr (lo := 60) (hi := 62) _ (a := a) 0 1 (by omega) (by omega)) (by omega) (by omega)))
        have s1 : S 57 1 = nI (zin q) := by rw [d5.2 1 (by omega) (by omega), hF1.2 1 (by omega) (by omega)]; exact p1
        refine ⟨S, ?_, ?_, fw_trans hF1 d5⟩
        · rw [zb1_at a1, hA1.d7]
          show zb1 (zf_J7_fill_53178 n a 1024 0 M1) _ = _
          rw [zb1_at (fill7 (by omega) (by omega)), hA2.d7, zst_at 0 rfl (by omega)]
          refine (show zf_X6_waysInto_L71 (nI k) M1 n _ n 1 _ = _ from d1).trans ?_
          show zdy S 57 7 (10, 1024) _ = _
          rw [d2.d7, s1, zb1_at (waysOf_T (p := k - 1) (lt := zin q &&& (zin q - 1)) hq h0 hil (Nat.and_self _) d3 d4 hn), show k - 1 + 1 = k by omega]
        · rcases d2.2.2 with ⟨e1, e2⟩ | ⟨e1, e2⟩
          · exact Or.inl ⟨by rw [d2.1, e1], by rw [d2.2.1, e2]⟩
          · exact Or.inr ⟨by rw [d2.1, e1], by rw [d2.2.1, e2]⟩
  · rw [if_neg c1]
    have hlen : (zel (zin q) 10).length ≤ q 0 := by
      have := zel_stab hil (10 - q 0)
      rw [show q 0 + (10 - q 0) = 10 by omega] at this
      rw [this]
      exact zel_len _ _
    have : zP q k (zin q) = 0 := zwy_few _ _ _ (by omega)
    rw [this]
    exact ⟨M, rfl, hWC, hFr⟩
