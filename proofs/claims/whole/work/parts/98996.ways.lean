/-! LAYER 2: ways to part a set -/
def zcmp (q : ZRow) (e B : Nat) : Bool := decide (q (63 + e) &&& B = 0)
/-- ways to put those of a list into m parts and new ones, k in all: b tells the parts -/
def zwy (q : ZRow) (k : Nat) : List Nat → Nat → (Nat → Nat) → Nat
  | [], m, _ => if m = k then 1 else 0
  | e :: l, m, b => zsum (fun c => if zcmp q e (b c) = true then zwy q k l (max m (c + 1)) (zupf b c (b c ||| 2 ^ e)) else 0) (m + 1)
theorem zwy_0 (q : ZRow) (k m : Nat) (b : Nat → Nat) : zwy q k [] m b = if m = k then 1 else 0 := rfl
theorem zwy_s (q : ZRow) (k e : Nat) (l : List Nat) (m : Nat) (b : Nat → Nat) : zwy q k (e :: l) m b = zsum (fun c => if zcmp q e (b c) = true then zwy q k l (max m (c + 1)) (zupf b c (b c ||| 2 ^ e)) else 0) (m + 1) := rfl
theorem zsum_z {f : Nat → Nat} : ∀ n, (∀ i, i < n → f i = 0) → zsum f n = 0
  | 0, _ => rfl
  | n + 1, h => by
    show zsum f n + f n = 0
    rw [zsum_z n (fun i hi => h i (by omega)), h n (by omega)]
theorem zsum_h (f : Nat → Nat) : ∀ n, zsum f (n + 1) = f 0 + zsum (fun c => f (c + 1)) n
  | 0 => by show 0 + f 0 = f 0 + 0; omega
  | n + 1 => by
    show zsum f (n + 1) + f (n + 1) = f 0 + (zsum (fun c => f (c + 1)) n + f (n + 1))
    rw [zsum_h f n]
    omega
theorem zsum_2 (f : Nat → Nat) (a : Nat) : ∀ n, zsum f (a + n) = zsum f a + zsum (fun c => f (a + c)) n
  | 0 => rfl
  | n + 1 => by
    show zsum f (a + n) + f (a + n) = zsum f a + (zsum (fun c => f (a + c)) n + f (a + n))
    rw [zsum_2 f a n]
    omega
theorem zsum_ad (f g : Nat → Nat) : ∀ n, zsum (fun c => f c + g c) n = zsum f n + zsum g n
  | 0 => rfl
  | n + 1 => by
    show zsum (fun c => f c + g c) n + (f n + g n) = (zsum f n + f n) + (zsum g n + g n)
    rw [zsum_ad f g n]
    omega
theorem zwy_gt {q : ZRow} {k : Nat} : ∀ (l : List Nat) (m : Nat) (b : Nat → Nat), k < m → zwy q k l m b = 0
  | [], m, b, h => by rw [zwy_0, if_neg (by omega)]
  | e :: l, m, b, h => by
    rw [zwy_s]
    refine zsum_z _ (fun c hc => ?_)
    split
    · exact zwy_gt l _ _ (by omega)
    · rfl
theorem zwy_few {q : ZRow} {k : Nat} : ∀ (l : List Nat) (m : Nat) (b : Nat → Nat), m + l.length < k → zwy q k l m b = 0
  | [], m, b, h => by
    have h' : m + 0 < k := h
    rw [zwy_0, if_neg (by omega)]
  | e :: l, m, b, h => by
    have h' : m + (l.length + 1) < k := h
    rw [zwy_s]
    refine zsum_z _ (fun c hc => ?_)
    split
    · exact zwy_few l _ _ (by omega)
    · rfl
/-- the sum over all that may come to B out of a list: of what is left -/
def zss (q : ZRow) : List Nat → Nat → (List Nat → Nat) → Nat
  | [], _, H => H []
  | e :: l, B, H => (if zcmp q e B = true then zss q l (B ||| 2 ^ e) H else 0) + zss q l B (fun y => H (e :: y))
theorem zss_s (q : ZRow) (e : Nat) (l : List Nat) (B : Nat) (H : List Nat → Nat) : zss q (e :: l) B H = (if zcmp q e B = true then zss q l (B ||| 2 ^ e) H else 0) + zss q l B (fun y => H (e :: y)) := rfl
theorem zss_z {q : ZRow} : ∀ (l : List Nat) (B : Nat), zss q l B (fun _ => 0) = 0
  | [], B => rfl
  | e :: l, B => by
    rw [zss_s, zss_z l B, zss_z l (B ||| 2 ^ e)]
    split <;> rfl
theorem zss_ad {q : ZRow} : ∀ (l : List Nat) (B : Nat) (G H : List Nat → Nat), zss q l B (fun y => G y + H y) = zss q l B G + zss q l B H
  | [], B, G, H => rfl
  | e :: l, B, G, H => by
    rw [zss_s, zss_s, zss_s, zss_ad l (B ||| 2 ^ e) G H, zss_ad l B (fun y => G (e :: y)) (fun y => H (e :: y))]
    split <;> omega
theorem zss_sum {q : ZRow} (l : List Nat) (B : Nat) (G : Nat → List Nat → Nat) : ∀ n, zss q l B (fun y => zsum (fun c => G c y) n) = zsum (fun c => zss q l B (G c)) n
  | 0 => zss_z l B
  | n + 1 => by
    show zss q l B (fun y => zsum (fun c => G c y) n + G n y) = zsum (fun c => zss q l B (G c)) n + zss q l B (G n)
    rw [zss_ad l B (fun y => zsum (fun c => G c y) n) (G n), zss_sum l B G n]
theorem zss_if {q : ZRow} (l : List Nat) (B : Nat) (p : Bool) (G : List Nat → Nat) : zss q l B (fun y => if p = true then G y else 0) = if p = true then zss q l B G else 0 := by
  cases p with
  | true => rfl
  | false => exact zss_z l B
/-- the first part split off -/
theorem zwy_split {q : ZRow} {k : Nat} : ∀ (l : List Nat) (m : Nat) (b : Nat → Nat), zwy q (k + 1) l (m + 1) b = zss q l (b 0) (fun y => zwy q k y m (fun c => b (c + 1)))
  | [], m, b => by
    show (if m + 1 = k + 1 then 1 else 0) = (if m = k then 1 else 0)
    by_cases h : m = k
    · rw [if_pos h, if_pos (by omega)]
    · rw [if_neg h, if_neg (by omega)]
  | e :: l, m, b => by
    rw [zwy_s, zsum_h, zss_s]
    have e0 : (if zcmp q e (b 0) = true then zwy q (k + 1) l (max (m + 1) (0 + 1)) (zupf b 0 (b 0 ||| 2 ^ e)) else 0) = (if zcmp q e (b 0) = true then zss q l (b 0 ||| 2 ^ e) (fun y => zwy q k y m (fun c => b (c + 1))) else 0) := by
      rw [show max (m + 1) (0 + 1) = m + 1 by omega, zwy_split l m (zupf b 0 (b 0 ||| 2 ^ e)), zupf_eq]
      have : (fun c => zupf b 0 (b 0 ||| 2 ^ e) (c + 1)) = (fun c => b (c + 1)) := by
        funext c
        rw [zupf_ne (by omega)]
      rw [this]
    rw [e0]
    congr 1
    have e1 : (fun y => zwy q k (e :: y) m (fun c => b (c + 1))) = (fun y => zsum (fun c => (fun y => if zcmp q e (b (c + 1)) = true then zwy q k y (max m (c + 1)) (zupf (fun c => b (c + 1)) c (b (c + 1) ||| 2 ^ e)) else 0) y) (m + 1)) := rfl
    rw [e1, zss_sum l (b 0) (fun c y => if zcmp q e (b (c + 1)) = true then zwy q k y (max m (c + 1)) (zupf (fun c => b (c + 1)) c (b (c + 1) ||| 2 ^ e)) else 0)]
    refine zsum_congr (fun c hc => ?_)
    rw [zss_if l (b 0) (zcmp q e (b (c + 1))) (fun y => zwy q k y (max m (c + 1)) (zupf (fun c => b (c + 1)) c (b (c + 1) ||| 2 ^ e)))]
    rw [show max (m + 1) (c + 1 + 1) = max m (c + 1) + 1 by omega, zwy_split l (max m (c + 1)) (zupf b (c + 1) (b (c + 1) ||| 2 ^ e)), zupf_ne (show 0 ≠ c + 1 by omega)]
    have : (fun d => zupf b (c + 1) (b (c + 1) ||| 2 ^ e) (d + 1)) = zupf (fun c => b (c + 1)) c (b (c + 1) ||| 2 ^ e) := by
      funext d
      unfold zupf
      by_cases h : d = c
      · rw [if_pos h, if_pos (by omega)]
      · rw [if_neg h, if_neg (by omega)]
    rw [this]
/-- no two of a set are in conflict -/
def zind (q : ZRow) (s : Nat) : Bool := zallF (fun i => zallF (fun j => !(s.testBit i && s.testBit j && (q (63 + i)).testBit j)) 10 0) 10 0
theorem zallF_iff {f : Nat → Bool} : ∀ d i, zallF f d i = true ↔ ∀ j, i ≤ j → j < i + d → f j = true
  | 0, i => ⟨fun _ j h1 h2 => by omega, fun _ => rfl⟩
  | d + 1, i => by
    rw [zallF_s, Bool.and_eq_true, zallF_iff d (i + 1)]
    constructor
    · intro h j h1 h2
      by_cases e : j = i
      · rw [e]; exact h.1
      · exact h.2 j (by omega) (by omega)
    · intro h
      exact ⟨h i (by omega) (by omega), fun j h1 h2 => h j (by omega) (by omega)⟩
theorem zind_iff {q : ZRow} {s : Nat} : zind q s = true ↔ ∀ i, i < 10 → ∀ j, j < 10 → s.testBit i = true → s.testBit j = true → (q (63 + i)).testBit j = false := by
  unfold zind
  rw [zallF_iff]
  constructor
  · intro h i hi j hj h1 h2
    have := (zallF_iff 10 0).mp (h i (by omega) (by omega)) j (by omega) (by omega)
    rw [h1, h2] at this
    simpa using this
  · intro h i _ hi
    refine (zallF_iff 10 0).mpr (fun j _ hj => ?_)
    cases h1 : s.testBit i with
    | false => rfl
    | true =>
      cases h2 : s.testBit j with
      | false => rfl
      | true => rw [h i (by omega) j (by omega) h1 h2]; rfl
theorem zcmp_iff {q : ZRow} {e B : Nat} : zcmp q e B = true ↔ ∀ j, B.testBit j = true → (q (63 + e)).testBit j = false := by
  unfold zcmp
  rw [decide_eq_true_eq]
  constructor
  · intro h j hj
    have : (q (63 + e) &&& B).testBit j = false := by rw [h, Nat.zero_testBit]
    rw [Nat.testBit_and, hj, Bool.and_true] at this
    exact this
  · intro h
    apply Nat.eq_of_testBit_eq
    intro j
    rw [Nat.testBit_and, Nat.zero_testBit]
    cases hb : B.testBit j with
    | false => rw [Bool.and_false]
    | true => rw [h j hb]; rfl
/-- conflicts go both ways, and with nobody itself -/
def zsym (q : ZRow) : Prop := ∀ i j, i < 10 → j < 10 → (q (63 + i)).testBit j = (q (63 + j)).testBit i ∧ (q (63 + i)).testBit i = false
theorem tb10 {s i : Nat} (hs : s < 1024) (h : s.testBit i = true) : i < 10 := by
  by_cases g : i < 10
  · exact g
  · rw [tb_lt (n := 10) hs (by omega)] at h; cases h
theorem pow10 {e : Nat} (h : e < 10) : 2 ^ e < 1024 := zpow_lt (m := 10) h
theorem or10 {a b : Nat} (ha : a < 1024) (hb : b < 1024) : a ||| b < 1024 := Nat.or_lt_two_pow (n := 10) ha hb
theorem zind_add {q : ZRow} (hq : zsym q) {B e : Nat} (he : e < 10) (hi : zind q B = true) (hc : zcmp q e B = true) : zind q (B ||| 2 ^ e) = true := by
  rw [zind_iff] at hi ⊢
  intro i gi j gj h1 h2
  rw [Nat.testBit_or, Nat.testBit_two_pow, Bool.or_eq_true, decide_eq_true_eq] at h1 h2
  rcases h1 with h1 | h1
  · rcases h2 with h2 | h2
    · exact hi i gi j gj h1 h2
    · subst h2
      rw [(hq i e gi he).1]
      exact zcmp_iff.mp hc i h1
  · subst h1
    rcases h2 with h2 | h2
    · exact zcmp_iff.mp hc j h2
    · subst h2
      exact (hq e e he he).2
theorem zind_sub {q : ZRow} {B x e : Nat} (hB : B < 1024) (he : e < 10) (h : zind q (B ||| (x ||| 2 ^ e)) = true) : zcmp q e B = true := zcmp_iff.mpr (fun j hj => zind_iff.mp h e he j (tb10 hB hj) (by rw [Nat.testBit_or, Nat.testBit_or, Nat.testBit_two_pow_self, Bool.or_true, Bool.or_true]) (by rw [Nat.testBit_or, hj, Bool.true_or]))
/-- the sum over all parts of a list: of the part, and of what is left -/
def zs2 : List Nat → (Nat → List Nat → Nat) → Nat
  | [], h => h 0 []
  | e :: l, h => zs2 l (fun x y => h (x ||| 2 ^ e) y) + zs2 l (fun x y => h x (e :: y))
theorem zs2_s (e : Nat) (l : List Nat) (h : Nat → List Nat → Nat) : zs2 (e :: l) h = zs2 l (fun x y => h (x ||| 2 ^ e) y) + zs2 l (fun x y => h x (e :: y)) := rfl
theorem zs2_z : ∀ l, zs2 l (fun _ _ => 0) = 0
  | [] => rfl
  | e :: l => by rw [zs2_s, zs2_z l]
theorem zss_zs2 {q : ZRow} (hq : zsym q) : ∀ (l : List Nat) (B : Nat) (H : List Nat → Nat), (∀ e, e ∈ l → e < 10) → B < 1024 → zind q B = true → zss q l B H = zs2 l (fun x y => if zind q (B ||| x) = true then H y else 0)
  | [], B, H, hl, hB, hi => by
    show H [] = if zind q (B ||| 0) = true then H [] else 0
    rw [Nat.or_zero, if_pos hi]
  | e :: l, B, H, hl, hB, hi => by
    have he := hl e List.mem_cons_self
    have hl2 : ∀ e, e ∈ l → e < 10 := fun x hx => hl x (List.mem_cons_of_mem _ hx)
    rw [zss_s, zs2_s, zss_zs2 hq l B (fun y => H (e :: y)) hl2 hB hi]
    congr 1
    by_cases hc : zcmp q e B = true
    · rw [if_pos hc, zss_zs2 hq l (B ||| 2 ^ e) H hl2 (or10 hB (pow10 he)) (zind_add hq he hi hc)]
      have : (fun (x : Nat) (y : List Nat) => if zind q (B ||| 2 ^ e ||| x) = true then H y else 0) = fun x y => if zind q (B ||| (x ||| 2 ^ e)) = true then H y else 0 := by
        funext x y
        rw [Nat.or_assoc, Nat.or_comm (2 ^ e) x]
      rw [this]
    · rw [if_neg hc]
      have : (fun (x : Nat) (y : List Nat) => if zind q (B ||| (x ||| 2 ^ e)) = true then H y else 0) = fun _ _ => 0 := by
        funext x y
        rw [if_neg (fun z => hc (zind_sub hB he z))]
      rw [this, zs2_z]
theorem zs2_snoc (e : Nat) : ∀ (l : List Nat) (h : Nat → List Nat → Nat), zs2 (l ++ [e]) h = zs2 l (fun x y => h (x ||| 2 ^ e) y) + zs2 l (fun x y => h x (y ++ [e]))
  | [], h => rfl
  | a :: l, h => by
    show zs2 (a :: (l ++ [e])) h = _
    rw [zs2_s, zs2_s, zs2_s, zs2_snoc e l, zs2_snoc e l]
    have : (fun (x : Nat) (y : List Nat) => h (x ||| 2 ^ e ||| 2 ^ a) y) = fun x y => h (x ||| 2 ^ a ||| 2 ^ e) y := by
      funext x y
      rw [Nat.or_assoc, Nat.or_assoc, Nat.or_comm (2 ^ e)]
    rw [this]
    show _ + _ + (_ + _) = zs2 l (fun x y => h (x ||| 2 ^ a ||| 2 ^ e) y) + zs2 l (fun x y => h (x ||| 2 ^ e) (a :: y)) + (zs2 l (fun x y => h (x ||| 2 ^ a) (y ++ [e])) + zs2 l (fun x y => h x (a :: y ++ [e])))
    show zs2 l (fun x y => h (x ||| 2 ^ a ||| 2 ^ e) y) + zs2 l (fun x y => h (x ||| 2 ^ a) (y ++ [e])) + (zs2 l (fun x y => h (x ||| 2 ^ e) (a :: y)) + zs2 l (fun x y => h x (a :: (y ++ [e])))) = zs2 l (fun x y => h (x ||| 2 ^ a ||| 2 ^ e) y) + zs2 l (fun x y => h (x ||| 2 ^ e) (a :: y)) + (zs2 l (fun x y => h (x ||| 2 ^ a) (y ++ [e])) + zs2 l (fun x y => h x (a :: (y ++ [e]))))
    omega
/-- those of a set, below m, in order -/
def zel (s : Nat) : Nat → List Nat
  | 0 => []
  | m + 1 => if s.testBit m = true then zel s m ++ [m] else zel s m
theorem zel_s (s m : Nat) : zel s (m + 1) = if s.testBit m = true then zel s m ++ [m] else zel s m := rfl
theorem zel_congr {s t : Nat} : ∀ m, (∀ i, i < m → s.testBit i = t.testBit i) → zel s m = zel t m
  | 0, _ => rfl
  | m + 1, h => by rw [zel_s, zel_s, zel_congr m (fun i hi => h i (by omega)), h m (by omega)]
theorem zel_mem {s e : Nat} : ∀ m, e ∈ zel s m → e < m ∧ s.testBit e = true
  | 0, h => by cases h
  | m + 1, h => by
    rw [zel_s] at h
    split at h
    · rename_i hb
      rcases List.mem_append.mp h with h | h
      · obtain ⟨a, b⟩ := zel_mem m h
        exact ⟨by omega, b⟩
      · have : e = m := List.mem_singleton.mp h
        subst this
        exact ⟨by omega, hb⟩
    · obtain ⟨a, b⟩ := zel_mem m h
      exact ⟨by omega, b⟩
theorem zel_len (s : Nat) : ∀ m, (zel s m).length ≤ m
  | 0 => Nat.le_refl _
  | m + 1 => by
    have := zel_len s m
    rw [zel_s]
    split
    · rw [List.length_append]
      show _ + 1 ≤ _
      omega
    · omega
theorem zel_stab {s m : Nat} (h : s < 2 ^ m) : ∀ d, zel s (m + d) = zel s m
  | 0 => rfl
  | d + 1 => by
    show zel s (m + d + 1) = _
    rw [zel_s, tb_lt h (by omega), if_neg (by decide)]
    exact zel_stab h d
theorem zand_iff {x s : Nat} : x &&& s = x ↔ ∀ i, x.testBit i = true → s.testBit i = true := by
  constructor
  · intro h i hi
    have : (x &&& s).testBit i = true := by rw [h]; exact hi
    rw [Nat.testBit_and, hi, Bool.true_and] at this
    exact this
  · intro h
    apply Nat.eq_of_testBit_eq
    intro i
    rw [Nat.testBit_and]
    cases hx : x.testBit i with
    | false => rfl
    | true => rw [h i hx]; rfl
theorem zs2_el {s : Nat} : ∀ m (h : Nat → List Nat → Nat), zs2 (zel s m) h = zsum (fun x => if x &&& s = x then h x (zel (s ^^^ x) m) else 0) (2 ^ m)
  | 0, h => by
    show h 0 [] = 0 + (if 0 &&& s = 0 then h 0 [] else 0)
    rw [Nat.zero_and, if_pos rfl, Nat.zero_add]
  | m + 1, h => by
    have hlow : ∀ x, x < 2 ^ m → x.testBit m = false := fun x hx => tb_lt hx (Nat.le_refl _)
    have hp : ∀ x, x < 2 ^ m → 2 ^ m + x = x ||| 2 ^ m := fun x hx => by
      have := Nat.two_pow_add_eq_or_of_lt hx 1
      rw [Nat.mul_one] at this
      rw [this, Nat.or_comm]
    rw [Nat.pow_succ, Nat.mul_two, zsum_2, zel_s]
    by_cases hb : s.testBit m = true
    · rw [if_pos hb, zs2_snoc, zs2_el m, zs2_el m, Nat.add_comm]
      congr 1
      · refine zsum_congr (fun x hx => ?_)
        by_cases hc : x &&& s = x
        · rw [if_pos hc, if_pos hc, zel_s, if_pos (by rw [Nat.testBit_xor, hb, hlow x hx]; rfl)]
        · rw [if_neg hc, if_neg hc]
      · refine zsum_congr (fun x hx => ?_)
        rw [hp x hx]
        have e1 : ((x ||| 2 ^ m) &&& s = (x ||| 2 ^ m)) ↔ (x &&& s = x) := by
          rw [zand_iff, zand_iff]
          constructor
          · intro g i hi
            exact g i (by rw [Nat.testBit_or, hi, Bool.true_or])
          · intro g i hi
            rw [Nat.testBit_or, Nat.testBit_two_pow, Bool.or_eq_true, decide_eq_true_eq] at hi
            rcases hi with hi | hi
            · exact g i hi
            · rw [← hi]; exact hb
        by_cases hc : x &&& s = x
        · rw [if_pos hc, if_pos (e1.mpr hc), zel_s, if_neg (by rw [Nat.testBit_xor, hb, Nat.testBit_or, Nat.testBit_two_pow_self, Bool.or_true]; decide)]
          congr 1
          refine zel_congr m (fun i hi => ?_)
          rw [Nat.testBit_xor, Nat.testBit_xor, Nat.testBit_or, Nat.testBit_two_pow_of_ne (by omega), Bool.or_false]
        · rw [if_neg hc, if_neg (fun z => hc (e1.mp z))]
    · rw [if_neg hb, zs2_el m]
      have e2 : zsum (fun c => if 2 ^ m + c &&& s = 2 ^ m + c then h (2 ^ m + c) (zel (s ^^^ (2 ^ m + c)) (m + 1)) else 0) (2 ^ m) = 0 := zsum_z _ (fun x hx => by
        rw [hp x hx, if_neg (fun z => hb (zand_iff.mp z m (by rw [Nat.testBit_or, Nat.testBit_two_pow_self, Bool.or_true])))])
      rw [e2, Nat.add_zero]
      refine zsum_congr (fun x hx => ?_)
      rw [zel_s, if_neg (show ¬ (s ^^^ x).testBit m = true by rw [Nat.testBit_xor, hlow x hx, Bool.xor_false]; exact hb)]
/-- the least of a set -/
def zlo (s : Nat) : Nat := (zel s 10).headD 0
theorem zlo_eq : ∀ s, s < 1024 → s ≠ 0 → zel s 10 = zlo s :: zel (s &&& (s - 1)) 10 ∧ s ^^^ (s &&& (s - 1)) = 2 ^ zlo s ∧ zlo s < 10 ∧ s.testBit (zlo s) = true := by decide +kernel
/-- ways to part a set into p parts -/
def zP (q : ZRow) (p s : Nat) : Nat := zwy q p (zel s 10) 0 (fun _ => 0)
theorem zP_00 (q : ZRow) : zP q 0 0 = 1 := rfl
theorem zP_s0 (q : ZRow) (p : Nat) : zP q (p + 1) 0 = 0 := by
  show (if 0 = p + 1 then 1 else 0) = 0
  rw [if_neg (by omega)]
theorem zP_0s {q : ZRow} {s : Nat} (hs : s < 1024) (h0 : s ≠ 0) : zP q 0 s = 0 := by
  unfold zP
  rw [(zlo_eq s hs h0).1, zwy_s]
  refine zsum_z _ (fun c hc => ?_)
  split
  · exact zwy_gt _ _ _ (by omega)
  · rfl
theorem zP_ss {q : ZRow} (hq : zsym q) {p s : Nat} (hs : s < 1024) (h0 : s ≠ 0) : zP q (p + 1) s = zsum (fun x => if x &&& (s &&& (s - 1)) = x then (if zind q (2 ^ zlo s ||| x) = true then zP q p ((s &&& (s - 1)) ^^^ x) else 0) else 0) 1024 := by
  obtain ⟨a1, a2, a3, a4⟩ := zlo_eq s hs h0
  unfold zP
  rw [a1, zwy_s]
  show 0 + (if zcmp q (zlo s) 0 = true then zwy q (p + 1) (zel (s &&& (s - 1)) 10) (max 0 (0 + 1)) (zupf (fun _ => 0) 0 (0 ||| 2 ^ zlo s)) else 0) = _
  have hc : zcmp q (zlo s) 0 = true := zcmp_iff.mpr (fun j hj => by rw [Nat.zero_testBit] at hj; cases hj)
  rw [if_pos hc, Nat.zero_add, Nat.zero_or, show max 0 (0 + 1) = 0 + 1 by omega, zwy_split, zupf_eq]
  have e1 : (fun c => zupf (fun _ => 0) 0 (2 ^ zlo s) (c + 1)) = fun _ => 0 := by
    funext c
    rw [zupf_ne (by omega)]
  rw [e1]
  have hi : zind q (2 ^ zlo s) = true := zind_iff.mpr (fun i gi j gj h1 h2 => by
    rw [Nat.testBit_two_pow, decide_eq_true_eq] at h1 h2
    rw [← h1, ← h2]
    exact (hq (zlo s) (zlo s) a3 a3).2)
  rw [zss_zs2 hq _ _ _ (fun e he => (zel_mem 10 he).1) (pow10 a3) hi, zs2_el 10]
theorem sub_next : ∀ o x r : Nat, x &&& r = x → o &&& r = o → x < o → x ≤ (o - 1) &&& r := by
  intro o
  induction o using Nat.strongRecOn with
  | ind o ih =>
    intro x r hx ho hlt
    have hx2 : x / 2 &&& r / 2 = x / 2 := by rw [← Nat.and_div_two, hx]
    have ho2 : o / 2 &&& r / 2 = o / 2 := by rw [← Nat.and_div_two, ho]
    have hd : ((o - 1) &&& r) / 2 = (o - 1) / 2 &&& r / 2 := Nat.and_div_two
    by_cases hp : o % 2 = 1
    · rw [show (o - 1) / 2 = o / 2 by omega, ho2] at hd
      omega
    · have i1 := ih (o / 2) (by omega) (x / 2) (r / 2) hx2 ho2 (by omega)
      rw [show (o - 1) / 2 = o / 2 - 1 by omega] at hd
      rw [← hd] at i1
      by_cases hx1 : x % 2 = 1
      · have hr : r % 2 = 1 := by
          have := zand_iff.mp hx 0 (by rw [Nat.testBit_zero, decide_eq_true_eq]; exact hx1)
          rw [Nat.testBit_zero, decide_eq_true_eq] at this
          exact this
        have hb : ((o - 1) &&& r).testBit 0 = true := by
          rw [Nat.testBit_and, Nat.testBit_zero, Nat.testBit_zero, decide_eq_true (show (o - 1) % 2 = 1 by omega), decide_eq_true hr]
          rfl
        rw [Nat.testBit_zero, decide_eq_true_eq] at hb
        omega
      · omega
