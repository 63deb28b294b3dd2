/-! LAYER 2: what is asked of the row: sub-classes, what is paid, who rests -/
/-- the set of those among the first n for whom p holds -/
def zset (p : Nat → Bool) : Nat → Nat
  | 0 => 0
  | n + 1 => if p n then zset p n ||| 2 ^ n else zset p n
theorem zset_lt (p : Nat → Bool) : ∀ n, zset p n < 2 ^ n
  | 0 => by simp [zset]
  | n + 1 => by
    have h := zset_lt p n
    have h2 : 2 ^ n < 2 ^ (n + 1) := Nat.pow_lt_pow_right (by decide) (by omega)
    unfold zset
    split
    · exact Nat.or_lt_two_pow (by omega) h2
    · omega
theorem zset_tb (p : Nat → Bool) (j : Nat) : ∀ n, (zset p n).testBit j = (decide (j < n) && p j)
  | 0 => by simp [zset]
  | n + 1 => by
    have h := zset_tb p j n
    unfold zset
    by_cases hj : j = n
    · subst hj
      split
      · next h1 => simp [h, h1, Nat.testBit_or, Nat.testBit_two_pow_self]
      · next h1 => simp [h, h1]
    · have e : decide (j < n + 1) = decide (j < n) := by
        by_cases h3 : j < n
        · simp [h3]; omega
        · simp [h3]; omega
      split
      · rw [Nat.testBit_or, h, e, Nat.testBit_two_pow_of_ne (by omega), Bool.or_false]
      · rw [h, e]
theorem zset_congr {p q : Nat → Bool} : ∀ {n : Nat}, (∀ i, i < n → p i = q i) → zset p n = zset q n
  | 0, _ => rfl
  | n + 1, h => by
    unfold zset
    rw [zset_congr (n := n) (fun i hi => h i (by omega)), h n (by omega)]
theorem tb_lt {a n j : Nat} (h : a < 2 ^ n) (hj : n ≤ j) : a.testBit j = false := Nat.testBit_lt_two_pow (Nat.lt_of_lt_of_le h (Nat.pow_le_pow_right (by decide) hj))
theorem tb_ext {a b n : Nat} (ha : a < 2 ^ n) (hb : b < 2 ^ n) (h : ∀ j, j < n → a.testBit j = b.testBit j) : a = b := by
  apply Nat.eq_of_testBit_eq
  intro j
  by_cases hj : j < n
  · exact h j hj
  · rw [tb_lt ha (by omega), tb_lt hb (by omega)]
/-- who is in -/
def zin (q : ZRow) : Nat := zset (fun i => !(q 12).testBit i) (q 0)
def zupf (f : Nat → Nat) (i k : Nat) : Nat → Nat := fun j => if j = i then k else f j
/-- i may stand in part k beside those before it -/
def zfree (q : ZRow) (s : Nat) (f : Nat → Nat) (i k : Nat) : Bool := (List.range i).all (fun j => !(s.testBit j && (f j == k) && (q (63 + i)).testBit j))
/-- the first of c numbers from k on at which g has something -/
def zfirst {α : Type} (g : Nat → Option α) : Nat → Nat → Option α
  | 0, _ => none
  | c + 1, k => match g k with
    | some x => some x
    | none => zfirst g c (k + 1)
/-- parts for i and all behind it, the first that fits: by going back -/
def zsr (q : ZRow) (s many : Nat) : Nat → Nat → (Nat → Nat) → Option (Nat → Nat)
  | 0, _, f => some f
  | d + 1, i, f => if s.testBit i then zfirst (fun k => if zfree q s f i k then zsr q s many d (i + 1) (zupf f i k) else none) many 0 else zsr q s many d (i + 1) f
def zfit (q : ZRow) (s many : Nat) : Option (Nat → Nat) := zsr q s many (q 0) 0 (fun _ => 0)
/-- the fewest parts, from k on, and how those stand -/
def zdivF (q : ZRow) (s : Nat) : Nat → Nat → Nat × (Nat → Nat)
  | 0, k => (k, fun _ => 0)
  | c + 1, k => match zfit q s k with
    | some f => (k, f)
    | none => zdivF q s c (k + 1)
def zdv (q : ZRow) (s : Nat) : Nat × (Nat → Nat) := zdivF q s 11 0
/-- how many sub-classes, and whose one is -/
def zparts (q : ZRow) : Nat := (zdv q (zin q)).1
def zpart (q : ZRow) (i : Nat) : Nat := (zdv q (zin q)).2 i
def zcostN (q : ZRow) : Nat := if q 11 = 0 then 0 else zcosts q (q 10)
def znetF (q : ZRow) (v : Nat) : Nat := v - (zcostN q + q 3 * v / 100)
def znet (q : ZRow) : Nat := znetF q (q 2)
/-- COUNTED -/
def zcnt (q : ZRow) (i : Nat) : Bool := (q 13).testBit i && !(q 12).testBit i && decide (0 < zclaim q i)
def zcntS (q : ZRow) : Nat := zset (zcnt q) (q 0)
def zhun (q : ZRow) (i : Nat) : Bool := zcnt q i && !(q 14).testBit i
def zhunS (q : ZRow) : Nat := zset (zhun q) (q 0)
def zgc (q : ZRow) (k : Nat) : Nat := zsum (fun i => if zcnt q i && (zpart q i == k) then zclaim q i else 0) (q 0)
def zgh (q : ZRow) (k : Nat) : Nat := zsum (fun i => if zcnt q i && (zpart q i == k) then 1 else 0) (q 0)
def zca (q : ZRow) : Nat := zsum (fun i => if zcnt q i then zclaim q i else 0) (q 0)
def zhd (q : ZRow) : Nat := zsum (fun i => if zcnt q i then 1 else 0) (q 0)
def zgp (q : ZRow) : Nat := zsum (fun k => if zgh q k = 0 then 0 else 1) 10
def zwt (q : ZRow) (k : Nat) : Nat := if q 9 = 0 then zgc q k else if q 9 = 1 then zgh q k else 1
def zwa (q : ZRow) : Nat := if q 9 = 0 then zca q else if q 9 = 1 then zhd q else zgp q
/-- the POT of a sub-class by a NET -/
def zpotF (q : ZRow) (v k : Nat) : Nat := if zgh q k = 0 then 0 else v * zwt q k / zwa q
def zleastOf (q : ZRow) (v : Nat) : Nat := if v < q 4 then 0 else v
/-- sent in ROUND 1 by a NET -/
def zfst (q : ZRow) (v i : Nat) : Nat := zleastOf q (min (zclaim q i) (zpotF q v (zpart q i) * zclaim q i / zgc q (zpart q i)))
/-- what those that are hungry lack -/
def zlack (q : ZRow) (p : Nat → Nat) : Nat := zsum (fun i => if zhun q i then zclaim q i - p i else 0) (q 0)
def zfur (q : ZRow) (p : Nat → Nat) (left i : Nat) : Nat := zleastOf q (min (zclaim q i - p i) (left * (zclaim q i - p i) / zlack q p))
/-- what one is sent in a ROUND: k rounds were before it; who has what, what is left, and whether it goes on -/
def zsnt (q : ZRow) (v k : Nat) (p : Nat → Nat) (left : Nat) (go : Bool) (i : Nat) : Nat := if go && zhun q i then (if k = 0 then zfst q v i else zfur q p left i) else 0
/-- behind k ROUNDS by a NET v -/
def zrnd (q : ZRow) (v : Nat) : Nat → (Nat → Nat) × Nat × Bool
  | 0 => (fun _ => 0, v, true)
  | k + 1 =>
    let p := (zrnd q v k).1
    let left := (zrnd q v k).2.1
    let go := (zrnd q v k).2.2
    let w := zsnt q v k p left go
    (fun i => p i + w i, left - zsum w (q 0), go && decide (0 < zsum w (q 0)))
def zhadF (q : ZRow) (v k i : Nat) : Nat := zsnt q v k (zrnd q v k).1 (zrnd q v k).2.1 (zrnd q v k).2.2 i
def zpaidF (q : ZRow) (v i : Nat) : Nat := (zrnd q v 9).1 i
def zleftF (q : ZRow) (v : Nat) : Nat := (zrnd q v 9).2.1
def zroundsF (q : ZRow) (v : Nat) : Nat := zsum (fun k => (zrnd q v (k + 1)).2.2.toNat) 9
def zpaid (q : ZRow) (i : Nat) : Nat := zpaidF q (znet q) i
def zleft (q : ZRow) : Nat := zleftF q (znet q)
def zrounds (q : ZRow) : Nat := zroundsF q (znet q)
def zhad (q : ZRow) (k i : Nat) : Nat := zhadF q (znet q) k i
/-- a row with another number at a place -/
def zat (q : ZRow) (p v : Nat) : ZRow := fun j => if j = p then v else q j
/-- as if just these were OUT, all filed, nobody LAZY -/
def zifOut (r : ZRow) (s : Nat) : ZRow := zat (zat (zat r 12 s) 13 (2 ^ r 0 - 1)) 14 0
def zalone (r : ZRow) (odds suit i : Nat) : Nat := zclaim r i * odds / 100 - suit
/-- a set RESTS -/
def zrst (r : ZRow) (odds suit s : Nat) : Bool := (List.range (r 0)).all (fun i => if s.testBit i then decide (zpaid (zifOut r (s ^^^ 2 ^ i)) i ≤ zalone r odds suit i) else decide (zalone r odds suit i ≤ zpaid (zifOut r s) i))
def zrests (r : ZRow) (odds suit : Nat) : List Nat := (List.range (2 ^ r 0)).filter (zrst r odds suit)
