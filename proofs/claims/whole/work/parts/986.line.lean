/-! LAYER 2: lines, as the class reads them -/
def PIL (T : ZT) (p : Nat) (L : ZL) (w : Nat) : Prop := 0 < p ∧ p ≤ T.1 ∧ zbl (T.2 (p - 1)) = false ∧ 4 * L.1 + 2 * w ≤ p + 1 ∧ 0 < L.1 ∧ L.1 ≤ w + 1
def PE (T : ZT) (p : Nat) (L : ZL) (w : Nat) : Prop := p ≤ T.1 ∧ 4 * L.1 + 2 * w ≤ p + 1 ∧ 0 < L.1 ∧ L.1 ≤ w
theorem zdg_nb {b : Nat} (h : zdg b = true) : zbl b = false := by
  simp only [zdg, Bool.and_eq_true, decide_eq_true_eq] at h
  simp only [zbl, Bool.or_eq_false_iff, beq_eq_false_iff_ne, ne_eq]
  omega
theorem zlet_nb {b : Nat} (h : zlet b = true) : zbl b = false := by
  simp only [zlet, Bool.and_eq_true, decide_eq_true_eq] at h
  simp only [zbl, Bool.or_eq_false_iff, beq_eq_false_iff_ne, ne_eq]
  omega
theorem ps_num {T : ZT} {p lo hi v e w : Nat} {L : ZL} (hP : PIL T p L w) (h : zN T p lo hi = some (v, e)) : PIL T e (zadn L v) (w + 1) ∧ PE T e (zadn L v) (w + 1) := by
  obtain ⟨p1, p2, p3, p4, p5, p6⟩ := hP
  obtain ⟨a1, a2, a3, a4, a5, a6, a7, a8, a9, a10, a11, a12, a13⟩ := zN_some p2 h
  have hq : p ≠ zrun T zbl p := fun z => by rw [← z, p3] at a4; cases a4
  have hg := zrun_ge T zbl p
  exact ⟨⟨by omega, a8, zdg_nb a13, show 4 * L.1 + 2 * (w + 1) ≤ e + 1 by omega, p5, show L.1 ≤ w + 1 + 1 by omega⟩, a8, show 4 * L.1 + 2 * (w + 1) ≤ e + 1 by omega, p5, p6⟩
theorem num9 {M : ZMem} {T : ZT} {o p w mk n lo hi : Nat} {r : ZRow} {L : ZL} {x : Int32} (hR : RS9 M T o p r L w mk) (hT : TT T) (hP : PIL T p L w) (hH : HI x hi) (hlo : lo ≤ 100000) (hn : 400 < n) :
    (∃ v e M', zN T p lo hi = some (v, e) ∧ zf_X4_readNumber n (nI lo) x M = some (nI v, M') ∧ RS9 M' T o e r (zadn L v) (w + 1) mk ∧ PIL T e (zadn L v) (w + 1) ∧ PE T e (zadn L v) (w + 1) ∧ M' 42 3 = nI (zrun T zbl p) ∧ FR9 o M M' ∧ lo ≤ v ∧ v < hi ∧ v < 100000)
    ∨ (∃ M', zN T p lo hi = none ∧ zf_X4_readNumber n (nI lo) x M = some (nI lo, M') ∧ ES9 M' (zrun T zbl p) ∧ FR9 o M M') := by
  have hl := hT.1
  obtain ⟨p1, p2, p3, p4, p5, p6⟩ := id hP
  obtain ⟨g1, g2⟩ := readN_go (n := n) hR hT p2 hn hH hlo (by omega) p5 (by omega)
  cases hz : zN T p lo hi with
  | none =>
    obtain ⟨M', a1, a2, a3, -⟩ := g2 hz
    exact Or.inr ⟨M', rfl, a1, a2, a3⟩
  | some y =>
    obtain ⟨v, e⟩ := y
    obtain ⟨M', a1, a2, a3, a4⟩ := g1 v e hz
    obtain ⟨b1, b2⟩ := ps_num hP hz
    obtain ⟨-, -, -, -, -, -, -, -, -, c1, c2, c3, -⟩ := zN_some p2 hz
    exact Or.inl ⟨v, e, M', rfl, a1, a2, b1, b2, a3, a4, c1, c2, c3⟩
/-- one number of a line -/
def zq1 {β : Type} (T : ZT) (p lo hi : Nat) (L : ZL) (w : Nat) (K : Nat → Nat → ZL → Nat → Except Nat β) : Except Nat β := match zN T p lo hi with
  | some (v, e) => K v e (zadn L v) (w + 1)
  | none => .error (zrun T zbl p)
theorem zq1_some {β : Type} {T : ZT} {p lo hi v e w : Nat} {L : ZL} {K : Nat → Nat → ZL → Nat → Except Nat β} (h : zN T p lo hi = some (v, e)) : zq1 T p lo hi L w K = K v e (zadn L v) (w + 1) := by
  unfold zq1
  rw [h]
theorem zq1_none {β : Type} {T : ZT} {p lo hi w : Nat} {L : ZL} {K : Nat → Nat → ZL → Nat → Except Nat β} (h : zN T p lo hi = none) : zq1 T p lo hi L w K = .error (zrun T zbl p) := by
  unfold zq1
  rw [h]
abbrev ZY : Type := Nat × ZRow × ZL × Nat
def zchn (r : ZRow) (a b : Nat) : ZRow := zat (zat (zat r (55 + r 1) a) (59 + r 1) b) 1 (r 1 + 1)
def zmbr (r : ZRow) (a b c d : Nat) : ZRow := zat (zat (zat (zat (zat r (15 + r 0) a) (25 + r 0) b) (35 + r 0) c) (45 + r 0) d) 0 (r 0 + 1)
/-- those that a member reaches -/
def zbyl (T : ZT) (c : Nat) : Nat → Nat → Nat → ZL → Nat → Except Nat (Nat × Nat × ZL × Nat)
  | 0, _, p, _, _ => .error p
  | d + 1, m, p, L, w => zq1 T p 0 c L w (fun v e L2 w2 => if m.testBit v then .error (zrun T zbl p) else if zrun T zbl e < T.1 ∧ zdg (T.2 (zrun T zbl e)) = true then zbyl T c d (m ||| 2 ^ v) e L2 w2 else .ok (m ||| 2 ^ v, zrun T zbl e, L2, w2))
def zreach (T : ZT) (c p : Nat) (L : ZL) (w : Nat) : Except Nat (Nat × Nat × ZL × Nat) :=
  if zrun T zbl p < T.1 ∧ zlet (T.2 (zrun T zbl p)) = true then
    (if (0 < zrun T zbl p ∧ zbl (T.2 (zrun T zbl p - 1)) = true) ∧ zisw T (zrun T zbl p) (zrun T zlet (zrun T zbl p)) 8 = true then zbyl T c 5 0 (zrun T zlet (zrun T zbl p)) L w else .error (zrun T zbl p))
  else .ok (0, zrun T zbl p, L, w)
def zbody (T : ZT) (s p : Nat) (r : ZRow) (L : ZL) (w : Nat) : Except Nat ZY :=
  if s = 0 then zq1 T p 0 100000 L w (fun v e L w => .ok (e, zat r 2 v, L, w))
  else if s = 1 then zq1 T p 0 51 L w (fun v e L w => .ok (e, zat r 3 v, L, w))
  else if s = 2 then zq1 T p 0 1000 L w (fun v e L w => .ok (e, zat r 4 v, L, w))
  else if s = 3 then zq1 T p 0 100 L w (fun v e L w => .ok (e, zat r 5 v, L, w))
  else if s = 4 then zq1 T p 0 100 L w (fun v e L w => zq1 T e v 100 L w (fun x e L w => .ok (e, zat (zat r 6 v) 7 x, L, w)))
  else if s = 5 then zq1 T p 0 100 L w (fun v e L w => zq1 T e 1 31 L w (fun x e L w => .ok (e, zchn r v x, L, w)))
  else if s = 6 then zq1 T p 0 100 L w (fun a e L w => zq1 T e a 100 L w (fun b e L w => zq1 T e 1 100 L w (fun c e L w => match zreach T (r 1) e L w with
    | .ok (d, e, L, w) => .ok (e, zmbr r a b c d, L, w)
    | .error x => .error x)))
  else zq1 T p 0 (r 0) L w (fun a e L w => zq1 T e 0 (r 0) L w (fun b e2 L w => if a = b ∨ (r (63 + a)).testBit b = true then .error (zrun T zbl e) else .ok (e2, ztog r a b, L, w)))
def zline (T : ZT) (p : Nat) (r : ZRow) (L : ZL) (w mk : Nat) : Except Nat (Nat × ZRow × ZL × Nat × Nat) := match zsrt T p r mk with
  | none => .error p
  | some s => match zbody T s (zrun T zlet p) r (zopn L s) w with
    | .error e => .error e
    | .ok (p1, r1, L1, w1) => match zEnd T p1 with
      | none => .error (zrun T zbl p1)
      | some p2 => .ok (p2, r1, L1, w1, mk ||| 2 ^ s)
/-- the row that is read -/
def WR (r : ZRow) : Prop := WF r ∧ r 8 = 0 ∧ r 9 = 0 ∧ r 10 = 0 ∧ r 11 = 0 ∧ r 12 = 0 ∧ r 13 = 0 ∧ r 14 = 0
def BR9 (M : ZMem) (T : ZT) (o mk : Nat) (c : (ZMem → Option ZMem) → Option ZMem) : Except Nat ZY → Prop
  | .ok y => ∃ M', (∀ K, c K = K M') ∧ RS9 M' T o y.1 y.2.1 y.2.2.1 y.2.2.2 mk ∧ PE T y.1 y.2.2.1 y.2.2.2 ∧ FR9 o M M'
  | .error e => ∃ M', (∀ K, c K = K M') ∧ ES9 M' e ∧ FR9 o M M'
theorem SDc.rr {M : ZMem} {o : Nat} {r q : ZRow} (h : SDc M o r) (h11 : r 11 = 0) (e : ∀ j, (j = 2 ∨ (6 ≤ j ∧ j ≤ 14) ∨ 63 ≤ j) → q j = r j) : SDc M o q := by
  obtain ⟨⟨a1, a2, a3, a4, a5, a6, a7, a8, a9, a10, a11⟩, a12⟩ := h
  have q11 : q 11 = 0 := by rw [e 11 (by omega)]; exact h11
  refine ⟨⟨by rw [e 8 (by omega)]; exact a1, by rw [e 10 (by omega)]; exact a2, by rw [e 11 (by omega)]; exact a3, by rw [e 12 (by omega)]; exact a4, by rw [e 13 (by omega)]; exact a5, by rw [e 14 (by omega)]; exact a6, by rw [e 2 (by omega)]; exact a7, by rw [e 9 (by omega)]; exact a8, by rw [e 6 (by omega)]; exact a9, by rw [e 7 (by omega)]; exact a10, fun i hi => by rw [e (63 + i) (by omega)]; exact a11 i hi⟩, ?_⟩
  rw [a12]
  unfold zcostN
  rw [if_pos h11, if_pos q11]
theorem RS9.upd {M M' : ZMem} {T : ZT} {o p w mk : Nat} {r q : ZRow} {L : ZL} (h : RS9 M T o p r L w mk) (e : ∀ k, k ≠ 55 → k ≠ 56 → (k < o ∨ o + 6 < k) → M' k = M k) (e11 : M' o 11 = M o 11) (e15 : M' o 15 = M o 15) (hT : TD M' o q) (hS : SDc M' 55 q) : RS9 M' T o p q L w mk ∧ FR9 o M M' := by
  obtain ⟨h1, h2, h3, h4, h5, h6, h7, h8, h9⟩ := h
  have e42 := e 42 (by omega) (by omega) (by omega)
  exact ⟨⟨h1.congr (by rw [e42]) (e 43 (by omega) (by omega) (by omega)), by rw [e42]; exact h2, h3, by rw [e42]; exact h4, by rw [e42]; exact h5, by rw [e42]; exact h6, hT, hS, h9.congr e11 e15 (e _ (by omega) (by omega) (by omega)) (e _ (by omega) (by omega) (by omega)) (e _ (by omega) (by omega) (by omega)) (e _ (by omega) (by omega) (by omega))⟩, fun k a b c d => e k b c (by omega), by rw [e42], by rw [e42], fun ⟨y, y1, y2⟩ => ⟨y, y1, by rw [e42]; exact y2⟩⟩
theorem es9_w {M : ZMem} {x k j o : Nat} {v : Int32} (ho : o = 1 ∨ o = 44) (h : ES9 M x) (hk : k = 55 ∨ k = 56 ∨ (o ≤ k ∧ k ≤ o + 10)) : ES9 (zwr M k j v) x ∧ FR9 o M (zwr M k j v) :=
  ⟨⟨by rw [wrn (by omega)]; exact h.1, h.2⟩, fun i a b c d => wrn (by omega), by rw [wrn (by omega)], by rw [wrn (by omega)], fun ⟨y, y1, y2⟩ => ⟨y, y1, by rw [wrn (by omega)]; exact y2⟩⟩
theorem body9_0 {M : ZMem} {T : ZT} {o p w mk n : Nat} {r : ZRow} {L : ZL} (hR : RS9 M T o p r L w mk) (hT : TT T) (hP : PIL T p L w) (hW : WR r) (hn : 400 < n) :
    BR9 M T o mk (fun K => zb2 (zf_X4_readNumber n 0 (99999) M) (fun v60 M61 => zput M61 55 7 v60 (fun M62 => K M62))) (zbody T 0 p r L w) := by
  have ho := hR.2.2.1
  unfold zbody
  rw [if_pos rfl]
  rcases num9 (n := n) hR hT hP (hi_lit (m := 99999) (by omega)) (show 0 ≤ 100000 by omega) hn with ⟨v, e, M1, a1, a2, a3, a4, a5, a6, a7, a8, a9, a10⟩ | ⟨M1, a1, a2, a3, a4⟩
  · rw [zq1_some a1]
    have hs := a3.2.2.2.2.2.2.2.1.put hW.1.1 7 2 v (by omega)
    obtain ⟨b1, b2⟩ := a3.upd (M' := zwr M1 55 7 (nI v)) (fun k x y z => wrn x) (by rw [wrn (by omega)]) (by rw [wrn (by omega)]) ((a3.2.2.2.2.2.2.1.congr (fun k x y => wrn (by omega))).ta hW.1 (TA.at r v (by unfold zto; omega))) hs
    exact ⟨_, fun K => by show zb2 _ _ = _; rw [zb2_at (show zf_X4_readNumber n 0 99999 M = _ from a2)]; rfl, b1, a5, fr9_trans a7 b2⟩
  · rw [zq1_none a1]
    obtain ⟨b1, b2⟩ := es9_w (j := 7) (v := nI 0) ho a3 (Or.inl rfl)
    exact ⟨_, fun K => by show zb2 _ _ = _; rw [zb2_at (show zf_X4_readNumber n 0 99999 M = _ from a2)]; rfl, b1, fr9_trans a4 b2⟩
