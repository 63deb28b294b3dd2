/-! LAYER 2: FEED -/
def zap (T : ZT) (b : Nat) : ZT := (T.1 + 1, fun k => if k = T.1 then b else T.2 k)
def zb8 (a : Int32) (s : Nat) : Int32 := (a >>> (nI s &&& 31)) &&& 255
def zb8n (a : Int32) (s : Nat) : Nat := (zb8 a s).toBitVec.toNat
theorem zb8_eq (a : Int32) (s : Nat) : zb8 a s = nI (zb8n a s) ∧ zb8n a s < 256 := by
  have hlt : zb8n a s < 256 := by
    unfold zb8n zb8
    rw [Int32.toBitVec_and, BitVec.toNat_and]
    have e : ((255 : Int32).toBitVec.toNat) = 255 := rfl
    rw [e]
    have := Nat.and_le_right (n := (a >>> (nI s &&& 31)).toBitVec.toNat) (m := 255)
    omega
  refine ⟨?_, hlt⟩
  apply Int32.toBitVec_inj.mp
  apply BitVec.eq_of_toNat_eq
  rw [pk_tn (by omega)]
  rfl
def FT9 (M M' : ZMem) : Prop := (∀ k, k ≠ 42 → k ≠ 43 → M' k = M k) ∧ ∀ j, j ≠ 1 → M' 42 j = M 42 j
def FT10 (M M' : ZMem) : Prop := (∀ k, k ≠ 77 → k ≠ 81 → M' k = M k) ∧ ∀ j, j ≠ 6 → M' 77 j = M 77 j
theorem ft9_refl (M : ZMem) : FT9 M M := ⟨fun _ _ _ => rfl, fun _ _ => rfl⟩
theorem ft9_trans {A B C : ZMem} (h : FT9 A B) (g : FT9 B C) : FT9 A C := ⟨fun k a b => (g.1 k a b).trans (h.1 k a b), fun j a => (g.2 j a).trans (h.2 j a)⟩
theorem ft10_refl (M : ZMem) : FT10 M M := ⟨fun _ _ _ => rfl, fun _ _ => rfl⟩
theorem ft10_trans {A B C : ZMem} (h : FT10 A B) (g : FT10 B C) : FT10 A C := ⟨fun k a b => (g.1 k a b).trans (h.1 k a b), fun j a => (g.2 j a).trans (h.2 j a)⟩
theorem zap_tt {T : ZT} {b : Nat} (h : TT T) (hT : T.1 < 400) (hb : b < 256) : TT (zap T b) := by
  refine ⟨hT, fun k hk => ?_⟩
  show (if k = T.1 then b else T.2 k) < 256
  have hk2 : k < T.1 + 1 := hk
  by_cases e : k = T.1
  · rw [if_pos e]; exact hb
  · rw [if_neg e]; exact h.2 k (by omega)
theorem zap_c9 {M : ZMem} {T : ZT} (h : TC9 M T) (a : Int32) (s : Nat) : TC9 (zwr (zwr M 43 T.1 (zb8 a s)) 42 1 (nI (T.1 + 1))) (zap T (zb8n a s)) ∧ FT9 M (zwr (zwr M 43 T.1 (zb8 a s)) 42 1 (nI (T.1 + 1))) := by
  refine ⟨⟨wre, fun k hk => ?_⟩, fun k x y => by rw [wrn x, wrn y], fun j x => by rw [wrj x, wrn (by omega)]⟩
  have hk2 : k < T.1 + 1 := hk
  rw [wrn (by omega)]
  show _ = nI (if k = T.1 then zb8n a s else T.2 k)
  by_cases e : k = T.1
  · rw [if_pos e, e, wre]; exact (zb8_eq a s).1
  · rw [if_neg e, wrj e]; exact h.2 k (by omega)
theorem zap_c10 {M : ZMem} {T : ZT} (h : TC10 M T) (a : Int32) (s : Nat) : TC10 (zwr (zwr M 81 T.1 (zb8 a s)) 77 6 (nI (T.1 + 1))) (zap T (zb8n a s)) ∧ FT10 M (zwr (zwr M 81 T.1 (zb8 a s)) 77 6 (nI (T.1 + 1))) := by
  refine ⟨⟨wre, fun k hk => ?_⟩, fun k x y => by rw [wrn x, wrn y], fun j x => by rw [wrj x, wrn (by omega)]⟩
  have hk2 : k < T.1 + 1 := hk
  rw [wrn (by omega)]
  show _ = nI (if k = T.1 then zb8n a s else T.2 k)
  by_cases e : k = T.1
  · rw [if_pos e, e, wre]; exact (zb8_eq a s).1
  · rw [if_neg e, wrj e]; exact h.2 k (by omega)
theorem fstep9 {M : ZMem} {T : ZT} (h : TC9 M T) (hT : T.1 < 400) (a : Int32) {s : Nat} (hs : s < 32) (K : ZMem → Option ZMem) (m : Nat) {w : Int32} (hw : nI s + (-8) = w) : ∃ M', zf_X4_putFour_L3 a K (m + 1) (nI s) M = zf_X4_putFour_L3 a K m w M' ∧ TC9 M' (zap T (zb8n a s)) ∧ FT9 M M' := by
  have w1 : zwr M 43 T.1 (zb8 a s) 42 1 = nI T.1 := by rw [wrn (by omega)]; exact h.1
  refine ⟨_, ?_, zap_c9 h a s⟩
  rw [zf_X4_putFour_L3, if_neg (show ¬ nI s < 0 from nI_pos (by omega)), show (400 : Int32) = nI 400 from rfl, h.1, zi_le (by omega) (by omega), if_neg (by omega), zst_at T.1 rfl hT, zput_at]
  show zf_X4_putFour_j43 _ _ (zwr (zwr M 43 T.1 (zb8 a s)) 42 1 (zwr M 43 T.1 (zb8 a s) 42 1 + 1)) = _
  rw [w1, nI_1]
  unfold zf_X4_putFour_j43
  rw [hw]
def zap4 (T : ZT) (a : Int32) : ZT := zap (zap (zap (zap T (zb8n a 24)) (zb8n a 16)) (zb8n a 8)) (zb8n a 0)
theorem zap4_tt {T : ZT} (h : TT T) (hT : T.1 + 4 ≤ 400) (a : Int32) : TT (zap4 T a) :=
  zap_tt (zap_tt (zap_tt (zap_tt h (by omega) (zb8_eq a 24).2) (show T.1 + 1 < 400 by omega) (zb8_eq a 16).2) (show T.1 + 1 + 1 < 400 by omega) (zb8_eq a 8).2) (show T.1 + 1 + 1 + 1 < 400 by omega) (zb8_eq a 0).2
theorem putFour9 {M : ZMem} {T : ZT} {n : Nat} (h : TC9 M T) (hT : T.1 + 4 ≤ 400) (hn : 5 < n) (a : Int32) : ∃ M', zf_X4_putFour n a M = some M' ∧ TC9 M' (zap4 T a) ∧ FT9 M M' := by
  obtain ⟨n, rfl⟩ : ∃ y, n = y + 5 := ⟨n - 5, by omega⟩
  unfold zf_X4_putFour
  obtain ⟨M1, a1, a2, a3⟩ := fstep9 h (by omega) a (s := 24) (by omega) (fun M29 => some M29) (n + 4) (w := nI 16) (by decide)
  obtain ⟨M2, b1, b2, b3⟩ := fstep9 a2 (show T.1 + 1 < 400 by omega) a (s := 16) (by omega) (fun M29 => some M29) (n + 3) (w := nI 8) (by decide)
  obtain ⟨M3, c1, c2, c3⟩ := fstep9 b2 (show T.1 + 1 + 1 < 400 by omega) a (s := 8) (by omega) (fun M29 => some M29) (n + 2) (w := nI 0) (by decide)
  obtain ⟨M4, d1, d2, d3⟩ := fstep9 c2 (show T.1 + 1 + 1 + 1 < 400 by omega) a (s := 0) (by omega) (fun M29 => some M29) (n + 1) (w := -8) (by decide)
  refine ⟨M4, ?_, d2, ft9_trans a3 (ft9_trans b3 (ft9_trans c3 d3))⟩
  refine a1.trans (b1.trans (c1.trans (d1.trans ?_)))
  rw [zf_X4_putFour_L3, if_pos (by decide)]
def zfb (a1 a2 a3 a4 a5 : Int32) (j : Nat) : Int32 := if 4 ≤ j then (if 8 ≤ j then (if 12 ≤ j then (if 16 ≤ j then a5 else a4) else a3) else a2) else a1
theorem zfbs : ∀ j, j < 20 → ((24 : Int32) - ((8) * (nI j - nI j / (4) * (4)))) &&& 31 = nI (24 - 8 * (j % 4)) &&& 31 := by decide +kernel
theorem fstep10 {M : ZMem} {T : ZT} (h : TC10 M T) (hT : T.1 < 400) (a1 a2 a3 a4 a5 : Int32) {j : Nat} (hj : j < 20) (K : ZMem → Option (Int32 × ZMem)) (m : Nat) : ∃ M', zf_X10_feed_L18 a5 a4 a3 a2 a1 K (m + 1) (nI j) M = zf_X10_feed_L18 a5 a4 a3 a2 a1 K m (nI (j + 1)) M' ∧ TC10 M' (zap T (zb8n (zfb a1 a2 a3 a4 a5 j) (24 - 8 * (j % 4)))) ∧ FT10 M M' := by
  have e : ∀ (R : Int32 → ZMem → Option (Int32 × ZMem)) (x : Int32), zf_X10_feed_j71 M (nI j) R x = R (nI (j + 1)) (zwr (zwr M 81 T.1 (zb8 x (24 - 8 * (j % 4)))) 77 6 (nI (T.1 + 1))) := fun R x => by
    have w1 : zwr M 81 T.1 (zb8 x (24 - 8 * (j % 4))) 77 6 = nI T.1 := by rw [wrn (by omega)]; exact h.1
    unfold zf_X10_feed_j71
    rw [zfbs j hj, h.1, zst_at T.1 rfl hT, zput_at]
    show R _ (zwr (zwr M 81 T.1 (zb8 x (24 - 8 * (j % 4)))) 77 6 (zwr M 81 T.1 (zb8 x (24 - 8 * (j % 4))) 77 6 + 1)) = _
    rw [w1, nI_1, nI_1]
  refine ⟨_, ?_, zap_c10 h (zfb a1 a2 a3 a4 a5 j) (24 - 8 * (j % 4))⟩
  rw [zf_X10_feed_L18, e, e, e, e, e, show (20 : Int32) = nI 20 from rfl, show (4 : Int32) = nI 4 from rfl, show (8 : Int32) = nI 8 from rfl, show (12 : Int32) = nI 12 from rfl, show (16 : Int32) = nI 16 from rfl, zi_le (by omega) (by omega), if_neg (by omega), zi_le (by omega) (by omega), zi_le (by omega) (by omega), zi_le (by omega) (by omega), zi_le (by omega) (by omega)]
  unfold zfb
  by_cases h4 : 4 ≤ j
  · rw [if_pos h4, if_pos h4]
    by_cases h8 : 8 ≤ j
    · rw [if_pos h8, if_pos h8]
      by_cases h12 : 12 ≤ j
      · rw [if_pos h12, if_pos h12]
        by_cases h16 : 16 ≤ j
        · rw [if_pos h16, if_pos h16]
        · rw [if_neg h16, if_neg h16]
      · rw [if_neg h12, if_neg h12]
    · rw [if_neg h8, if_neg h8]
  · rw [if_neg h4, if_neg h4]
def zfdl (a1 a2 a3 a4 a5 : Int32) : Nat → Nat → ZT → ZT
  | 0, _, T => T
  | d + 1, j, T => zfdl a1 a2 a3 a4 a5 d (j + 1) (zap T (zb8n (zfb a1 a2 a3 a4 a5 j) (24 - 8 * (j % 4))))
theorem feeds10 (a1 a2 a3 a4 a5 : Int32) (K : ZMem → Option (Int32 × ZMem)) : ∀ d j m (M : ZMem) (T : ZT), j + d = 20 → d < m → TC10 M T → T.1 + d ≤ 400 → ∃ M', zf_X10_feed_L18 a5 a4 a3 a2 a1 K m (nI j) M = K M' ∧ TC10 M' (zfdl a1 a2 a3 a4 a5 d j T) ∧ FT10 M M' := by
  intro d
  induction d with
  | zero =>
    intro j m M T hj hm h hT
    obtain ⟨m, rfl⟩ : ∃ y, m = y + 1 := ⟨m - 1, by omega⟩
    refine ⟨M, ?_, h, ft10_refl M⟩
    rw [zf_X10_feed_L18, show (20 : Int32) = nI 20 from rfl, zi_le (by omega) (by omega), if_pos (by omega)]
  | succ d ih =>
    intro j m M T hj hm h hT
    obtain ⟨m, rfl⟩ : ∃ y, m = y + 1 := ⟨m - 1, by omega⟩
    obtain ⟨M1, b1, b2, b3⟩ := fstep10 h (by omega) a1 a2 a3 a4 a5 (j := j) (by omega) K m
    obtain ⟨M2, c1, c2, c3⟩ := ih (j + 1) m M1 _ (by omega) (by omega) b2 (show T.1 + 1 + d ≤ 400 by omega)
    exact ⟨M2, b1.trans c1, c2, ft10_trans b3 c3⟩
theorem zfdl_20 (a1 a2 a3 a4 a5 : Int32) (T : ZT) : zfdl a1 a2 a3 a4 a5 20 0 T = zap4 (zap4 (zap4 (zap4 (zap4 T a1) a2) a3) a4) a5 := rfl
theorem op_feed {n : Nat} (hn : 803 < n) {M : ZMem} (hI : INV M) (a1 a2 a3 a4 a5 : Int32) : OPW (zf_X9_feed n a1 a2 a3 a4 a5) (zf_X10_feed n a1 a2 a3 a4 a5) M := by
  have hI2 := hI
  obtain ⟨t, nx, r, u, U, T, L, hS, hC, hM⟩ := hI2
  have ht := hC.t
  have hT9 := hC.2.2.2.2.2.1
  have hTT := hS.2.2.1
  have hl := hTT.1
  by_cases hc : T.1 + 20 ≤ 400
  · obtain ⟨M1, b1, b2, b3⟩ := putFour9 hT9 (by omega) (show 5 < n by omega) a1
    obtain ⟨M2, c1, c2, c3⟩ := putFour9 b2 (show T.1 + 1 + 1 + 1 + 1 + 4 ≤ 400 by omega) (show 5 < n by omega) a2
    obtain ⟨M3, d1, d2, d3⟩ := putFour9 c2 (show T.1 + 1 + 1 + 1 + 1 + 1 + 1 + 1 + 1 + 4 ≤ 400 by omega) (show 5 < n by omega) a3
    obtain ⟨M4, e1, e2, e3⟩ := putFour9 d2 (show T.1 + 1 + 1 + 1 + 1 + 1 + 1 + 1 + 1 + 1 + 1 + 1 + 1 + 4 ≤ 400 by omega) (show 5 < n by omega) a4
    obtain ⟨M5, f1, f2, f3⟩ := putFour9 e2 (show T.1 + 1 + 1 + 1 + 1 + 1 + 1 + 1 + 1 + 1 + 1 + 1 + 1 + 1 + 1 + 1 + 1 + 4 ≤ 400 by omega) (show 5 < n by omega) a5
    have F := ft9_trans b3 (ft9_trans c3 (ft9_trans d3 (ft9_trans e3 f3)))
    have tt := zap4_tt (zap4_tt (zap4_tt (zap4_tt (zap4_tt hTT (by omega) a1) (show T.1 + 1 + 1 + 1 + 1 + 4 ≤ 400 by omega) a2) (show T.1 + 1 + 1 + 1 + 1 + 1 + 1 + 1 + 1 + 4 ≤ 400 by omega) a3) (show T.1 + 1 + 1 + 1 + 1 + 1 + 1 + 1 + 1 + 1 + 1 + 1 + 1 + 4 ≤ 400 by omega) a4) (show T.1 + 1 + 1 + 1 + 1 + 1 + 1 + 1 + 1 + 1 + 1 + 1 + 1 + 1 + 1 + 1 + 1 + 4 ≤ 400 by omega) a5
    refine OPW.of (t := t) (nx := nx) (t' := t) (nx' := nx) hM ⟨hS.1, hS.2.1, tt, hS.2.2.2⟩ ⟨M5, ?_, ?_, fun k hk => F.1 k (by omega) (by omega)⟩ (fun A hA => ?_) (v := nI (zap4 (zap4 (zap4 (zap4 (zap4 T a1) a2) a3) a4) a5).1)
    · unfold zf_X9_feed
      rw [hT9.1, show (20 : Int32) = nI 20 from rfl, show (400 : Int32) = nI 400 from rfl, nI_add, zi_le (by omega) (by omega), if_pos hc, zb1_at b1, zb1_at c1, zb1_at d1, zb1_at e1, zb1_at f1, f2.1]
    · obtain ⟨h1, h2, h3, h4, h5, h6, h7, h8, h9⟩ := hC
      exact ⟨h1.congr (F.1 0 (by omega) (by omega)), by rw [F.2 6 (by omega)]; exact h2, h3.congr (fun k a b => F.1 k (by omega) (by omega)), h4.congr (F.1 12 (by omega) (by omega)) (F.1 13 (by omega) (by omega)), h5.congr (fun k a b => F.1 k (by omega) (by omega)), f2, h7.congr (fun k a b => F.1 k (by omega) (by omega)), h8.congr (by rw [F.1 57 (by omega) (by omega)]) (by rw [F.1 57 (by omega) (by omega)]), h9.congr (F.1 71 (by omega) (by omega)) (F.1 72 (by omega) (by omega))⟩
    · have hA9 := hA.2.2.1
      obtain ⟨B, g1, g2, g3⟩ := feeds10 a1 a2 a3 a4 a5 (fun M29 => some ((M29 77 6), M29)) 20 0 n A T (by omega) (by omega) hA9 (by omega)
      rw [zfdl_20] at g2
      refine ⟨B, ?_, ⟨hA.1.congr (g3.1 78 (by omega) (by omega)), hA.2.1.congr (g3.2 4 (by omega)) (g3.1 80 (by omega) (by omega)), g2, hA.2.2.2.congr (g3.2 16 (by omega)) (g3.1 82 (by omega) (by omega)) (g3.1 83 (by omega) (by omega)) (g3.1 84 (by omega) (by omega))⟩, fun k hk => g3.1 k (by omega) (by omega)⟩
      unfold zf_X10_feed
      rw [hA9.1, show (20 : Int32) = nI 20 from rfl, show (400 : Int32) = nI 400 from rfl, nI_add, zi_le (by omega) (by omega), if_pos hc]
      refine g1.trans ?_
      show some (B 77 6, B) = _
      rw [g2.1]
  · refine OPW.same (-1) ?_ ?_ hI
    · unfold zf_X9_feed
      rw [hT9.1, show (20 : Int32) = nI 20 from rfl, show (400 : Int32) = nI 400 from rfl, nI_add, zi_le (by omega) (by omega), if_neg hc]
    · unfold zf_X10_feed
      rw [hM.2.2.1.1, show (20 : Int32) = nI 20 from rfl, show (400 : Int32) = nI 400 from rfl, nI_add, zi_le (by omega) (by omega), if_neg hc]
