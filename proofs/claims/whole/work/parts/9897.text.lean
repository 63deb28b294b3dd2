/-! LAYER 2: the class reads a text, and takes it -/
def zL0 : ZL := (0, fun _ => 0, fun _ => 0, fun _ _ => 0)
def zfo : Nat → Nat
  | 0 => 0
  | c + 1 => zfo c * 4 + c
theorem zfo_s (c : Nat) : zfo (c + 1) = zfo c * 4 + c := rfl
theorem zfo_ord : ∀ c, c < 5 → zord c (zfo c) = true ∧ zfo c < 256 := by decide +kernel
theorem oat_any (a : Int32) {n : Nat} (hn : 2147483648 < n) : ∃ v, zf_X1_orderAsTold n a = some v := by
  unfold zf_X1_orderAsTold
  rcases zint a with ha | ⟨j, hj, rfl⟩
  · obtain ⟨n, rfl⟩ : ∃ y, n = y + 1 := ⟨n - 1, by omega⟩
    rw [zf_X1_orderAsTold_L4, if_pos (show a ≤ 0 from Int32.le_of_lt ha)]
    exact ⟨_, rfl⟩
  · have key : ∀ d i m v, i + d = j → d < m → ∃ x, zf_X1_orderAsTold_L4 (nI j) (fun v24 => some v24) m v (nI i) = some x := by
      intro d
      induction d with
      | zero =>
        intro i m v hi hm
        obtain ⟨m, rfl⟩ : ∃ y, m = y + 1 := ⟨m - 1, by omega⟩
        rw [zf_X1_orderAsTold_L4, zi_le (by omega) (by omega), if_pos (by omega)]
        exact ⟨_, rfl⟩
      | succ d ih =>
        intro i m v hi hm
        obtain ⟨m, rfl⟩ : ∃ y, m = y + 1 := ⟨m - 1, by omega⟩
        rw [zf_X1_orderAsTold_L4, zi_le (by omega) (by omega), if_neg (by omega), nI_1]
        exact ih (i + 1) m _ (by omega) (by omega)
    exact key j 0 n 0 (by omega) (by omega)
theorem oat9 {c n : Nat} (hc : c ≤ 4) (hn : 10 < n) : zf_X1_orderAsTold n (nI c) = some (nI (zfo c)) := by
  unfold zf_X1_orderAsTold
  refine zloop (fun n i (s : Nat) => zf_X1_orderAsTold_L4 (nI c) (fun v => some v) n (nI s) (nI i)) zfo (some (nI (zfo c))) c ?_ ?_ n 0 (Nat.zero_le _) (by omega)
  · intro n i hi
    show zf_X1_orderAsTold_L4 (nI c) _ (n + 1) (nI _) (nI i) = zf_X1_orderAsTold_L4 (nI c) _ n (nI _) (nI (i + 1))
    rw [zf_X1_orderAsTold_L4, zi_le (by omega) (by omega), if_neg (by omega), show (4 : Int32) = nI 4 from rfl, pk_mul, nI_add, nI_1, zfo_s]
  · intro n
    show zf_X1_orderAsTold_L4 (nI c) _ (n + 1) (nI _) (nI c) = _
    rw [zf_X1_orderAsTold_L4, zi_le (by omega) (by omega), if_pos (Nat.le_refl _)]
theorem zr0_wr : WR zr0 := ⟨zr0_gd.1, by decide, by decide, by decide, by decide, by decide, by decide, by decide⟩
theorem zr0_63 (i : Nat) : zr0 (63 + i) = 0 := by
  unfold zr0
  rw [if_neg (by omega)]
/-- the reader before its first byte -/
def zclr (M : ZMem) (o : Nat) : ZMem := zwr (zwr (zwr (zfl (zwr (zwr (zwr (zwr (zwr (zwr (zwr (zwr (zwr (zwr (zwr (zwr (zwr (zwr (zwr (zwr (zwr (zwr M o 0 0) o 1 0) o 8 0) o 9 0) o 10 99) o 11 0) o 15 0) 55 0 0) 55 1 0) 55 2 (-2)) 55 3 0) 55 4 0) 55 5 0) 55 6 0) 55 7 0) 55 8 0) 55 9 0) 55 10 99) 56 0 10) 42 2 0) 42 4 (-1)) 42 5 0
theorem zclr_rs {M : ZMem} {T : ZT} {o : Nat} (h : TC9 M T) (h6 : M 42 6 = nI o) (ho : o = 1 ∨ o = 44) : RS9 (zclr M o) T o 0 zr0 zL0 0 0 := by
  have e43 : zclr M o 43 = M 43 := by
    unfold zclr
    rw [wrn (by omega), wrn (by omega), wrn (by omega), zfl_ne (by omega)]
    repeat rw [wrn (by omega)]
  have e1 : zclr M o 42 1 = M 42 1 := by
    unfold zclr
    rw [wrj (by omega), wrj (by omega), wrj (by omega), zfl_ne (by omega)]
    repeat rw [wrn (by omega)]
  have e6 : zclr M o 42 6 = M 42 6 := by
    unfold zclr
    rw [wrj (by omega), wrj (by omega), wrj (by omega), zfl_ne (by omega)]
    repeat rw [wrn (by omega)]
  have eo : ∀ j, zclr M o o j = if j = 15 then 0 else if j = 11 then 0 else if j = 10 then 99 else if j = 9 then 0 else if j = 8 then 0 else if j = 1 then 0 else if j = 0 then 0 else M o j := fun j => by
    unfold zclr
    rw [wrn (by omega), wrn (by omega), wrn (by omega), zfl_ne (by omega), wrn (by omega), wrn (by omega), wrn (by omega), wrn (by omega), wrn (by omega), wrn (by omega), wrn (by omega), wrn (by omega), wrn (by omega), wrn (by omega), wrn (by omega)]
    simp only [zwr_get, true_and]
  have e55 : ∀ j, zclr M o 55 j = if j = 10 then 99 else if j = 9 then 0 else if j = 8 then 0 else if j = 7 then 0 else if j = 6 then 0 else if j = 5 then 0 else if j = 4 then 0 else if j = 3 then 0 else if j = 2 then -2 else if j = 1 then 0 else if j = 0 then 0 else M 55 j := fun j => by
    unfold zclr
    rw [wrn (by omega), wrn (by omega), wrn (by omega), zfl_ne (by omega)]
    have hz : ∀ (A : ZMem) (i : Nat) (x : Int32), zwr A o i x 55 = A 55 := fun A i x => wrn (by omega)
    simp only [zwr_get, true_and]
    simp only [show ¬ (55 = o) from by omega, false_and, if_false]
  have e56 : ∀ j, j < 10 → zclr M o 56 j = 0 := fun j hj => by
    unfold zclr
    rw [wrn (by omega), wrn (by omega), wrn (by omega)]
    exact zfl_at hj
  refine ⟨h.congr e1 e43, by rw [e6]; exact h6, ho, ?_, ?_, ?_, ⟨?_, ?_, ?_, ?_, ?_, fun i hi => absurd hi (Nat.not_lt_zero _), fun i hi => absurd hi (Nat.not_lt_zero _)⟩, ⟨⟨?_, ?_, ?_, ?_, ?_, ?_, ?_, ?_, ?_, ?_, fun i hi => ?_⟩, ?_⟩, ?_, ?_, fun _ => 0, fun k hk => absurd hk (Nat.not_lt_zero _), fun z => absurd z (Nat.lt_irrefl _)⟩
  · unfold zclr; rw [wrj (by omega), wrj (by omega), wre]; rfl
  · unfold zclr; rw [wrj (by omega), wre]
  · unfold zclr; rw [wre]; rfl
  · rw [eo]; rfl
  · rw [eo]; rfl
  · rw [eo]; rfl
  · rw [eo]; rfl
  · rw [eo]; rfl
  · rw [e55]; rfl
  · rw [e55]; rfl
  · rw [e55]; rfl
  · rw [e55]; rfl
  · rw [e55]; rfl
  · rw [e55]; rfl
  · rw [e55]; rfl
  · rw [e55]; rfl
  · rw [e55]; rfl
  · rw [e55]; rfl
  · rw [e56 i hi, zr0_63]; rfl
  · rw [e55]; rfl
  · rw [eo]; rfl
  · rw [eo]; rfl
theorem zclr_fr {M : ZMem} {o : Nat} (ho : o = 1 ∨ o = 44) : FR9 o M (zclr M o) := by
  refine ⟨fun k a b c d => ?_, ?_, ?_, fun _ => ⟨0, by omega, ?_⟩⟩
  · unfold zclr
    rw [wrn a, wrn a, wrn a, zfl_ne c]
    repeat rw [wrn (by omega)]
  · unfold zclr
    rw [wrj (by omega), wrj (by omega), wrj (by omega), zfl_ne (by omega)]
    repeat rw [wrn (by omega)]
  · unfold zclr
    rw [wrj (by omega), wrj (by omega), wrj (by omega), zfl_ne (by omega)]
    repeat rw [wrn (by omega)]
  · unfold zclr; rw [wrj (by omega), wrj (by omega), wre]; rfl
def XR9 (M : ZMem) (T : ZT) (o : Nat) (c : Option (Int32 × ZMem)) : Except Nat (ZRow × ZL × Nat) → Prop
  | .ok z => ∃ M' p mk, c = some (-1, zwr M' 55 1 (nI (zfo (z.1 1)))) ∧ RS9 M' T o p z.1 z.2.1 z.2.2 mk ∧ PB T p z.2.1 z.2.2 ∧ WR z.1 ∧ LX z.2.1 ∧ FR9 o M M'
  | .error e => ∃ M' v, c = some (nI e, zwr M' 55 1 v) ∧ e ≤ 400 ∧ FR9 o M M'
theorem read9 {M : ZMem} {T : ZT} {o n : Nat} (hT : TT T) (h : TC9 M T) (h6 : M 42 6 = nI o) (ho : o = 1 ∨ o = 44) (hn : 2147483648 < n) : XR9 M T o (zf_X4_read n M) (zread T 80 (zrun T zbl 0) zr0 zL0 0 0) := by
  have hR := zclr_rs h h6 ho
  have hF : FR9 o M (zclr M o) := zclr_fr ho
  have hq := zrun_le (T := T) (f := zbl) (Nat.zero_le T.1)
  have hl := hT.1
  have hR1 := hR.mv (zrun T zbl 0)
  have hF1 : FR9 o M (zwr (zclr M o) 42 2 (nI (zrun T zbl 0))) := fr9_trans hF (fr9_42 (by omega) (by omega))
  have g := reads9 (n := n) (o := o) hT (by omega) (fun M47 => zdy M47 42 6 (7, 17) (fun o48 => zb1 (zf_X1_orderAsTold n (M47 o48 1)) (fun v49 => zput M47 55 1 v49 (fun M50 => some ((M50 42 4), M50))))) 80 n (zrun T zbl 0) zr0 zL0 0 0 _ rfl (by omega) hR1 ⟨hq, by show 4 * 0 + 2 * 0 ≤ _; omega, Nat.le_refl _⟩ zr0_wr (fun k hk => absurd hk (Nat.not_lt_zero _)) (by omega)
  have hE : zf_X4_read n M = zf_X4_read_L35 n (fun M47 => zdy M47 42 6 (7, 17) (fun o48 => zb1 (zf_X1_orderAsTold n (M47 o48 1)) (fun v49 => zput M47 55 1 v49 (fun M50 => some ((M50 42 4), M50))))) n (nI zL0.1) (zwr (zclr M o) 42 2 (nI (zrun T zbl 0))) := by
    unfold zf_X4_read
    rw [dy6 h6 ho]
    unfold zf_X8_clear zf_X7_clear
    simp only [zput_at]
    rw [zb1_at rfl, zb1_at (zb1_at (fill7 (by omega) (by omega)))]
    show zb1 (zf_X4_skipBlanks n (zclr M o)) _ = _
    rw [zb1_at (show zf_X4_skipBlanks n (zclr M o) = _ from skip9 hT hR.1 hR.2.2.2.1 (Nat.zero_le _) (by omega))]
    rfl
  rw [hE]
  revert g
  cases zread T 80 (zrun T zbl 0) zr0 zL0 0 0 with
  | error e =>
    rintro ⟨M', a1, a2, a3⟩
    have f := fr9_trans hF1 a3
    obtain ⟨v, hv⟩ := oat_any (M' o 1) hn
    refine ⟨M', v, ?_, a2.2, f⟩
    rw [a1]
    show zdy M' 42 6 (7, 17) _ = _
    rw [dy6 (f.2.2.1.trans h6) ho, zb1_at hv, zput_at, wrn (by omega), a2.1]
  | ok z =>
    rintro ⟨M', p, mk, a1, a2, a3, a4, a5, a6⟩
    have hb := a4.1.b
    refine ⟨M', p, mk, ?_, a2, a3, a4, a5, fr9_trans hF1 a6⟩
    rw [a1]
    show zdy M' 42 6 (7, 17) _ = _
    rw [a2.dy, a2.2.2.2.2.2.2.1.2.1, zb1_at (oat9 (by omega) (by omega)), zput_at, wrn (by omega), a2.2.2.2.2.1]
theorem SDc_cp {M : ZMem} {o0 o1 : Nat} {r : ZRow} (h : SDc M o1 r) : SDc (zcpS M o0 o1) o0 r := by
  have e0 : ∀ j, j ≤ 10 → zcpS M o0 o1 o0 j = M o1 j := fun j hj => by
    unfold zcpS
    rw [if_pos ⟨rfl, hj⟩]
  have e1 : ∀ j, j < 10 → zcpS M o0 o1 (o0 + 1) j = M (o1 + 1) j := fun j hj => by
    unfold zcpS
    rw [if_neg (by omega), if_pos ⟨rfl, hj⟩]
  obtain ⟨⟨a1, a2, a3, a4, a5, a6, a7, a8, a9, a10, a11⟩, a12⟩ := h
  refine ⟨⟨?_, ?_, ?_, ?_, ?_, ?_, ?_, ?_, ?_, ?_, ?_⟩, ?_⟩
  · rw [e0 _ (by omega)]; exact a1
  · rw [e0 _ (by omega)]; exact a2
  · rw [e0 _ (by omega)]; exact a3
  · rw [e0 _ (by omega)]; exact a4
  · rw [e0 _ (by omega)]; exact a5
  · rw [e0 _ (by omega)]; exact a6
  · rw [e0 _ (by omega)]; exact a7
  · rw [e0 _ (by omega)]; exact a8
  · rw [e0 _ (by omega)]; exact a9
  · rw [e0 _ (by omega)]; exact a10
  · intro i hi; rw [e1 i hi]; exact a11 i hi
  · rw [e0 _ (by omega)]; exact a12
def zrT (r : ZRow) : ZRow := zat r 10 (zfo (r 1))
theorem zrT_gd {r : ZRow} (h : WR r) : GD (zrT r) := by
  have hb := h.1.b
  obtain ⟨o1, o2⟩ := zfo_ord (r 1) (by omega)
  refine ⟨h.1.put 10 _ (by omega), ?_⟩
  unfold zrT
  rw [zat_ne (by omega), zat_eq]
  exact o1
def XT9 (M : ZMem) (t nx : Nat) (r : ZRow) (u : Nat) (U : Nat → ZRow) (T : ZT) (L : ZL) (c : Option (Int32 × ZMem)) : Except Nat (ZRow × ZL × Nat) → Prop
  | .ok z => C9 M c (nI (z.1 0)) (fun M1 => IC M1 (45 - t) nx (zrT z.1) 0 U (0, T.2) z.2.1) ∧ WR z.1 ∧ LX z.2.1 ∧ z.2.1.1 ≤ 66
  | .error e => C9 M c (-4 - nI e) (fun M1 => IC M1 t nx r u U (0, T.2) L) ∧ e ≤ 400
theorem text9 {M : ZMem} {t nx u n : Nat} {r : ZRow} {U : Nat → ZRow} {T : ZT} {L : ZL} (hC : IC M t nx r u U T L) (hT : TT T) (hn : 2147483648 < n) : XT9 M t nx r u U T L (zf_X9_text n M) (zread T 80 (zrun T zbl 0) zr0 zL0 0 0) := by
  have ht := hC.t
  obtain ⟨h1, h2, h3, h4, h5, h6, h7, h8, h9⟩ := hC
  have ho : 45 - t = 1 ∨ 45 - t = 44 := by omega
  have g := read9 (n := n) hT h6 h2 ho hn
  generalize hoo : 45 - t = o at *
  revert g
  unfold zf_X9_text
  cases zread T 80 (zrun T zbl 0) zr0 zL0 0 0 with
  | error e =>
    rintro ⟨M', v, a1, a2, a3⟩
    have f : ∀ k, k ≠ 42 → k ≠ 55 → k ≠ 56 → (k < o ∨ o + 10 < k) → zwr (zwr M' 55 1 v) 42 1 0 k = M k := fun k x y z w => by rw [wrn x, wrn y]; exact a3.1 k x y z w
    refine ⟨⟨zwr (zwr M' 55 1 v) 42 1 0, ?_, ?_, fun k hk => f k (by omega) (by omega) (by omega) (by omega)⟩, a2⟩
    · rw [zb2_at a1, zput_at, if_neg (zne1 (by omega))]
    · refine ⟨h1.congr (f 0 (by omega) (by omega) (by omega) (by omega)), by rw [wrj (by omega), wrn (by omega), a3.2.2.1, h2]; congr 1; omega, h3.congr (fun k x y => f k (by omega) (by omega) (by omega) (by omega)), h4.congr (f 12 (by omega) (by omega) (by omega) (by omega)) (f 13 (by omega) (by omega) (by omega) (by omega)), h5.congr (fun k x y => f k (by omega) (by omega) (by omega) (by omega)), ⟨by rw [wre]; rfl, fun k hk => absurd hk (Nat.not_lt_zero _)⟩, h7.congr (fun k x y => f k (by omega) (by omega) (by omega) (by omega)), h8.congr (by rw [f 57 (by omega) (by omega) (by omega) (by omega)]) (by rw [f 57 (by omega) (by omega) (by omega) (by omega)]), h9.congr (f 71 (by omega) (by omega) (by omega) (by omega)) (f 72 (by omega) (by omega) (by omega) (by omega))⟩
  | ok z =>
    obtain ⟨r', L', w'⟩ := z
    rintro ⟨M', p, mk, a1, a2', a3', a4', a5, a6⟩
    have a4 : WR r' := a4'
    have a2 : RS9 M' T o p r' L' w' mk := a2'
    have a3 : PB T p L' w' := a3'
    obtain ⟨q1, q2, q3⟩ := a3
    have hl := hT.1
    have hb := a4.1.b
    have e1 : (zwr (zwr M' 55 1 (nI (zfo (r' 1)))) 42 1 0) 0 0 = nI t := by rw [wrn (by omega), wrn (by omega), a6.1 0 (by omega) (by omega) (by omega) (by omega)]; exact h1.1
    have e2 : (zwr (zwr M' 55 1 (nI (zfo (r' 1)))) 42 1 0) 42 6 = nI o := by rw [wrj (by omega), wrn (by omega)]; exact a2.2.1
    have hs0 : SDc (zwr M' 55 1 (nI (zfo (r' 1)))) 55 (zrT r') := by
      refine ⟨a2.2.2.2.2.2.2.2.1.1.put 1 10 _ (by omega), ?_⟩
      rw [wrj (by omega), a2.2.2.2.2.2.2.2.1.2]
      unfold zcostN
      rw [if_pos a4.2.2.2.2.1, if_pos (by show zat r' 10 _ 11 = 0; rw [zat_ne (by omega)]; exact a4.2.2.2.2.1)]
    have hf0 : ∀ k, k ≠ 42 → k ≠ 55 → zwr (zwr M' 55 1 (nI (zfo (r' 1)))) 42 1 0 k = M' k := fun k x y => by rw [wrn x, wrn y]
    have hf1 : zwr (zwr M' 55 1 (nI (zfo (r' 1)))) 42 1 0 55 = zwr M' 55 1 (nI (zfo (r' 1))) 55 := wrn (by omega)
    have hf2 : zwr (zwr M' 55 1 (nI (zfo (r' 1)))) 42 1 0 42 1 = 0 := wre
    have hra : zf_X4_read n M = some (-1, zwr M' 55 1 (nI (zfo (r' 1)))) := a1
    generalize hA : zwr (zwr M' 55 1 (nI (zfo (r' 1)))) 42 1 0 = A at *
    have hs1 : SDc A 55 (zrT r') := hs0.congr hf1 (by rw [hf0 56 (by omega) (by omega), wrn (by omega)])
    have c12 := copyFrom7 (M := zwr (zwr A 0 0 (nI o)) 42 6 (nI t)) (o0 := 12) (o1 := 55) (by omega) (by omega) (by omega)
    have hB : ∀ k, k ≠ 0 → k ≠ 12 → k ≠ 13 → k ≠ 16 → k ≠ 42 → k ≠ 71 → zwr (zwr (zcpS (zwr (zwr A 0 0 (nI o)) 42 6 (nI t)) 12 55) 16 2 0) 71 0 0 k = A k := fun k x0 x1 x2 x3 x4 x5 => by rw [wrn x5, wrn x3, zcpS_ne x1 x2, wrn x4, wrn x0]
    have hB0 : zwr (zwr (zcpS (zwr (zwr A 0 0 (nI o)) 42 6 (nI t)) 12 55) 16 2 0) 71 0 0 0 0 = nI o := by rw [wrn (by omega), wrn (by omega), zcpS_ne (by omega) (by omega), wrn (by omega), wre]
    have hB6 : zwr (zwr (zcpS (zwr (zwr A 0 0 (nI o)) 42 6 (nI t)) 12 55) 16 2 0) 71 0 0 42 6 = nI t := by rw [wrn (by omega), wrn (by omega), zcpS_ne (by omega) (by omega), wre]
    have hB1 : zwr (zwr (zcpS (zwr (zwr A 0 0 (nI o)) 42 6 (nI t)) 12 55) 16 2 0) 71 0 0 42 1 = 0 := by rw [wrn (by omega), wrn (by omega), zcpS_ne (by omega) (by omega), wrj (by omega), wrn (by omega)]; exact hf2
    have hB16 : zwr (zwr (zcpS (zwr (zwr A 0 0 (nI o)) 42 6 (nI t)) 12 55) 16 2 0) 71 0 0 16 1 = M 16 1 := by rw [wrn (by omega), wrj (by omega), zcpS_ne (by omega) (by omega), wrn (by omega), wrn (by omega), hf0 16 (by omega) (by omega), a6.1 16 (by omega) (by omega) (by omega) (by omega)]
    have hB17 : zwr (zwr (zcpS (zwr (zwr A 0 0 (nI o)) 42 6 (nI t)) 12 55) 16 2 0) 71 0 0 16 2 = nI 0 := by rw [wrn (by omega), wre]; rfl
    have hB71 : zwr (zwr (zcpS (zwr (zwr A 0 0 (nI o)) 42 6 (nI t)) 12 55) 16 2 0) 71 0 0 71 0 = nI 0 := by rw [wre]; rfl
    have hB12 : SDc (zwr (zwr (zcpS (zwr (zwr A 0 0 (nI o)) 42 6 (nI t)) 12 55) 16 2 0) 71 0 0) 12 (zrT r') := by
      have := SDc_cp (o0 := 12) (hs1.congr (M' := zwr (zwr A 0 0 (nI o)) 42 6 (nI t)) (by rw [wrn (by omega), wrn (by omega)]) (by rw [wrn (by omega), wrn (by omega)]))
      exact this.congr (by rw [wrn (by omega), wrn (by omega)]) (by rw [wrn (by omega), wrn (by omega)])
    have hIT : IT (zwr (zwr (zcpS (zwr (zwr A 0 0 (nI o)) 42 6 (nI t)) 12 55) 16 2 0) 71 0 0) o := ⟨hB0, ho⟩
    have hE : zb2 (zf_X4_read n M) (fun v32 M33 => zput M33 42 1 (0 : Int32) (fun M34 => (if v32 = (-1 : Int32) then zdy M34 0 0 (7, 17) (fun o35 => zdy M34 42 6 (7, 17) (fun o36 => zput M34 0 0 (nI o36) (fun M37 => zput M37 42 6 (nI o35) (fun M38 => zb1 (zf_X7_copyFrom 12 55 M38) (fun M39 => zb1 (zf_X0_forget M39) (fun M40 => zb1 (zf_X5_forget M40) (fun M41 => zdy M41 0 0 (7, 17) (fun o42 => some ((M41 o42 0), M41))))))))) else some (((-4 : Int32) - v32), M34)))) = some (zwr (zwr (zcpS (zwr (zwr A 0 0 (nI o)) 42 6 (nI t)) 12 55) 16 2 0) 71 0 0 o 0, zwr (zwr (zcpS (zwr (zwr A 0 0 (nI o)) 42 6 (nI t)) 12 55) 16 2 0) 71 0 0) := by
      rw [zb2_at hra, zput_at, if_pos rfl, hA, (show IT A t from ⟨e1, ht⟩).dy, dy6 e2 ho, zput_at, zput_at, zb1_at c12]
      unfold zf_X0_forget zf_X5_forget
      simp only [zput_at]
      rw [zb1_at rfl, zb1_at rfl, hIT.dy]
    generalize zwr (zwr (zcpS (zwr (zwr A 0 0 (nI o)) 42 6 (nI t)) 12 55) 16 2 0) 71 0 0 = B at *
    have hTD : TD B o (zrT r') := (a2.2.2.2.2.2.2.1.congr (fun k x y => by rw [hB k (by omega) (by omega) (by omega) (by omega) (by omega) (by omega), hf0 k (by omega) (by omega)])).tb (by omega) (by omega) (TA.at r' _ (by unfold zto; omega))
    have hLC : LC9 B o L' := (a2.2.2.2.2.2.2.2.2.lc (by omega)).congr (fun k x y => by rw [hB k (by omega) (by omega) (by omega) (by omega) (by omega) (by omega), hf0 k (by omega) (by omega)])
    have hfr : ∀ k, 57 ≤ k → k ≠ 71 → B k = M k := fun k x y => by rw [hB k (by omega) (by omega) (by omega) (by omega) (by omega) y, hf0 k (by omega) (by omega), a6.1 k (by omega) (by omega) (by omega) (by omega)]
    refine ⟨⟨B, ?_, ?_, fun k hk => hfr k (by omega) (by omega)⟩, a4, a5, by show L'.1 ≤ 66; have : L'.1 ≤ w' := q3; omega⟩
    · rw [hE, hTD.1]
      show some (nI (zat r' 10 _ 0), B) = some (nI (r' 0), B)
      rw [zat_ne (by omega)]
    · show IC B (45 - t) nx (zrT r') 0 U (0, T.2) L'
      rw [hoo]
      exact ⟨hIT, by rw [hB6]; congr 1; omega, hTD, hB12, ⟨by rw [hB16]; exact h5.1, h5.2.1, hB17, by omega, fun k hk => absurd hk (Nat.not_lt_zero _)⟩, ⟨hB1, fun k hk => absurd hk (Nat.not_lt_zero _)⟩, hLC, h8.congr (by rw [hfr 57 (by omega) (by omega)]) (by rw [hfr 57 (by omega) (by omega)]), Or.inl hB71⟩
