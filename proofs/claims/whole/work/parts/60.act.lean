/-! LAYER 2: an ACT on both sides -/
def zpush (U : Nat → ZRow) (u : Nat) (r : ZRow) : Nat → ZRow := fun k => if u = 12 then (if k < 11 then U (k + 1) else r) else if k < u then U k else r
theorem TD.ta {M : ZMem} {t : Nat} {r q : ZRow} (h : TD M t r) (hw : WF r) (ht : TA r q) : TD M t q := by
  have h0 := hw.1
  have h1 := hw.2.1
  obtain ⟨t1, t2, t3, t4, t5, t6, t7⟩ := h
  have e0 := ht 0 (by unfold zto; omega)
  have e1 := ht 1 (by unfold zto; omega)
  refine ⟨by rw [e0]; exact t1, by rw [e1]; exact t2, by rw [ht 3 (by unfold zto; omega)]; exact t3, by rw [ht 4 (by unfold zto; omega)]; exact t4, by rw [ht 5 (by unfold zto; omega)]; exact t5, fun i hi => ?_, fun c hc => ?_⟩
  · rw [e0] at hi
    rw [ht (15 + i) (by unfold zto; omega), ht (25 + i) (by unfold zto; omega), ht (35 + i) (by unfold zto; omega), ht (45 + i) (by unfold zto; omega)]
    exact t6 i hi
  · rw [e1] at hc
    rw [ht (55 + c) (by unfold zto; omega), ht (59 + c) (by unfold zto; omega)]
    exact t7 c hc
theorem zrem9_ne {M : ZMem} {nx u k : Nat} (h : k ≠ 16) (h1 : k ≠ 71) (h2 : k ≠ 18 + 2 * nx) (h3 : k ≠ 19 + 2 * nx) : zrem9 M nx u k = M k := by
  funext j
  unfold zrem9
  simp only [zwr_get]
  rw [if_neg (fun z => h1 z.1), if_neg (fun z => h z.1), if_neg (fun z => h z.1), zcpS_ne h2 (by omega)]
theorem zrem9_16_1 {M : ZMem} {nx u : Nat} : zrem9 M nx u 16 1 = nI ((nx + 1) % 12) := by
  unfold zrem9
  simp [zwr_get]
theorem zrem9_16_2 {M : ZMem} {nx u : Nat} : zrem9 M nx u 16 2 = nI (min (u + 1) 12) := by
  unfold zrem9
  simp [zwr_get]
theorem zrem9_71_0 {M : ZMem} {nx u : Nat} : zrem9 M nx u 71 0 = nI 0 := by
  unfold zrem9
  simp [zwr_get]
  rfl
theorem zrem9_new {M : ZMem} {nx u : Nat} {r : ZRow} (hn : nx < 12) (h : SDc M 12 r) : SDc (zrem9 M nx u) (18 + 2 * nx) r := by
  have e0 : ∀ j, j ≤ 10 → zrem9 M nx u (18 + 2 * nx) j = M 12 j := fun j hj => by
    unfold zrem9
    simp only [zwr_get]
    rw [if_neg (by omega), if_neg (by omega), if_neg (by omega)]
    unfold zcpS
    rw [if_pos ⟨rfl, hj⟩]
  have e1 : ∀ j, j < 10 → zrem9 M nx u (18 + 2 * nx + 1) j = M (12 + 1) j := fun j hj => by
    unfold zrem9
    simp only [zwr_get]
    rw [if_neg (by omega), if_neg (by omega), if_neg (by omega)]
    unfold zcpS
    rw [if_neg (by omega), if_pos ⟨rfl, hj⟩]
  obtain ⟨⟨a1, a2, a3, a4, a5, a6, a7, a8, a9, a10, a11⟩, a12⟩ := h
  refine ⟨⟨?_, ?_, ?_, ?_, ?_, ?_, ?_, ?_, ?_, ?_, ?_⟩, ?_⟩
  · rw [e0 _ (by omega)]; exact a1
  · rw [e0 _ (by omega)]; exact a2
  · rw [e0 _ (by omega)]; exact a3
  · rw [e0 _ (by omega)]; exact a4
  · rw [e0 _ (by omega)]; exact a5
  · rw [e0 _ (by omega)]; exact a6
  · rw [e0 _ (by omega)]; exact a7
  · rw [e0 _ (by omega)]; exact a8
  · rw [e0 _ (by omega)]; exact a9
  · rw [e0 _ (by omega)]; exact a10
  · intro i hi; rw [e1 i hi]; exact a11 i hi
  · rw [e0 _ (by omega)]; exact a12
theorem JC.act {M : ZMem} {nx u : Nat} {U : Nat → ZRow} {r : ZRow} (h : JC M nx u U) (hr : SDc M 12 r) : JC (zrem9 M nx u) ((nx + 1) % 12) (min (u + 1) 12) (zpush U u r) := by
  obtain ⟨h1, h2, h3, h4, h5⟩ := h
  refine ⟨zrem9_16_1, Nat.mod_lt _ (by decide), zrem9_16_2, by omega, fun k hk => ?_⟩
  by_cases hk2 : ((nx + 1) % 12 + 12 - min (u + 1) 12 + k) % 12 = nx
  · rw [hk2]
    have e : zpush U u r k = r := by
      unfold zpush
      by_cases hu : u = 12
      · rw [if_pos hu, if_neg (by omega)]
      · rw [if_neg hu, if_neg (by omega)]
    rw [e]
    exact zrem9_new h2 hr
  · by_cases hu : u = 12
    · have e : zpush U u r k = U (k + 1) := by
        unfold zpush
        rw [if_pos hu, if_pos (by omega)]
      rw [e, show ((nx + 1) % 12 + 12 - min (u + 1) 12 + k) % 12 = (nx + 12 - u + (k + 1)) % 12 by omega]
      exact (h5 (k + 1) (by omega)).congr (zrem9_ne (by omega) (by omega) (by omega) (by omega)) (zrem9_ne (by omega) (by omega) (by omega) (by omega))
    · have e : zpush U u r k = U k := by
        unfold zpush
        rw [if_neg hu, if_pos (by omega)]
      rw [e, show ((nx + 1) % 12 + 12 - min (u + 1) 12 + k) % 12 = (nx + 12 - u + k) % 12 by omega]
      exact (h5 k (by omega)).congr (zrem9_ne (by omega) (by omega) (by omega) (by omega)) (zrem9_ne (by omega) (by omega) (by omega) (by omega))
theorem IC.act {M M' : ZMem} {t nx u : Nat} {r r' : ZRow} {U : Nat → ZRow} {T : ZT} {L : ZL} (h : IC M t nx r u U T L) (hw : WF r) (e : ∀ k, k ≠ 12 → k ≠ 13 → M' k = zrem9 M nx u k) (hS : SDc M' 12 r') (hT : TA r r') : IC M' t ((nx + 1) % 12) r' (min (u + 1) 12) (zpush U u r) T L := by
  have ht := h.t
  obtain ⟨h1, h2, h3, h4, h5, h6, h7, h8, h9⟩ := h
  have hnx := h5.2.1
  have e' : ∀ k, k ≠ 12 → k ≠ 13 → (k < 16 ∨ 41 < k) → k ≠ 71 → M' k = M k := fun k a b c d => by
    rw [e k a b]
    exact zrem9_ne (by omega) d (by omega) (by omega)
  refine ⟨h1.congr (e' 0 (by omega) (by omega) (by omega) (by omega)), by rw [e' 42 (by omega) (by omega) (by omega) (by omega)]; exact h2, (h3.congr (fun k a b => e' k (by omega) (by omega) (by omega) (by omega))).ta hw hT, hS, (h5.act h4).congr (fun k a b => e k (by omega) (by omega)), h6.congr (by rw [e' 42 (by omega) (by omega) (by omega) (by omega)]) (e' 43 (by omega) (by omega) (by omega) (by omega)), h7.congr (fun k a b => e' k (by omega) (by omega) (by omega) (by omega)), h8.congr (by rw [e' 57 (by omega) (by omega) (by omega) (by omega)]) (by rw [e' 57 (by omega) (by omega) (by omega) (by omega)]), Or.inl (by rw [e 71 (by omega) (by omega)]; exact zrem9_71_0)⟩
theorem zrem10_ne {M : ZMem} {u k : Nat} (h : k ≠ 80) (h1 : k ≠ 77) : zrem10 M u k = M k := by
  funext j
  unfold zrem10
  split
  · rw [zwr_get, if_neg (fun z => h1 z.1), zcu_ne h, zwr_get, if_neg (fun z => h1 z.1), zsh_ne h]
  · rw [zwr_get, if_neg (fun z => h1 z.1), zcu_ne h]
theorem zrem10_77 {M : ZMem} {u j : Nat} (h : j ≠ 4) : zrem10 M u 77 j = M 77 j := by
  unfold zrem10
  split
  · rw [zwr_get, if_neg (fun z => h z.2), zcu_ne (by decide), zwr_get, if_neg (fun z => h z.2), zsh_ne (by decide)]
  · rw [zwr_get, if_neg (fun z => h z.2), zcu_ne (by decide)]
theorem zrem10_774 {M : ZMem} {u : Nat} (hu : u ≤ 12) : zrem10 M u 77 4 = nI (min (u + 1) 12) := by
  unfold zrem10
  split
  · rw [zwr_get, if_pos ⟨rfl, rfl⟩, show min (u + 1) 12 = 12 by omega]
  · rw [zwr_get, if_pos ⟨rfl, rfl⟩, show min (u + 1) 12 = u + 1 by omega]
theorem zrem10_80 {M : ZMem} {u : Nat} {U : Nat → ZRow} {r : ZRow} (hU : UC M u U) (hr : IR M r) {k j : Nat} (hk : k < min (u + 1) 12) (hj : j < 73) : zrem10 M u 80 (73 * k + j) = rI (zpush U u r k) j := by
  obtain ⟨h1, h2, h3⟩ := hU
  unfold zrem10 zpush
  by_cases hu : u = 12
  · rw [if_pos hu, if_pos hu, zwr_get, if_neg (by omega)]
    unfold zcu
    by_cases hk2 : k < 11
    · rw [if_pos hk2, if_neg (by omega), zwr_get, if_neg (by omega)]
      unfold zsh
      rw [if_pos ⟨rfl, by omega⟩, show 73 * k + j + 73 = 73 * (k + 1) + j by omega]
      exact h3 (k + 1) (by omega) j hj
    · rw [if_neg hk2, if_pos ⟨rfl, by omega, by omega⟩, zwr_get, if_neg (by omega), zsh_ne (by decide), show 73 * k + j - 73 * 11 = j by omega]
      exact hr j hj
  · rw [if_neg hu, if_neg hu, zwr_get, if_neg (by omega)]
    unfold zcu
    by_cases hk2 : k < u
    · rw [if_pos hk2, if_neg (by omega)]
      exact h3 k hk2 j hj
    · rw [if_neg hk2, if_pos ⟨rfl, by omega, by omega⟩, show 73 * k + j - 73 * u = j by omega]
      exact hr j hj
theorem IM.act {M M' : ZMem} {u : Nat} {r r' : ZRow} {U : Nat → ZRow} {T : ZT} {L : ZL} (h : IM M r u U T L) (e : ∀ k, k ≠ 78 → M' k = zrem10 M u k) (hR : IR M' r') : IM M' r' (min (u + 1) 12) (zpush U u r) T L := by
  obtain ⟨h1, h2, h3, h4⟩ := h
  refine ⟨hR, ⟨by rw [e 77 (by omega)]; exact zrem10_774 h2.2.1, by omega, fun k hk j hj => by rw [e 80 (by omega)]; exact zrem10_80 h2 h1 hk hj⟩, h3.congr (by rw [e 77 (by omega)]; exact zrem10_77 (by omega)) (by rw [e 81 (by omega)]; exact zrem10_ne (by omega) (by omega)), h4.congr (by rw [e 77 (by omega)]; exact zrem10_77 (by omega)) (by rw [e 82 (by omega)]; exact zrem10_ne (by omega) (by omega)) (by rw [e 83 (by omega)]; exact zrem10_ne (by omega) (by omega)) (by rw [e 84 (by omega)]; exact zrem10_ne (by omega) (by omega))⟩
theorem GS.act {r r' : ZRow} {u : Nat} {U : Nat → ZRow} {T : ZT} {L : ZL} (h : GS r u U T L) (h2 : u ≤ 12) (hg : GD r') (ht : TA r r') : GS r' (min (u + 1) 12) (zpush U u r) T L := by
  obtain ⟨g1, g2, g3, g4⟩ := h
  refine ⟨hg, fun k hk => ?_, g3, g4⟩
  unfold zpush
  split
  · split
    · exact ⟨(g2 (k + 1) (by omega)).1, ht.symm.trans (g2 (k + 1) (by omega)).2⟩
    · exact ⟨g1, ht.symm⟩
  · split
    · exact ⟨(g2 k (by omega)).1, ht.symm.trans (g2 k (by omega)).2⟩
    · exact ⟨g1, ht.symm⟩
