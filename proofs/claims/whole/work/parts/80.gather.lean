/-! LAYER 2: the class gathers who is COUNTED -/
theorem ev_ldiv {β : Type} {a b : Nat} (K : Int64 → Option β) (ha : a < 9223372036854775808) (h0 : 0 < b) (hb : b < 9223372036854775808) : zldiv (lN a) (lN b) K = K (lN (a / b)) := by
  rw [zldiv_at (fun z => ?_), pk_lDiv ha h0 hb]
  have := (pk_lEQ (a := b) (b := 0) hb (by omega)).mp z
  omega
theorem ev_lmin {a b : Nat} (ha : a < 9223372036854775808) (hb : b < 9223372036854775808) : zlmin (lN a) (lN b) = lN (min a b) := by
  unfold zlmin
  by_cases h : b < a
  · rw [if_pos ((pk_lLT hb ha).mpr h), Nat.min_eq_right (by omega)]
  · rw [if_neg (fun z => h ((pk_lLT hb ha).mp z)), Nat.min_eq_left (by omega)]
theorem zz_net {a b c : Nat} (ha : a < 1073741824) (hb : b + c < 1073741824) : zmax (nI 0) ((nI a - nI b) - nI c) = nI (a - (b + c)) := by
  rw [Int32.sub_sub, nI_add]
  by_cases h : b + c ≤ a
  · rw [pk_sub h, zz_max (by omega) (by omega), Nat.max_eq_right (by omega)]
  · have h2 : nI a - nI (b + c) < nI 0 := pk_sneg hb (by omega)
    unfold zmax
    rw [if_neg (fun z => ?_), show a - (b + c) = 0 by omega]
    exact Int32.lt_irrefl (Int32.lt_trans z h2)
/-- what the class pays by -/
def CQ (M : ZMem) (t o : Nat) (q : ZRow) : Prop := TD M t q ∧ SDc M o q ∧ GD q ∧ (t = 1 ∨ t = 44) ∧ (o = 12 ∨ o = 14)
def FPm (M M' : ZMem) : Prop := (∀ k, k < 57 ∨ (59 < k ∧ k < 63) ∨ 70 < k → M' k = M k) ∧ M' 57 7 = M 57 7 ∧ M' 57 8 = M 57 8
theorem FPm.refl (M : ZMem) : FPm M M := ⟨fun _ _ => rfl, rfl, rfl⟩
theorem FPm.trans {A B C : ZMem} (h : FPm A B) (g : FPm B C) : FPm A C := ⟨fun k hk => (g.1 k hk).trans (h.1 k hk), g.2.1.trans h.2.1, g.2.2.trans h.2.2⟩
theorem FPm.of_fr {A B : ZMem} (h : Fr 63 70 A B) : FPm A B := ⟨fun k hk => h k (by omega), by rw [h 57 (by omega)], by rw [h 57 (by omega)]⟩
theorem FPm.of_fs {A B : ZMem} (h : FS A B) : FPm A B := ⟨fun k hk => h.1 k (by omega) (by omega) (by omega), h.2.1, h.2.2⟩
theorem FPm.f9 {A B : ZMem} (h : FPm A B) : F9 A B := ⟨fun k hk => h.1 k (by unfold zkeep at hk; omega), h.2.1, h.2.2, h.1 71 (by omega), h.1 72 (by omega), fun k hk => h.1 k (by omega)⟩
theorem CQ.fp {M M' : ZMem} {t o : Nat} {q : ZRow} (h : CQ M t o q) (g : FPm M M') : CQ M' t o q := by
  obtain ⟨h1, h2, h3, h4, h5⟩ := h
  exact ⟨h1.congr (fun k a b => g.1 k (by omega)), h2.congr (g.1 o (by omega)) (g.1 (o + 1) (by omega)), h3, h4, h5⟩
theorem CQ.tk {M : ZMem} {t o : Nat} {q : ZRow} (h : CQ M t o q) : TK M t o q := ⟨h.1.1, h.2.1.1.2.2.2.1, h.2.1.1.2.2.2.2.2.2.2.2.2.2⟩
def zgcp (q : ZRow) (i k : Nat) : Nat := zsum (fun j => if zcnt q j && (zpart q j == k) then zclaim q j else 0) i
def zghp (q : ZRow) (i k : Nat) : Nat := zsum (fun j => if zcnt q j && (zpart q j == k) then 1 else 0) i
def zgpp (q : ZRow) (i : Nat) : Nat := zsum (fun k => if zghp q i k = 0 then 0 else 1) 10
def zcap (q : ZRow) (i : Nat) : Nat := zsum (fun j => if zcnt q j then zclaim q j else 0) i
def zhdp (q : ZRow) (i : Nat) : Nat := zsum (fun j => if zcnt q j then 1 else 0) i
def GI (M : ZMem) (q : ZRow) (i : Nat) : Prop := M 63 7 = nI (q 0) ∧ M 63 8 = nI (q 4) ∧ M 63 9 = nI (q 9) ∧ M 63 10 = nI (zset (zcnt q) i) ∧ M 63 12 = nI (zcap q i) ∧ M 63 13 = nI (zhdp q i) ∧ M 63 14 = nI (zgpp q i) ∧ (∀ j, j < i → M 64 j = nI (zclaim q j)) ∧ (∀ j, j < i → zcnt q j = true → M 65 j = nI (zpart q j)) ∧ ∀ k, k < 10 → M 66 k = nI (zgcp q i k) ∧ M 67 k = nI (zghp q i k)
def zadm (M : ZMem) (i g : Nat) : ZMem := zwr (zwr (zwr (zwr (zwr (zwr M 63 10 (M 63 10 ||| nI (2 ^ i))) 65 i (nI g)) 66 g (M 66 g + M 64 i)) 67 g (M 67 g + nI 1)) 63 12 (M 63 12 + M 64 i)) 63 13 (M 63 13 + nI 1)
theorem admit30 {M : ZMem} {i g : Nat} (hi : i < 10) (hg : g < 10) : zf_X3_admit_j30 (nI i) (nI g) M = some (zadm M i g) := by
  simp (disch := (first | assumption | omega)) only [zf_X3_admit_j30, zlp, ↓ev_put, ↓ev_shl, ↓ev_rd, ↓ev_st, zwr_get, ↓ifp, ↓ifn, zadm]
theorem admit3 {M : ZMem} {i g : Nat} {h : Nat} (hi : i < 10) (hg : g < 10) (hh : M 67 g = nI h) (hl : h < 2147483648) : zf_X3_admit (nI i) (nI g) M = some (if h = 0 then zadm (zwr M 63 14 (M 63 14 + nI 1)) i g else zadm M i g) := by
  by_cases h0 : h = 0
  · rw [if_pos h0]
    simp (disch := (first | assumption | omega)) only [zf_X3_admit, zf_X3_admit_j10, zlp, ↓ev_ifB, ↓ev_iflt, ↓ev_ifle, ↓ev_ifeq, ↓ifp, ↓ifn, ↓ev_b1, ↓ev_b2, ↓ev_put, ↓ev_z0, ↓ev_z1, ↓ev_zB, ↓ev_has9, ↓ev_has10, ↓ev_shl, ↓ev_bit, ↓ev_in, ↓ev_inG, ↓ev_rd, ↓ev_st, decide_eq_true_eq, nI_add, ev_sub, pk_mul, nI_or, nI_xor, zBt, zBf, if_true, if_false, eq_self, Bool.false_eq_true, hh, admit30]
  · rw [if_neg h0]
    simp (disch := (first | assumption | omega)) only [zf_X3_admit, zf_X3_admit_j10, zlp, ↓ev_ifB, ↓ev_iflt, ↓ev_ifle, ↓ev_ifeq, ↓ifp, ↓ifn, ↓ev_b1, ↓ev_b2, ↓ev_put, ↓ev_z0, ↓ev_z1, ↓ev_zB, ↓ev_has9, ↓ev_has10, ↓ev_shl, ↓ev_bit, ↓ev_in, ↓ev_inG, ↓ev_rd, ↓ev_st, decide_eq_true_eq, nI_add, ev_sub, pk_mul, nI_or, nI_xor, zBt, zBf, if_true, if_false, eq_self, Bool.false_eq_true, hh, admit30]
theorem zghp_le {q : ZRow} {i k : Nat} : zghp q i k ≤ i := by
  have := zsum_le (f := fun j => if (zcnt q j && (zpart q j == k)) = true then 1 else 0) (c := 1) (n := i) (fun j _ => by show (if _ then 1 else 0) ≤ 1; split <;> omega)
  unfold zghp
  omega
theorem GI.skip {M M' : ZMem} {q : ZRow} {i : Nat} (h : GI M q i) (hn : zcnt q i = false) (e : M' = zwr M 64 i (nI (zclaim q i))) : GI M' q (i + 1) := by
  obtain ⟨h1, h2, h3, h4, h5, h6, h7, h8, h9, h10⟩ := h
  subst e
  have e63 : ∀ j, zwr M 64 i (nI (zclaim q i)) 63 j = M 63 j := fun j => by rw [wrn (by omega)]
  have g1 : zset (zcnt q) (i + 1) = zset (zcnt q) i := by show (if zcnt q i = true then _ else _) = _; rw [hn, if_neg (by decide)]
  have g2 : zcap q (i + 1) = zcap q i := by unfold zcap; rw [zsum_s, hn, if_neg (by decide), Nat.add_zero]
  have g3 : zhdp q (i + 1) = zhdp q i := by unfold zhdp; rw [zsum_s, hn, if_neg (by decide), Nat.add_zero]
  have g4 : ∀ k, zgcp q (i + 1) k = zgcp q i k := fun k => by unfold zgcp; rw [zsum_s, hn, Bool.false_and, if_neg (by decide), Nat.add_zero]
  have g5 : ∀ k, zghp q (i + 1) k = zghp q i k := fun k => by unfold zghp; rw [zsum_s, hn, Bool.false_and, if_neg (by decide), Nat.add_zero]
  have g6 : zgpp q (i + 1) = zgpp q i := by unfold zgpp; exact zsum_congr (fun k _ => by rw [g5])
  refine ⟨by rw [e63]; exact h1, by rw [e63]; exact h2, by rw [e63]; exact h3, by rw [e63, g1]; exact h4, by rw [e63, g2]; exact h5, by rw [e63, g3]; exact h6, by rw [e63, g6]; exact h7, fun j hj => ?_, fun j hj hc => ?_, fun k hk => ?_⟩
  · by_cases ej : j = i
    · subst ej; exact wre
    · rw [wrj ej]; exact h8 j (by omega)
  · by_cases ej : j = i
    · rw [ej, hn] at hc; cases hc
    · rw [wrn (by omega)]; exact h9 j (by omega) hc
  · rw [wrn (by omega), wrn (by omega), g4, g5]; exact h10 k hk
theorem GI.take {M M' : ZMem} {q : ZRow} {i : Nat} (h : GI M q i) (hi : i < 10) (hn : zcnt q i = true) (hp : zpart q i < 10) (e : M' = (if zghp q i (zpart q i) = 0 then zadm (zwr (zwr M 64 i (nI (zclaim q i))) 63 14 (zwr M 64 i (nI (zclaim q i)) 63 14 + nI 1)) i (zpart q i) else zadm (zwr M 64 i (nI (zclaim q i))) i (zpart q i))) : GI M' q (i + 1) := by
  obtain ⟨h1, h2, h3, h4, h5, h6, h7, h8, h9, h10⟩ := h
  have g1 : zset (zcnt q) (i + 1) = zset (zcnt q) i ||| 2 ^ i := by show (if zcnt q i = true then _ else _) = _; rw [hn, if_pos rfl]
  have g2 : zcap q (i + 1) = zcap q i + zclaim q i := by unfold zcap; rw [zsum_s, hn, if_pos rfl]
  have g3 : zhdp q (i + 1) = zhdp q i + 1 := by unfold zhdp; rw [zsum_s, hn, if_pos rfl]
  have g4 : ∀ k, zgcp q (i + 1) k = if k = zpart q i then zgcp q i k + zclaim q i else zgcp q i k := fun k => by
    unfold zgcp
    rw [zsum_s, hn, Bool.true_and]
    by_cases ek : k = zpart q i
    · subst ek; rw [if_pos rfl, if_pos (by simp)]
    · rw [if_neg ek, if_neg (by simp; exact fun z => ek z.symm), Nat.add_zero]
  have g5 : ∀ k, zghp q (i + 1) k = if k = zpart q i then zghp q i k + 1 else zghp q i k := fun k => by
    unfold zghp
    rw [zsum_s, hn, Bool.true_and]
    by_cases ek : k = zpart q i
    · subst ek; rw [if_pos rfl, if_pos (by simp)]
    · rw [if_neg ek, if_neg (by simp; exact fun z => ek z.symm), Nat.add_zero]
  have g6 : zgpp q (i + 1) = if zghp q i (zpart q i) = 0 then zgpp q i + 1 else zgpp q i := by
    have u := zsum_upd (f := fun k => if zghp q i k = 0 then 0 else 1) (g := fun k => if zghp q (i + 1) k = 0 then 0 else 1) hp (fun k hk => by
      show (if zghp q (i + 1) k = 0 then 0 else 1) = (if zghp q i k = 0 then 0 else 1)
      rw [g5, if_neg hk])
    have u2 : (if zghp q (i + 1) (zpart q i) = 0 then 0 else 1) = 1 := by
      rw [g5, if_pos rfl, if_neg (by omega)]
    rw [u2] at u
    show zsum (fun k => if zghp q (i + 1) k = 0 then 0 else 1) 10 = if zghp q i (zpart q i) = 0 then zsum (fun k => if zghp q i k = 0 then 0 else 1) 10 + 1 else zsum (fun k => if zghp q i k = 0 then 0 else 1) 10
    by_cases ez : zghp q i (zpart q i) = 0
    · rw [if_pos ez] at u ⊢; omega
    · rw [if_neg ez] at u ⊢; omega
  have main : ∀ A : ZMem, (∀ j, j ≠ 14 → A 63 j = M 63 j) → A 63 14 = nI (zgpp q (i + 1)) → (∀ j, A 64 j = zwr M 64 i (nI (zclaim q i)) 64 j) → A 65 = M 65 → A 66 = M 66 → A 67 = M 67 → GI (zadm A i (zpart q i)) q (i + 1) := by
    intro A a63 a14 a64 a65 a66 a67
    have a64i : A 64 i = nI (zclaim q i) := by rw [a64, wre]
    have z63 : ∀ j, j ≠ 10 → j ≠ 12 → j ≠ 13 → zadm A i (zpart q i) 63 j = A 63 j := fun j b c d => by unfold zadm; simp (disch := (first | assumption | omega)) only [zwr_get, ↓ifp, ↓ifn]
    refine ⟨by rw [z63 7 (by omega) (by omega) (by omega), a63 7 (by omega)]; exact h1, by rw [z63 8 (by omega) (by omega) (by omega), a63 8 (by omega)]; exact h2, by rw [z63 9 (by omega) (by omega) (by omega), a63 9 (by omega)]; exact h3, ?_, ?_, ?_, by rw [z63 14 (by omega) (by omega) (by omega)]; exact a14, fun j hj => ?_, fun j hj hc => ?_, fun k hk => ?_⟩
    · have a10 := a63 10 (by omega)
      unfold zadm
      simp (disch := (first | assumption | omega)) only [zwr_get, ↓ifp, ↓ifn, a10, h4, nI_or, g1]
    · have a12 := a63 12 (by omega)
      unfold zadm
      simp (disch := (first | assumption | omega)) only [zwr_get, ↓ifp, ↓ifn, a12, h5, a64i, nI_add, g2]
    · have a13 := a63 13 (by omega)
      unfold zadm
      simp (disch := (first | assumption | omega)) only [zwr_get, ↓ifp, ↓ifn, a13, h6, nI_add, g3]
    · have e1 : zadm A i (zpart q i) 64 j = A 64 j := by unfold zadm; simp (disch := (first | assumption | omega)) only [zwr_get, ↓ifp, ↓ifn]
      rw [e1, a64]
      by_cases ej : j = i
      · subst ej; exact wre
      · rw [wrj ej]; exact h8 j (by omega)
    · by_cases ej : j = i
      · subst ej
        unfold zadm
        simp (disch := (first | assumption | omega)) only [zwr_get, ↓ifp, ↓ifn]
      · have e1 : zadm A i (zpart q i) 65 j = A 65 j := by unfold zadm; simp (disch := (first | assumption | omega)) only [zwr_get, ↓ifp, ↓ifn]
        rw [e1, a65]; exact h9 j (by omega) hc
    · obtain ⟨b1, b2⟩ := h10 k hk
      rw [g4, g5]
      by_cases ek : k = zpart q i
      · have a66k : A 66 (zpart q i) = nI (zgcp q i (zpart q i)) := by rw [a66, ← ek]; exact b1
        have a67k : A 67 (zpart q i) = nI (zghp q i (zpart q i)) := by rw [a67, ← ek]; exact b2
        rw [if_pos ek, if_pos ek, ek]
        unfold zadm
        simp (disch := (first | assumption | omega)) only [zwr_get, ↓ifp, ↓ifn, a66k, a67k, a64i, nI_add, and_self]
      · rw [if_neg ek, if_neg ek]
        have e1 : zadm A i (zpart q i) 66 k = A 66 k := by unfold zadm; simp (disch := (first | assumption | omega)) only [zwr_get, ↓ifp, ↓ifn]
        have e2 : zadm A i (zpart q i) 67 k = A 67 k := by unfold zadm; simp (disch := (first | assumption | omega)) only [zwr_get, ↓ifp, ↓ifn]
        rw [e1, e2, a66, a67]; exact ⟨b1, b2⟩
  subst e
  by_cases ez : zghp q i (zpart q i) = 0
  · rw [if_pos ez]
    rw [if_pos ez] at g6
    refine main _ (fun j hj => by rw [wrj hj, wrn (by omega)]) (by rw [wre, wrn (by omega), h7, nI_add, g6]) (fun j => by rw [wrn (by omega)]) (by rw [wrn (by omega), wrn (by omega)]) (by rw [wrn (by omega), wrn (by omega)]) (by rw [wrn (by omega), wrn (by omega)])
  · rw [if_neg ez]
    rw [if_neg ez] at g6
    refine main _ (fun j hj => by rw [wrn (by omega)]) (by rw [wrn (by omega), h7, g6]) (fun j => rfl) (wrn (by omega)) (wrn (by omega)) (wrn (by omega))
theorem zadm_fr {M : ZMem} {i g : Nat} : Fr 63 67 M (zadm M i g) := fun k hk => by
  unfold zadm
  rw [wrn (by omega), wrn (by omega), wrn (by omega), wrn (by omega), wrn (by omega), wrn (by omega)]
theorem zcnt_eq {q : ZRow} {i : Nat} (hi : i < 10) : zcnt q i = ((q 13 &&& (q 12 ^^^ 1023)).testBit i && decide (0 < zclaim q i)) := by
  rw [andn_tb hi]
  rfl
theorem gather3 {M : ZMem} {t o n : Nat} {q : ZRow} (h : CQ M t o q) (hs : SPL M q) (hn : 20 < n) : Ok (zf_X3_gather n t o M) (fun M' => GI M' q (q 0) ∧ M' 63 11 = nI (zhunS q) ∧ Fr 63 67 M M') := by
  have hw := h.2.2.1.1
  have hb := hw.b
  obtain ⟨h1, h2, h3, h4, h5⟩ := id h
  have hsd := h2.1
  have key := floop (fun m i (S : ZMem) => zf_X3_gather_L63 o t n (fun M56 => zput M56 63 11 ((M56 63 10) &&& ((M56 o 6) ^^^ (-1 : Int32))) (fun M57 => some M57)) m (nI i) S) (fun i S => GI S q i ∧ Fr 63 67 M S) (q 0) (fun M' => GI M' q (q 0) ∧ M' 63 11 = nI (zhunS q) ∧ Fr 63 67 M M') (fun i S hi hI => by
      obtain ⟨hG, hF⟩ := hI
      refine Or.inl ?_
      have hS : CQ S t o q := h.fp (FPm.of_fr (hF.mono (by omega) (by omega)))
      have hSP : SPL S q := by
        obtain ⟨p1, p2, p3, p4, p5⟩ := hs
        exact ⟨by rw [hF 57 (by omega)]; exact p1, by rw [hF 57 (by omega)]; exact p2, by rw [hF 57 (by omega)]; exact p3, fun j hj => by rw [hF 58 (by omega)]; exact p4 j hj, fun k hk => by rw [hF 59 (by omega)]; exact p5 k hk⟩
      have hcl := claim7 hS.1 hS.2.1.1 hw hi
      have hcle := zclaim_le hw hi
      have e7 := hG.1
      have s5 : zwr S 64 i (nI (zclaim q i)) o 5 = nI (q 13) := by rw [wrn (by omega)]; exact hS.2.1.1.2.2.2.2.1
      have s4 : zwr S 64 i (nI (zclaim q i)) o 4 = nI (q 12) := by rw [wrn (by omega)]; exact hS.2.1.1.2.2.2.1
      have hand : nI (q 13) &&& (nI (q 12) ^^^ -nI 1) = nI (q 13 &&& (q 12 ^^^ 1023)) := nI_andn (by omega) (by omega)
      have hlt : q 13 &&& (q 12 ^^^ 1023) < 1024 := Nat.lt_of_le_of_lt Nat.and_le_left (by omega)
      have hFw : Fr 63 67 S (zwr S 64 i (nI (zclaim q i))) := Fr.wr S i _ (by omega) (by omega)
      have ecnt := zcnt_eq (q := q) (show i < 10 by omega)
      by_cases g1 : (q 13 &&& (q 12 ^^^ 1023)).testBit i = true
      · by_cases g2 : 0 < zclaim q i
        · have hc : zcnt q i = true := by rw [ecnt, g1, decide_eq_true g2]; rfl
          have hp := zpart10 hw.1 hi hc
          have hSP' : SPL (zwr S 64 i (nI (zclaim q i))) q := by
            obtain ⟨p1, p2, p3, p4, p5⟩ := hSP
            exact ⟨by rw [wrn (by omega)]; exact p1, by rw [wrn (by omega)]; exact p2, by rw [wrn (by omega)]; exact p3, fun j hj => by rw [wrn (by omega)]; exact p4 j hj, fun k hk => by rw [wrn (by omega)]; exact p5 k hk⟩
          have hgo := groupOf6 (n := n) hSP' hw.1 hi hn
          rw [if_pos (zcnt_in hi hc)] at hgo
          have hh := (hG.2.2.2.2.2.2.2.2.2 (zpart q i) hp).2
          have hle := zghp_le (q := q) (i := i) (k := zpart q i)
          have had := admit3 (M := zwr S 64 i (nI (zclaim q i))) (i := i) (g := zpart q i) (h := zghp q i (zpart q i)) (by omega) hp (by rw [wrn (by omega)]; exact hh) (by omega)
          refine ⟨_, ⟨GI.take hG (by omega) hc hp rfl, hF.trans ?_⟩, fun m => ?_⟩
          · split
            · exact hFw.trans ((Fr.wr _ 14 _ (by omega) (by omega)).trans zadm_fr)
            · exact hFw.trans zadm_fr
          · show zf_X3_gather_L63 o t n _ (m + 1) (nI i) S = zf_X3_gather_L63 o t n _ m (nI (i + 1)) _
            simp (disch := (first | assumption | omega)) only [zf_X3_gather_L63, zf_X3_gather_j127, zlp, e7, ↓ev_ifle, ↓ifp, ↓ifn, ↓zb1_at hcl, ↓ev_st, s5, s4, hand, ↓ev_has9, ↓ev_ifB, ↓ev_rd, wre, ↓zb1_at hgo, ↓zb1_at had, nI_add]
        · have hc : zcnt q i = false := by rw [ecnt, decide_eq_false g2, Bool.and_false]
          refine ⟨_, ⟨hG.skip hc rfl, hF.trans hFw⟩, fun m => ?_⟩
          show zf_X3_gather_L63 o t n _ (m + 1) (nI i) S = zf_X3_gather_L63 o t n _ m (nI (i + 1)) _
          simp (disch := (first | assumption | omega)) only [zf_X3_gather_L63, zf_X3_gather_j127, zlp, e7, ↓ev_ifle, ↓ifp, ↓ifn, ↓zb1_at hcl, ↓ev_st, s5, s4, hand, ↓ev_has9, ↓ev_ifB, ↓ev_rd, wre, nI_add]
      · have hc : zcnt q i = false := by
          have g1' : (q 13 &&& (q 12 ^^^ 1023)).testBit i = false := by simpa using g1
          rw [ecnt, g1', Bool.false_and]
        refine ⟨_, ⟨hG.skip hc rfl, hF.trans hFw⟩, fun m => ?_⟩
        show zf_X3_gather_L63 o t n _ (m + 1) (nI i) S = zf_X3_gather_L63 o t n _ m (nI (i + 1)) _
        simp (disch := (first | assumption | omega)) only [zf_X3_gather_L63, zf_X3_gather_j127, zlp, e7, ↓ev_ifle, ↓ifp, ↓ifn, ↓zb1_at hcl, ↓ev_st, s5, s4, hand, ↓ev_has9, ↓ev_ifB, ↓ev_rd, wre, nI_add]) (fun S hI m => by
      obtain ⟨hG, hF⟩ := hI
      have e7 := hG.1
      have e10 := hG.2.2.2.1
      have s6 : S o 6 = nI (q 14) := by rw [hF o (by omega)]; exact hsd.2.2.2.2.2.1
      have hlt : zset (zcnt q) (q 0) < 1024 := Nat.lt_of_lt_of_le (zset_lt _ _) (zpow_le hb.1)
      have hand : nI (zset (zcnt q) (q 0)) &&& (nI (q 14) ^^^ -nI 1) = nI (zset (zcnt q) (q 0) &&& (q 14 ^^^ 1023)) := nI_andn hlt (by omega)
      have ehun : zset (zcnt q) (q 0) &&& (q 14 ^^^ 1023) = zhunS q := by
        refine tb_ext (n := 10) (Nat.lt_of_le_of_lt Nat.and_le_left hlt) (Nat.lt_of_lt_of_le (zset_lt _ _) (zpow_le hb.1)) (fun j hj => ?_)
        unfold zhunS
        rw [andn_tb hj, zset_tb, zset_tb]
        unfold zhun
        rw [Bool.and_assoc]
      refine ⟨zwr S 63 11 (nI (zhunS q)), ?_, ?_, wre, hF.trans (Fr.wr S 11 _ (by omega) (by omega))⟩
      · show zf_X3_gather_L63 o t n _ (m + 1) (nI (q 0)) S = _
        simp (disch := (first | assumption | omega)) only [zf_X3_gather_L63, zlp, e7, ↓ev_ifle, ↓ifp, ↓ev_put, e10, s6, hand, ehun]
      · obtain ⟨g1, g2, g3, g4, g5, g6, g7, g8, g9, g10⟩ := hG
        exact ⟨by rw [wrj (by omega)]; exact g1, by rw [wrj (by omega)]; exact g2, by rw [wrj (by omega)]; exact g3, by rw [wrj (by omega)]; exact g4, by rw [wrj (by omega)]; exact g5, by rw [wrj (by omega)]; exact g6, by rw [wrj (by omega)]; exact g7, fun j hj => by rw [wrn (by omega)]; exact g8 j hj, fun j hj hc => by rw [wrn (by omega)]; exact g9 j hj hc, fun k hk => by rw [wrn (by omega), wrn (by omega)]; exact g10 k hk⟩)
  obtain ⟨t1, t2, t3, t4, -, -, -⟩ := id h1
  obtain ⟨⟨-, -, -, -, -, -, -, s8, -⟩, -⟩ := id h2
  have ff := fun (A : ZMem) (k : Nat) x => fill7 (M := A) (o := k) (l := 10) (n := n) (x := x) (by omega) (by omega)
  have e0 : zf_X3_gather n t o M = zf_X3_gather_L63 o t n (fun M56 => zput M56 63 11 ((M56 63 10) &&& ((M56 o 6) ^^^ (-1 : Int32))) (fun M57 => some M57)) n (nI 0) (zwr (zwr (zwr (zwr (zfl (zfl (zwr (zwr (zwr M 63 7 (nI (q 0))) 63 8 (nI (q 4))) 63 9 (nI (q 9))) 66 (nI 0) 10) 67 (nI 0) 10) 63 10 (nI 0)) 63 13 (nI 0)) 63 12 (nI 0)) 63 14 (nI 0)) := by
    have x1 : zwr M 63 7 (nI (q 0)) t 9 = nI (q 4) := by rw [wrn (by omega)]; exact t4
    have x2 : zwr (zwr M 63 7 (nI (q 0))) 63 8 (nI (q 4)) o 8 = nI (q 9) := by rw [wrn (by omega), wrn (by omega)]; exact s8
    simp (disch := (first | assumption | omega)) only [zf_X3_gather, zlp, ↓ev_put, t1, x1, x2, ↓zb1_at (ff _ _ _)]
  rw [e0]
  refine key n 0 _ (Nat.zero_le _) ⟨⟨?_, ?_, ?_, ?_, ?_, ?_, ?_, fun j hj => by omega, fun j hj => by omega, fun k hk => ⟨?_, ?_⟩⟩, fun k hk => ?_⟩ (by omega)
  · rw [wrj (by omega), wrj (by omega), wrj (by omega), wrj (by omega), zfl_ne (by omega), zfl_ne (by omega), wrj (by omega), wrj (by omega), wre]
  · rw [wrj (by omega), wrj (by omega), wrj (by omega), wrj (by omega), zfl_ne (by omega), zfl_ne (by omega), wrj (by omega), wre]
  · rw [wrj (by omega), wrj (by omega), wrj (by omega), wrj (by omega), zfl_ne (by omega), zfl_ne (by omega), wre]
  · rw [wrj (by omega), wrj (by omega), wrj (by omega), wre]; rfl
  · rw [wrj (by omega), wre]; rfl
  · rw [wrj (by omega), wrj (by omega), wre]; rfl
  · rw [wre]; rfl
  · rw [wrn (by omega), wrn (by omega), wrn (by omega), wrn (by omega), zfl_ne (by omega), zfl_at hk]; rfl
  · rw [wrn (by omega), wrn (by omega), wrn (by omega), wrn (by omega), zfl_at hk]; rfl
  · rw [wrn (by omega), wrn (by omega), wrn (by omega), wrn (by omega), zfl_ne (by omega), zfl_ne (by omega), wrn (by omega), wrn (by omega), wrn (by omega)]
