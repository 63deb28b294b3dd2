/-! LAYER 2: spell (2) -/
def zspell (r : ZRow) : List Nat := zcAl r (r 0) 0 (zmes r (r 0) 0 (zchl r (r 1) 0 (zhead r)))
theorem zpr_s (d : Nat) : zpr (d + 1) = d + zpr d := rfl
theorem conB9 {M : ZMem} {t nx u n a : Nat} {r : ZRow} {U : Nat → ZRow} {T : ZT} {L : ZL} (hC : IC M t nx r u U T L) (hw : WF r) (ha : a < r 0) (hn : 20 < n) (K : ZMem → Option ZMem) : ∀ d b m S l, b + d = r 0 → d < m → PG9 S l → l.length + 13 * d ≤ 965 → FB9 M S → ∃ M', zf_X9_spellConflicts_L17 (nI a) n K m (nI b) S = K M' ∧ PG9 M' (zcB r a d b l) ∧ FB9 M M' := by
  have hb := hw.b
  have hfl := hw.foe (show a < 10 by omega)
  intro d
  induction d with
  | zero =>
    intro b m S l hb' hm hP hl hF
    obtain ⟨m, rfl⟩ : ∃ y, m = y + 1 := ⟨m - 1, by omega⟩
    have hC1 := hC.f9 (fb9_f9 hF)
    obtain ⟨a0, -⟩ := hC1.rd
    refine ⟨S, ?_, hP, hF⟩
    rw [zf_X9_spellConflicts_L17, hC1.1.dy, a0, zi_le (by omega) (by omega), if_pos (by omega)]
  | succ d ih =>
    intro b m S l hb' hm hP hl hF
    obtain ⟨m, rfl⟩ : ∃ y, m = y + 1 := ⟨m - 1, by omega⟩
    have hC1 := hC.f9 (fb9_f9 hF)
    obtain ⟨a0, -⟩ := hC1.rd
    have hfa := hC1.foe (show a < 10 by omega)
    rw [zf_X9_spellConflicts_L17, hC1.1.dy, a0, zi_le (by omega) (by omega), if_neg (by omega), zrd_at a rfl (by omega), hfa, zb1_at (has9 hfl (by omega))]
    unfold zf_X9_spellConflicts_j58
    rw [nI_1]
    show ∃ M', _ ∧ PG9 M' (zcB r a d (b + 1) (if (r (63 + a)).testBit b then l ++ zln2 7 a b else l)) ∧ _
    cases g : (r (63 + a)).testBit b with
    | false =>
      rw [if_pos (show zB false = 0 from rfl), if_neg (by decide)]
      exact ih (b + 1) m S l (by omega) (by omega) hP (by omega) hF
    | true =>
      have nl := zln2_len (s := 7) (v := a) (x := b) (k := 1) (by omega) (by omega) (by omega) (by show a < 10; omega) (by show b < 10; omega)
      have e7 : (zwd 7).length = 8 := rfl
      obtain ⟨M2, g1, g2, g3⟩ := two9 (n := n) (s := 7) (v := a) (x := b) (by omega) (by omega) (by omega) hP (by omega) hn
      rw [if_neg (show ¬ zB true = 0 by decide), if_pos rfl, zb1_at wordOf9.2.2.2.2.2.2.2, zb1_at g1]
      exact ih (b + 1) m M2 _ (by omega) (by omega) g2 (by rw [List.length_append]; omega) (fb9_trans hF g3)
theorem conA9 {M : ZMem} {t nx u n : Nat} {r : ZRow} {U : Nat → ZRow} {T : ZT} {L : ZL} (hC : IC M t nx r u U T L) (hw : WF r) (hn : 20 < n) : ∀ d a m S l, a + d = r 0 → d < m → PG9 S l → l.length + 13 * zpr d ≤ 965 → FB9 M S → ∃ M', zf_X9_spellConflicts_L2 n (fun M41 => some M41) m (nI a) S = some M' ∧ PG9 M' (zcAl r d a l) ∧ FB9 M M' := by
  have hb := hw.b
  intro d
  induction d with
  | zero =>
    intro a m S l ha hm hP hl hF
    obtain ⟨m, rfl⟩ : ∃ y, m = y + 1 := ⟨m - 1, by omega⟩
    have hC1 := hC.f9 (fb9_f9 hF)
    obtain ⟨a0, -⟩ := hC1.rd
    refine ⟨S, ?_, hP, hF⟩
    rw [zf_X9_spellConflicts_L2, hC1.1.dy, a0, zi_le (by omega) (by omega), if_pos (by omega)]
  | succ d ih =>
    intro a m S l ha hm hP hl hF
    obtain ⟨m, rfl⟩ : ∃ y, m = y + 1 := ⟨m - 1, by omega⟩
    have hC1 := hC.f9 (fb9_f9 hF)
    obtain ⟨a0, -⟩ := hC1.rd
    rw [zpr_s] at hl
    obtain ⟨M2, g1, g2, g3⟩ := conB9 (n := n) hC hw (show a < r 0 by omega) hn (fun M40 => (zf_X9_spellConflicts_L2 n (fun M41 => some M41) m (nI a + 1) M40)) d (a + 1) n S l (by omega) (by omega) hP (by omega) hF
    have nl := zcB_len (r := r) (a := a) (show a < 10 by omega) d (a + 1) l (by omega)
    obtain ⟨M3, f1, f2, f3⟩ := ih (a + 1) m M2 (zcB r a d (a + 1) l) (by omega) (by omega) g2 (by omega) g3
    refine ⟨M3, ?_, f2, f3⟩
    rw [zf_X9_spellConflicts_L2, hC1.1.dy, a0, zi_le (by omega) (by omega), if_neg (by omega), nI_1]
    rw [nI_1] at g1
    exact g1.trans f1
theorem conB10 {M : ZMem} {n a : Nat} {r : ZRow} (hI : IR M r) (hw : WF r) (ha : a < r 0) (hn : 20 < n) (K : ZMem → Option (Int32 × ZMem)) : ∀ d b m S l, b + d = r 0 → d < m → PG10 S l → l.length + 13 * d ≤ 965 → FB10 M S → ∃ M', zf_X10_spell_L167 (nI a) n K m (nI b) S = K M' ∧ PG10 M' (zcB r a d b l) ∧ FB10 M M' := by
  have hb := hw.b
  have hfl := hw.foe (show a < 10 by omega)
  intro d
  induction d with
  | zero =>
    intro b m S l hb' hm hP hl hF
    obtain ⟨m, rfl⟩ : ∃ y, m = y + 1 := ⟨m - 1, by omega⟩
    have hI1 : IR S r := hI.congr (hF.1 78 (by omega) (by omega))
    refine ⟨S, ?_, hP, hF⟩
    rw [zf_X10_spell_L167, hI1.z0, zi_le (by omega) (by omega), if_pos (by omega)]
  | succ d ih =>
    intro b m S l hb' hm hP hl hF
    obtain ⟨m, rfl⟩ : ∃ y, m = y + 1 := ⟨m - 1, by omega⟩
    have hI1 : IR S r := hI.congr (hF.1 78 (by omega) (by omega))
    rw [zf_X10_spell_L167, hI1.z0, zi_le (by omega) (by omega), if_neg (by omega), show (63 : Int32) + nI a = nI (63 + a) from nI_add 63 a, rd78 hI1 _ (by omega) (by omega), zb1_at (has10 hfl (by omega))]
    unfold zf_X10_spell_j202
    rw [nI_1]
    show ∃ M', _ ∧ PG10 M' (zcB r a d (b + 1) (if (r (63 + a)).testBit b then l ++ zln2 7 a b else l)) ∧ _
    cases g : (r (63 + a)).testBit b with
    | false =>
      rw [if_pos (show zB false = 0 from rfl), if_neg (by decide)]
      exact ih (b + 1) m S l (by omega) (by omega) hP (by omega) hF
    | true =>
      have nl := zln2_len (s := 7) (v := a) (x := b) (k := 1) (by omega) (by omega) (by omega) (by show a < 10; omega) (by show b < 10; omega)
      have e7 : (zwd 7).length = 8 := rfl
      obtain ⟨M2, g1, g2, g3⟩ := two10 (n := n) (v := a) (x := b) zW7 (by omega) (by omega) hP (by omega) hn
      rw [if_neg (show ¬ zB true = 0 by decide), if_pos rfl, show (37396683146 : Int64) = lN 37396683146 from rfl, zb1_at g1]
      exact ih (b + 1) m M2 _ (by omega) (by omega) g2 (by rw [List.length_append]; omega) (fb10_trans hF g3)
theorem conA10 {M : ZMem} {n : Nat} {r : ZRow} (hI : IR M r) (hw : WF r) (hn : 20 < n) (K : ZMem → Option (Int32 × ZMem)) : ∀ d a m S l, a + d = r 0 → d < m → PG10 S l → l.length + 13 * zpr d ≤ 965 → FB10 M S → ∃ M', zf_X10_spell_L153 n K m (nI a) S = K M' ∧ PG10 M' (zcAl r d a l) ∧ FB10 M M' := by
  have hb := hw.b
  intro d
  induction d with
  | zero =>
    intro a m S l ha hm hP hl hF
    obtain ⟨m, rfl⟩ : ∃ y, m = y + 1 := ⟨m - 1, by omega⟩
    have hI1 : IR S r := hI.congr (hF.1 78 (by omega) (by omega))
    refine ⟨S, ?_, hP, hF⟩
    rw [zf_X10_spell_L153, hI1.z0, zi_le (by omega) (by omega), if_pos (by omega)]
  | succ d ih =>
    intro a m S l ha hm hP hl hF
    obtain ⟨m, rfl⟩ : ∃ y, m = y + 1 := ⟨m - 1, by omega⟩
    have hI1 : IR S r := hI.congr (hF.1 78 (by omega) (by omega))
    rw [zpr_s] at hl
    obtain ⟨M2, g1, g2, g3⟩ := conB10 (n := n) hI hw (show a < r 0 by omega) hn (fun M83 => (zf_X10_spell_L153 n K m (nI a + 1) M83)) d (a + 1) n S l (by omega) (by omega) hP (by omega) hF
    have nl := zcB_len (r := r) (a := a) (show a < 10 by omega) d (a + 1) l (by omega)
    obtain ⟨M3, f1, f2, f3⟩ := ih (a + 1) m M2 (zcB r a d (a + 1) l) (by omega) (by omega) g2 (by omega) g3
    refine ⟨M3, ?_, f2, f3⟩
    rw [zf_X10_spell_L153, hI1.z0, zi_le (by omega) (by omega), if_neg (by omega), nI_1]
    rw [nI_1] at g1
    exact g1.trans f1
theorem mems9 {M : ZMem} {t nx u n : Nat} {r : ZRow} {U : Nat → ZRow} {T : ZT} {L : ZL} (hC : IC M t nx r u U T L) (hw : WF r) (hn : 20 < n) (K : ZMem → Option (Int32 × ZMem)) : ∀ d i m S l, i + d = r 0 → d < m → PG9 S l → l.length + 27 * d ≤ 900 → FB9 M S → ∃ M', zf_X9_spell_L161 n K m (nI i) S = K M' ∧ PG9 M' (zmes r d i l) ∧ FB9 M M' ∧ (zmes r d i l).length ≤ l.length + 27 * d := by
  have hb := hw.b
  intro d
  induction d with
  | zero =>
    intro i m S l hi hm hP hl hF
    obtain ⟨m, rfl⟩ : ∃ y, m = y + 1 := ⟨m - 1, by omega⟩
    have hC1 := hC.f9 (fb9_f9 hF)
    obtain ⟨a0, -⟩ := hC1.rd
    refine ⟨S, ?_, hP, hF, by show l.length ≤ _; omega⟩
    rw [zf_X9_spell_L161, hC1.1.dy, a0, zi_le (by omega) (by omega), if_pos (by omega)]
  | succ d ih =>
    intro i m S l hi hm hP hl hF
    obtain ⟨m, rfl⟩ : ∃ y, m = y + 1 := ⟨m - 1, by omega⟩
    have hC1 := hC.f9 (fb9_f9 hF)
    obtain ⟨a0, -⟩ := hC1.rd
    obtain ⟨M2, g1, g2, g3⟩ := mem9 (n := n) hC1 hw (show i < r 0 by omega) hP (by omega) hn
    have nl := zme_len hw (show i < r 0 by omega) l
    obtain ⟨M3, f1, f2, f3, f4⟩ := ih (i + 1) m M2 (zme r i l) (by omega) (by omega) g2 (by omega) (fb9_trans hF g3)
    refine ⟨M3, ?_, f2, f3, by show (zmes r d (i + 1) (zme r i l)).length ≤ _; omega⟩
    rw [zf_X9_spell_L161, hC1.1.dy, a0, zi_le (by omega) (by omega), if_neg (by omega), zb1_at g1, nI_1]
    exact f1
theorem mems10 {M : ZMem} {n : Nat} {r : ZRow} (hI : IR M r) (hw : WF r) (hn : 20 < n) (K : ZMem → Option (Int32 × ZMem)) : ∀ d i m S l, i + d = r 0 → d < m → PG10 S l → l.length + 27 * d ≤ 900 → FB10 M S → ∃ M', zf_X10_spell_L130 n K m (nI i) S = K M' ∧ PG10 M' (zmes r d i l) ∧ FB10 M M' := by
  have hb := hw.b
  intro d
  induction d with
  | zero =>
    intro i m S l hi hm hP hl hF
    obtain ⟨m, rfl⟩ : ∃ y, m = y + 1 := ⟨m - 1, by omega⟩
    have hI1 : IR S r := hI.congr (hF.1 78 (by omega) (by omega))
    refine ⟨S, ?_, hP, hF⟩
    rw [zf_X10_spell_L130, hI1.z0, zi_le (by omega) (by omega), if_pos (by omega)]
  | succ d ih =>
    intro i m S l hi hm hP hl hF
    obtain ⟨m, rfl⟩ : ∃ y, m = y + 1 := ⟨m - 1, by omega⟩
    have hI1 : IR S r := hI.congr (hF.1 78 (by omega) (by omega))
    obtain ⟨M2, g1, g2, g3⟩ := mem10 (n := n) hI1 hw (show i < r 0 by omega) hP (by omega) hn
    have nl := zme_len hw (show i < r 0 by omega) l
    obtain ⟨M3, f1, f2, f3⟩ := ih (i + 1) m M2 (zme r i l) (by omega) (by omega) g2 (by omega) (fb10_trans hF g3)
    refine ⟨M3, ?_, f2, f3⟩
    rw [zf_X10_spell_L130, hI1.z0, zi_le (by omega) (by omega), if_neg (by omega), zb1_at g1, nI_1]
    exact f1
theorem chans9 {M : ZMem} {t nx u n : Nat} {r : ZRow} {U : Nat → ZRow} {T : ZT} {L : ZL} (hC : IC M t nx r u U T L) (hw : WF r) (hn : 20 < n) (K : ZMem → Option (Int32 × ZMem)) : ∀ d c m S l, c + d = r 1 → d < m → PG9 S l → l.length + 14 * d ≤ 900 → FB9 M S → ∃ M', zf_X9_spell_L113 n K m (nI c) S = K M' ∧ PG9 M' (zchl r d c l) ∧ FB9 M M' ∧ (zchl r d c l).length ≤ l.length + 14 * d := by
  have hb := hw.b
  have ht := hC.t
  intro d
  induction d with
  | zero =>
    intro i m S l hi hm hP hl hF
    obtain ⟨m, rfl⟩ : ∃ y, m = y + 1 := ⟨m - 1, by omega⟩
    have hC1 := hC.f9 (fb9_f9 hF)
    obtain ⟨a0, a1, -⟩ := hC1.rd
    refine ⟨S, ?_, hP, hF, by show l.length ≤ _; omega⟩
    rw [zf_X9_spell_L113, hC1.1.dy, a1, zi_le (by omega) (by omega), if_pos (by omega)]
  | succ d ih =>
    intro c m S l hi hm hP hl hF
    obtain ⟨m, rfl⟩ : ∃ y, m = y + 1 := ⟨m - 1, by omega⟩
    have hC1 := hC.f9 (fb9_f9 hF)
    obtain ⟨a0, a1, -⟩ := hC1.rd
    obtain ⟨m1, m2⟩ := hC1.tc (show c < r 1 by omega)
    obtain ⟨b1, b2, b3⟩ := hw.2.2.2.2.2.2.2.2.2.2.2.2.2.2.2.2.1 c (by omega)
    have nl := zchan_len hw (show c < r 1 by omega)
    obtain ⟨M2, g1, g2, g3⟩ := two9 (n := n) (s := 5) (v := r (55 + c)) (x := r (59 + c)) (by omega) (by omega) (by omega) hP (by omega) hn
    obtain ⟨M3, f1, f2, f3, f4⟩ := ih (c + 1) m M2 _ (by omega) (by omega) g2 (by rw [List.length_append]; omega) (fb9_trans hF g3)
    refine ⟨M3, ?_, f2, f3, by show (zchl r d (c + 1) _).length ≤ _; rw [List.length_append] at f4; omega⟩
    rw [zf_X9_spell_L113, hC1.1.dy, a1, zi_le (by omega) (by omega), if_neg (by omega), zb1_at wordOf9.2.2.2.2.2.1, hC1.1.dy, zrd_at c rfl (by omega), m1, hC1.1.dy, zrd_at c rfl (by omega), m2, zb1_at g1, nI_1]
    exact f1
theorem chans10 {M : ZMem} {n : Nat} {r : ZRow} (hI : IR M r) (hw : WF r) (hn : 20 < n) (K : ZMem → Option (Int32 × ZMem)) : ∀ d c m S l, c + d = r 1 → d < m → PG10 S l → l.length + 14 * d ≤ 900 → FB10 M S → ∃ M', zf_X10_spell_L87 n K m (nI c) S = K M' ∧ PG10 M' (zchl r d c l) ∧ FB10 M M' := by
  have hb := hw.b
  intro d
  induction d with
  | zero =>
    intro i m S l hi hm hP hl hF
    obtain ⟨m, rfl⟩ : ∃ y, m = y + 1 := ⟨m - 1, by omega⟩
    have hI1 : IR S r := hI.congr (hF.1 78 (by omega) (by omega))
    refine ⟨S, ?_, hP, hF⟩
    rw [zf_X10_spell_L87, show (1 : Int32) = nI 1 from rfl, rd78 hI1 _ (by omega) (by omega), zi_le (by omega) (by omega), if_pos (by omega)]
  | succ d ih =>
    intro c m S l hi hm hP hl hF
    obtain ⟨m, rfl⟩ : ∃ y, m = y + 1 := ⟨m - 1, by omega⟩
    have hI1 : IR S r := hI.congr (hF.1 78 (by omega) (by omega))
    obtain ⟨b1, b2, b3⟩ := hw.2.2.2.2.2.2.2.2.2.2.2.2.2.2.2.2.1 c (by omega)
    have nl := zchan_len hw (show c < r 1 by omega)
    obtain ⟨M2, g1, g2, g3⟩ := two10 (n := n) (v := r (55 + c)) (x := r (59 + c)) zW5 (by omega) (by omega) hP (by omega) hn
    obtain ⟨M3, f1, f2, f3⟩ := ih (c + 1) m M2 _ (by omega) (by omega) g2 (by rw [List.length_append]; omega) (fb10_trans hF g3)
    refine ⟨M3, ?_, f2, f3⟩
    rw [zf_X10_spell_L87, show zrd S 78 73 (1 : Int32) = zrd S 78 73 (nI 1) from rfl, rd78 hI1 _ (by omega) (by omega), zi_le (by omega) (by omega), if_neg (by omega), show (55 : Int32) + nI c = nI (55 + c) from nI_add 55 c, rd78 hI1 _ (by omega) (by omega), show (59 : Int32) + nI c = nI (59 + c) from nI_add 59 c, rd78 hI1 _ (by omega) (by omega), show (1277870079 : Int64) = lN 1277870079 from rfl, zb1_at g1, nI_1]
    exact f1
theorem zcAl_len {r : ZRow} : ∀ d a l, a + d ≤ 10 → (zcAl r d a l).length ≤ l.length + 13 * zpr d
  | 0, a, l, _ => by show l.length ≤ _; omega
  | d + 1, a, l, h => by
    have h1 := zcB_len (r := r) (a := a) (by omega) d (a + 1) l (by omega)
    have h2 := zcAl_len (r := r) d (a + 1) (zcB r a d (a + 1) l) (by omega)
    rw [zpr_s]
    show (zcAl r d (a + 1) (zcB r a d (a + 1) l)).length ≤ _
    omega
theorem op_spell {n : Nat} (hn : 400000000001 < n) {M : ZMem} (hI : INV M) (a : Int32) : OPW (zf_X9_spell n a) (zf_X10_spell n a) M := by
  obtain ⟨t, nx, r, u, U, T, L, hS, hC, hM⟩ := id hI
  have hw := hS.1.1
  have hb := hw.b
  have ht := hC.t
  have hhl := zhead_len hw
  have hpr := zpr_le (r 0) hb.1
  have l0 := zln1_len (s := 0) (v := r 2) (k := 5) (by omega) (by omega) (by omega) (by show _ < 100000; omega)
  have l1 := zln1_len (s := 1) (v := r 3) (k := 2) (by omega) (by omega) (by omega) (by show _ < 100; omega)
  have l2 := zln1_len (s := 2) (v := r 4) (k := 3) (by omega) (by omega) (by omega) (by show _ < 1000; omega)
  have l3 := zln1_len (s := 3) (v := r 5) (k := 2) (by omega) (by omega) (by omega) (by show _ < 100; omega)
  have w0 : (zwd 0).length = 4 := rfl
  have w1 : (zwd 1).length = 3 := rfl
  have w2 : (zwd 2).length = 5 := rfl
  have w3 : (zwd 3).length = 4 := rfl
  have en : ([] : List Nat).length = 0 := rfl
  have good : ∀ k : Option Nat, (∀ j, k = some j → j < 2147483648) → OPW (zf_X9_spell n (zoI1 k)) (zf_X10_spell n (zoI1 k)) M := fun k hk => by
    have hge := fun (A B : Option (Int32 × ZMem)) => ge_m1 hk A B
    refine OPW.scr hS hC hM (zpans (zspell r) k) ?_ (fun M1 hM1 => ?_)
    · have P0 : PG9 (zwr M 75 1 (nI 0)) [] := ⟨wre, fun j hj => absurd hj (Nat.not_lt_zero _)⟩
      have F0 : FB9 M (zwr M 75 1 (nI 0)) := fun j x y => wrn x
      obtain ⟨M1, a1, a2, a3⟩ := one9 (n := n) (s := 0) (v := r 2) (by omega) (by omega) P0 (by omega) (by omega)
      have F1 := fb9_trans F0 a3
      obtain ⟨M2, b1, b2, b3⟩ := one9 (n := n) (s := 1) (v := r 3) (by omega) (by omega) a2 (by simp only [List.length_append]; omega) (by omega)
      have F2 := fb9_trans F1 b3
      obtain ⟨M3, c1, c2, c3⟩ := one9 (n := n) (s := 2) (v := r 4) (by omega) (by omega) b2 (by simp only [List.length_append]; omega) (by omega)
      have F3 := fb9_trans F2 c3
      obtain ⟨M4, d1, d2, d3⟩ := one9 (n := n) (s := 3) (v := r 5) (by omega) (by omega) c2 (by simp only [List.length_append]; omega) (by omega)
      have F4 := fb9_trans F3 d3
      obtain ⟨M5, e1, e2, e3⟩ := two9 (n := n) (s := 4) (v := r 6) (x := r 7) (by omega) (by omega) (by omega) d2 (by simp only [List.length_append]; omega) (by omega)
      have F5 := fb9_trans F4 e3
      have e2' : PG9 M5 (zhead r) := e2
      obtain ⟨M6, f1, f2, f3, f4⟩ := chans9 (n := n) hC hw (by omega) (fun M70 => (zf_X9_spell_L161 n (fun M76 => zb1 (zf_X9_spellConflicts n M76) (fun M77 => zb1 (zf_X2_answer (zoI1 k) M77) (fun v78 => some (v78, M77)))) n (0 : Int32) M70)) (r 1) 0 n M5 (zhead r) (by omega) (by omega) e2' (by omega) F5
      obtain ⟨M7, g1, g2, g3, g4⟩ := mems9 (n := n) hC hw (by omega) (fun M76 => zb1 (zf_X9_spellConflicts n M76) (fun M77 => zb1 (zf_X2_answer (zoI1 k) M77) (fun v78 => some (v78, M77)))) (r 0) 0 n M6 _ (by omega) (by omega) f2 (by omega) f3
      obtain ⟨M8, h1, h2, h3⟩ := conA9 (n := n) hC hw (by omega) (r 0) 0 n M7 _ (by omega) (by omega) g2 (by omega) g3
      have hcl := zcAl_len (r := r) (r 0) 0 (zmes r (r 0) 0 (zchl r (r 1) 0 (zhead r))) (by omega)
      have hans := answer9 (k := k) h2 (by omega) hk
      obtain ⟨x0, x1, x2, x3, x4, x5, x6, x7, x8, x9, x10, x11, x12, x13, x14, -⟩ := hC.rd
      have it : ∀ {A : ZMem}, FB9 M A → IT A t := fun g => hC.1.congr (g 0 (by omega) (by omega))
      have q1 : zwr M 75 1 (nI 0) 12 7 = nI (r 2) := by rw [F0 12 (by omega) (by omega)]; exact x11
      have q2 : M1 t 8 = nI (r 3) := by rw [F1 t (by omega) (by omega)]; exact x2
      have q3 : M2 t 9 = nI (r 4) := by rw [F2 t (by omega) (by omega)]; exact x3
      have q4 : M3 t 10 = nI (r 5) := by rw [F3 t (by omega) (by omega)]; exact x4
      have q5 : M4 12 9 = nI (r 6) := by rw [F4 12 (by omega) (by omega)]; exact x13
      have q6 : M4 12 10 = nI (r 7) := by rw [F4 12 (by omega) (by omega)]; exact x14
      obtain ⟨v0, v1, v2, v3, v4, -⟩ := wordOf9
      refine ⟨M8, ?_, fb9_f9 h3⟩
      unfold zf_X9_spell zf_X2_clear
      refine (hge _ _).trans ?_
      simp only [zput_at]
      rw [zb1_at (show (some (zwr M 75 1 0) : Option ZMem) = some (zwr M 75 1 (nI 0)) from rfl), zb1_at v0, q1, zb1_at a1, zb1_at v1, (it F1).dy, q2, zb1_at b1, zb1_at v2, (it F2).dy, q3, zb1_at c1, zb1_at v3, (it F3).dy, q4, zb1_at d1, zb1_at v4, q5, q6, zb1_at e1]
      refine f1.trans (g1.trans ?_)
      unfold zf_X9_spellConflicts
      have h1' : zf_X9_spellConflicts_L2 n (fun M41 => some M41) n (0 : Int32) M7 = some M8 := h1
      rw [zb1_at h1', zb1_at hans]
      rfl
    · have P0 : PG10 (zwr M1 77 36 (nI 0)) [] := ⟨wre, fun j hj => absurd hj (Nat.not_lt_zero _)⟩
      have F0 : FB10 M1 (zwr M1 77 36 (nI 0)) := ⟨fun j x y => wrn x, fun j x => wrj x⟩
      have ir : ∀ {A : ZMem}, FB10 M1 A → IR A r := fun g => hM1.1.congr (g.1 78 (by omega) (by omega))
      obtain ⟨A1, a1, a2, a3⟩ := one10 (n := n) (v := r 2) zW0 (by omega) P0 (by omega) (by omega)
      have F1 := fb10_trans F0 a3
      obtain ⟨A2, b1, b2, b3⟩ := one10 (n := n) (v := r 3) zW1 (by omega) a2 (by simp only [List.length_append]; omega) (by omega)
      have F2 := fb10_trans F1 b3
      obtain ⟨A3, c1, c2, c3⟩ := one10 (n := n) (v := r 4) zW2 (by omega) b2 (by simp only [List.length_append]; omega) (by omega)
      have F3 := fb10_trans F2 c3
      obtain ⟨A4, d1, d2, d3⟩ := one10 (n := n) (v := r 5) zW3 (by omega) c2 (by simp only [List.length_append]; omega) (by omega)
      have F4 := fb10_trans F3 d3
      obtain ⟨A5, e1, e2, e3⟩ := two10 (n := n) (v := r 6) (x := r 7) zW4 (by omega) (by omega) d2 (by simp only [List.length_append]; omega) (by omega)
      have F5 := fb10_trans F4 e3
      have e2' : PG10 A5 (zhead r) := e2
      have hchl : (zchl r (r 1) 0 (zhead r)).length ≤ (zhead r).length + 14 * r 1 := by
        have : ∀ d c l, c + d ≤ r 1 → (zchl r d c l).length ≤ l.length + 14 * d := by
          intro d
          induction d with
          | zero => intro c l _; show l.length ≤ _; omega
          | succ d ih =>
            intro c l h
            have nl := zchan_len hw (show c < r 1 by omega)
            have := ih (c + 1) (l ++ zln2 5 (r (55 + c)) (r (59 + c))) (by omega)
            rw [List.length_append] at this
            show (zchl r d (c + 1) (l ++ zln2 5 (r (55 + c)) (r (59 + c)))).length ≤ _
            omega
        exact this (r 1) 0 (zhead r) (by omega)
      have hmel : ∀ l, (zmes r (r 0) 0 l).length ≤ l.length + 27 * r 0 := by
        have : ∀ d i l, i + d ≤ r 0 → (zmes r d i l).length ≤ l.length + 27 * d := by
          intro d
          induction d with
          | zero => intro c l _; show l.length ≤ _; omega
          | succ d ih =>
            intro i l h
            have nl := zme_len hw (show i < r 0 by omega) l
            have := ih (i + 1) (zme r i l) (by omega)
            show (zmes r d (i + 1) (zme r i l)).length ≤ _
            omega
        exact fun l => this (r 0) 0 l (by omega)
      have hm1 := hmel (zchl r (r 1) 0 (zhead r))
      obtain ⟨A6, f1, f2, f3⟩ := chans10 (n := n) hM1.1 hw (by omega) (fun M64 => (zf_X10_spell_L130 n (fun M70 => (zf_X10_spell_L153 n (fun M84 => zb1 (zf_X10_spelled (zoI1 k) M84) (fun v85 => some (v85, M84))) n (0 : Int32) M70)) n (0 : Int32) M64)) (r 1) 0 n A5 (zhead r) (by omega) (by omega) e2' (by omega) F5
      obtain ⟨A7, g1, g2, g3⟩ := mems10 (n := n) hM1.1 hw (by omega) (fun M70 => (zf_X10_spell_L153 n (fun M84 => zb1 (zf_X10_spelled (zoI1 k) M84) (fun v85 => some (v85, M84))) n (0 : Int32) M70)) (r 0) 0 n A6 _ (by omega) (by omega) f2 (by omega) f3
      obtain ⟨A8, h1, h2, h3⟩ := conA10 (n := n) hM1.1 hw (by omega) (fun M84 => zb1 (zf_X10_spelled (zoI1 k) M84) (fun v85 => some (v85, M84))) (r 0) 0 n A7 _ (by omega) (by omega) g2 (by omega) g3
      have hcl := zcAl_len (r := r) (r 0) 0 (zmes r (r 0) 0 (zchl r (r 1) 0 (zhead r))) (by omega)
      have hans := spelled10 (k := k) h2 (by omega) hk
      refine ⟨A8, ?_, fb10_f10 h3⟩
      unfold zf_X10_spell
      refine (hge _ _).trans ?_
      simp only [zput_at]
      rw [show zwr M1 77 36 (0 : Int32) = zwr M1 77 36 (nI 0) from rfl, show (2 : Int32) = nI 2 from rfl, rd78 (ir F0) _ (by omega) (by omega), show (133789 : Int64) = lN 133789 from rfl, zb1_at a1, show (3 : Int32) = nI 3 from rfl, rd78 (ir F1) _ (by omega) (by omega), show (4514 : Int64) = lN 4514 from rfl, zb1_at b1, show (4 : Int32) = nI 4 from rfl, rd78 (ir F2) _ (by omega) (by omega), show (6476969 : Int64) = lN 6476969 from rfl, zb1_at c1, show (5 : Int32) = nI 5 from rfl, rd78 (ir F3) _ (by omega) (by omega), show (400557 : Int64) = lN 400557 from rfl, zb1_at d1, show (6 : Int32) = nI 6 from rfl, rd78 (ir F4) _ (by omega) (by omega), show (7 : Int32) = nI 7 from rfl, rd78 (ir F4) _ (by omega) (by omega), show (232600981 : Int64) = lN 232600981 from rfl, zb1_at e1]
      refine f1.trans (g1.trans (h1.trans ?_))
      rw [zb1_at hans]
      rfl
  rcases zint a with hc | ⟨k, hk, rfl⟩
  · rcases zneg1 hc with rfl | hng
    · exact good none (fun j hj => by cases hj)
    · have hng' := fun (A B : Option (Int32 × ZMem)) => hng A B
      refine OPW.same (-nI 1) ?_ ?_ hI
      · simp (disch := (first | assumption | omega)) only [zf_X9_spell, zlp, ↓hng']
      · simp (disch := (first | assumption | omega)) only [zf_X10_spell, zlp, ↓hng']
  · exact good (some k) (fun j hj => by cases hj; exact hk)
