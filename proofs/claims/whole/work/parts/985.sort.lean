/-! LAYER 2: the class reads a word -/
def zisw (T : ZT) (p e s : Nat) : Bool := decide (e - p = (zwd s).length ∧ ∀ j, j < (zwd s).length → T.2 (p + j) = (zwd s).getD j 0)
theorem isWord9 {M : ZMem} {T : ZT} (hT : TT T) (h : TC9 M T) {s p e n : Nat} (hs : s < 13) (hpe : p ≤ e) (he : e ≤ T.1) (hn : 20 < n) : zf_X4_isWord n s (nI p) (nI e) M = some (zB (zisw T p e s)) := by
  have hl := hT.1
  obtain ⟨z1, z2⟩ := zwd_len s hs
  unfold zf_X4_isWord
  rw [zslen_at hs, pk_sub hpe, zi_eq (by omega) (by omega)]
  by_cases c : e - p = (zwd s).length
  · have key : ∀ d j m, j + d = (zwd s).length → d < m → (∀ i, i < j → T.2 (p + i) = (zwd s).getD i 0) → zf_X4_isWord_L15 s M (nI p) (some 1) m (nI j) = some (zB (zisw T p e s)) := by
      intro d
      induction d with
      | zero =>
        intro j m hj hm hi
        obtain ⟨m, rfl⟩ : ∃ y, m = y + 1 := ⟨m - 1, by omega⟩
        rw [zf_X4_isWord_L15, zslen_at hs, zi_le (by omega) (by omega), if_pos (by omega)]
        unfold zisw
        rw [decide_eq_true ⟨c, fun i hi2 => hi i (by omega)⟩]
        rfl
      | succ d ih =>
        intro j m hj hm hi
        obtain ⟨m, rfl⟩ : ∃ y, m = y + 1 := ⟨m - 1, by omega⟩
        obtain ⟨b1, b2⟩ := zwd_byt s hs j (by omega) (by omega)
        have hb := hT.2 (p + j) (by omega)
        rw [zf_X4_isWord_L15, zslen_at hs, zi_le (by omega) (by omega), if_neg (by omega), nI_add, tc9_rd h hT (by omega), zschr_at hs (by omega), zi_eq (by omega) (by omega)]
        by_cases c2 : T.2 (p + j) = (zwd s).getD j 0
        · rw [if_pos c2, nI_1]
          refine ih (j + 1) m (by omega) (by omega) (fun i hi2 => ?_)
          by_cases e2 : i = j
          · rw [e2]; exact c2
          · exact hi i (by omega)
        · rw [if_neg c2]
          unfold zisw
          rw [decide_eq_false (fun z => c2 (z.2 j (by omega)))]
          rfl
    rw [if_pos c]
    exact key (zwd s).length 0 n (by omega) (by omega) (fun i hi => by omega)
  · rw [if_neg c]
    unfold zisw
    rw [decide_eq_false (fun z => c z.1)]
    rfl
def zmay (r : ZRow) (mk s : Nat) : Bool := if 4 < s then (if s = 5 then decide (r 1 < 4) else if s = 6 then decide (r 0 < 10) else true) else !(mk.testBit s)
theorem mayStand9 {M : ZMem} {T : ZT} {o p w mk s : Nat} {r : ZRow} {L : ZL} (hR : RS9 M T o p r L w mk) (hw : WF r) (hm : mk < 256) (hs : s < 8) : zf_X4_mayStand (nI s) M = some (zB (zmay r mk s)) := by
  have hb := hw.b
  obtain ⟨h1, h2, h3, h4, h5, h6, h7, h8, h9⟩ := hR
  unfold zf_X4_mayStand zf_X4_mayStand_j62 zf_X4_mayStand_j67 zf_X4_mayStand_j43 zf_X4_mayStand_j21 zmay
  rw [show (4 : Int32) = nI 4 from rfl, show (5 : Int32) = nI 5 from rfl, show (6 : Int32) = nI 6 from rfl, show (10 : Int32) = nI 10 from rfl, zi_lt (by omega) (by omega), zi_eq (by omega) (by omega), zi_eq (by omega) (by omega), dy6 h2 h3, dy6 h2 h3, h7.1, h7.2.1, h6, zi_le (by omega) (by omega), zi_le (by omega) (by omega)]
  by_cases c : 4 < s
  · rw [if_pos c, if_pos c]
    by_cases c5 : s = 5
    · rw [if_pos c5, if_pos c5]
      by_cases c6 : 4 ≤ r 1
      · rw [if_pos c6, decide_eq_false (show ¬ r 1 < 4 by omega)]; rfl
      · rw [if_neg c6, decide_eq_true (show r 1 < 4 by omega)]; rfl
    · rw [if_neg c5, if_neg c5]
      by_cases c6 : s = 6
      · rw [if_pos c6, if_pos c6]
        by_cases c7 : 10 ≤ r 0
        · rw [if_pos c7, decide_eq_false (show ¬ r 0 < 10 by omega)]; rfl
        · rw [if_neg c7, decide_eq_true (show r 0 < 10 by omega)]; rfl
      · rw [if_neg c6, if_neg c6]; rfl
  · rw [if_neg c, if_neg c, zb1_at (has9 (by omega) (by omega))]
    cases mk.testBit s with
    | true => rw [if_neg (show ¬ zB true = 0 by decide)]; rfl
    | false => rw [if_pos (show zB false = 0 by decide)]; rfl
def zfnd (f : Nat → Bool) : Nat → Nat → Option Nat
  | 0, _ => none
  | d + 1, s => if f s then some s else zfnd f d (s + 1)
theorem zfnd_s (f : Nat → Bool) (d s : Nat) : zfnd f (d + 1) s = if f s then some s else zfnd f d (s + 1) := rfl
theorem zfnd_some {f : Nat → Bool} {x : Nat} : ∀ d s, zfnd f d s = some x → f x = true ∧ s ≤ x ∧ x < s + d
  | 0, _, h => by cases h
  | d + 1, s, h => by
    rw [zfnd_s] at h
    split at h
    · rename_i hf
      cases h
      exact ⟨hf, Nat.le_refl _, by omega⟩
    · obtain ⟨a, b, c⟩ := zfnd_some d (s + 1) h
      exact ⟨a, by omega, by omega⟩
theorem zfnd_none {f : Nat → Bool} {x : Nat} : ∀ d s, zfnd f d s = none → s ≤ x → x < s + d → f x = false
  | 0, _, _, h1, h2 => by omega
  | d + 1, s, h, h1, h2 => by
    rw [zfnd_s] at h
    split at h
    · cases h
    · rename_i hf
      by_cases e : x = s
      · rw [e]; simpa using hf
      · exact zfnd_none d (s + 1) h (by omega) (by omega)
/-- the sort of the line at p -/
def zsrt (T : ZT) (p : Nat) (r : ZRow) (mk : Nat) : Option Nat := zfnd (fun s => zisw T p (zrun T zlet p) s && zmay r mk s) 8 0
theorem wordOf8 : ∀ s, s < 8 → zf_X9_wordOf (nI s) = some s := by decide
theorem readSort9 {M : ZMem} {T : ZT} {o p w mk n : Nat} {r : ZRow} {L : ZL} (hR : RS9 M T o p r L w mk) (hT : TT T) (hw : WF r) (hm : mk < 256) (hp : p ≤ T.1) (hn : 400 < n) :
    (∀ s, zsrt T p r mk = some s → zf_X4_readSort n M = some (nI s, zwr M 42 2 (nI (zrun T zlet p)))) ∧ (zsrt T p r mk = none → zf_X4_readSort n M = some (0, zwr M 42 4 (nI p))) := by
  have hl := hT.1
  have he := zrun_le (T := T) (f := zlet) hp
  have hg := zrun_ge T zlet p
  have key : ∀ d s m, s + d = 8 → d < m → zf_X4_readSort_L13 n M (nI (zrun T zlet p)) (zb1 (zf_X4_fail (nI p) M) (fun M33 => some (0, M33))) m (nI s) = match zfnd (fun s => zisw T p (zrun T zlet p) s && zmay r mk s) d s with | some x => some (nI x, zwr M 42 2 (nI (zrun T zlet p))) | none => some (0, zwr M 42 4 (nI p)) := by
    intro d
    induction d with
    | zero =>
      intro s m hs hm
      obtain ⟨m, rfl⟩ : ∃ y, m = y + 1 := ⟨m - 1, by omega⟩
      rw [zf_X4_readSort_L13, show (8 : Int32) = nI 8 from rfl, zi_le (by omega) (by omega), if_pos (by omega), zb1_at (fail9 _ hR.2.2.2.2.1)]
      rfl
    | succ d ih =>
      intro s m hs hm2
      obtain ⟨m, rfl⟩ : ∃ y, m = y + 1 := ⟨m - 1, by omega⟩
      have ih' := ih (s + 1) m (by omega) (by omega)
      rw [zf_X4_readSort_L13, show (8 : Int32) = nI 8 from rfl, zi_le (by omega) (by omega), if_neg (by omega), zb1_at (wordOf8 s (by omega)), hR.2.2.2.1, zb1_at (isWord9 hT hR.1 (by omega) hg he (by omega)), zfnd_s]
      unfold zf_X4_readSort_j47
      rw [nI_1]
      cases zisw T p (zrun T zlet p) s with
      | false => rw [if_pos (show zB false = 0 by decide), Bool.false_and, if_neg (by decide)]; exact ih'
      | true =>
        rw [if_neg (show ¬ zB true = 0 by decide), Bool.true_and, zb1_at (mayStand9 hR hw hm (by omega))]
        cases zmay r mk s with
        | false => rw [if_pos (show zB false = 0 by decide), if_neg (by decide)]; exact ih'
        | true => rw [if_neg (show ¬ zB true = 0 by decide), if_pos rfl, zput_at]
  have h0 := key 8 0 n (by omega) (by omega)
  unfold zf_X4_readSort zsrt
  rw [hR.2.2.2.1, zb1_at (wordEnd9 hT hR.1 hp hn)]
  refine ⟨fun s hs => ?_, fun hs => ?_⟩
  · rw [hs] at h0
    exact h0
  · rw [hs] at h0
    exact h0
/-- the end of a line -/
def zEnd (T : ZT) (p : Nat) : Option Nat := if zrun T zbl p < T.1 ∧ T.2 (zrun T zbl p) = 59 then some (zrun T zbl p + 1) else none
theorem readEnd9e {M : ZMem} {e n : Nat} (h : ES9 M e) : zf_X4_readEnd n M = some M := by
  unfold zf_X4_readEnd
  rw [zb1_at (wrong9 h.1 h.2), if_pos rfl]
theorem readEnd9 {M : ZMem} {T : ZT} {o p w mk n : Nat} {r : ZRow} {L : ZL} (hR : RS9 M T o p r L w mk) (hT : TT T) (hp : p ≤ T.1) (hn : 400 < n) :
    (∀ e, zEnd T p = some e → ∃ M', zf_X4_readEnd n M = some M' ∧ RS9 M' T o e r L w mk ∧ FR9 o M M') ∧ (zEnd T p = none → ∃ M', zf_X4_readEnd n M = some M' ∧ ES9 M' (zrun T zbl p) ∧ FR9 o M M') := by
  have hl := hT.1
  have hq1 := zrun_le (T := T) (f := zbl) hp
  have hR1 := hR.mv (zrun T zbl p)
  have f1 : FR9 o M (zwr M 42 2 (nI (zrun T zbl p))) := fr9_42 (by omega) (by omega)
  unfold zf_X4_readEnd zf_X4_readEnd_j50 zf_X4_readEnd_j58
  rw [zb1_at (right9 hR.2.2.2.2.1), if_neg (show ¬ (1 : Int32) = 0 by decide), zb1_at (skip9 hT hR.1 hR.2.2.2.1 hp hn), hR1.1.1, hR1.2.2.2.1, zi_le (by omega) (by omega), zb1_at (fail9 _ hR1.2.2.2.2.1)]
  have bad : zwr (zwr M 42 2 (nI (zrun T zbl p))) 42 4 (nI (zrun T zbl p)) 42 4 = nI (zrun T zbl p) := wre
  have f2 : FR9 o M (zwr (zwr M 42 2 (nI (zrun T zbl p))) 42 4 (nI (zrun T zbl p))) := fr9_trans f1 (fr9_42 (by omega) (by omega))
  unfold zEnd
  by_cases c : T.1 ≤ zrun T zbl p
  · rw [if_pos c, if_neg (by omega)]
    exact ⟨fun e h => (by cases h), fun _ => ⟨_, rfl, ⟨bad, by omega⟩, f2⟩⟩
  · have hb := hT.2 (zrun T zbl p) (by omega)
    rw [if_neg c, tc9_rd hR1.1 hT (by omega), show (59 : Int32) = nI 59 from rfl, zi_eq (by omega) (by omega)]
    by_cases c2 : T.2 (zrun T zbl p) = 59
    · rw [if_pos c2, if_pos ⟨by omega, c2⟩, zput_at, nI_1]
      refine ⟨fun e h => ?_, fun h => by cases h⟩
      cases h
      exact ⟨_, rfl, hR1.mv _, fr9_trans f1 (fr9_42 (by omega) (by omega))⟩
    · rw [if_neg c2, if_neg (fun z => c2 z.2)]
      exact ⟨fun e h => (by cases h), fun _ => ⟨_, rfl, ⟨bad, by omega⟩, f2⟩⟩
