/-! LAYER 2: what is remembered, what is undone -/
theorem zkp_at {β : Type} {i : Int32} {K : Nat → Option β} (j : Nat) (e : i = nI j) (h : j < 12) : zkp 17 12 i K = K (18 + 2 * j) := by
  subst e
  unfold zkp
  rw [if_neg (by rw [nI_clamp (by omega)]; exact fun z => z.elim (nI_pos (by omega)) (fun z => absurd h (by omega))), nI_clamp (by omega)]
def zrem9 (M : ZMem) (nx u : Nat) : ZMem := zwr (zwr (zwr (zcpS M (18 + 2 * nx) 12) 16 1 (nI ((nx + 1) % 12))) 16 2 (nI (min (u + 1) 12))) 71 0 0
theorem remember9 {M : ZMem} {nx u : Nat} (h1 : M 16 1 = nI nx) (hn : nx < 12) (h2 : M 16 2 = nI u) (hu : u ≤ 12) : zf_X9_remember M = some (zrem9 M nx u) := by
  unfold zf_X9_remember zf_X0_keep zf_X5_forget
  rw [zkp_at nx h1 hn]
  simp only [zput_at]
  rw [zb1_at (x := zwr (zwr (zcpS M (18 + 2 * nx) 12) 16 1 (nI ((nx + 1) % 12))) 16 2 (nI (min (u + 1) 12)))]
  · rfl
  · rw [zb1_at (copyFrom7 (by omega) (by omega) (by omega))]
    have e1 : zcpS M (18 + 2 * nx) 12 16 = M 16 := zcpS_ne (by omega) (by omega)
    have e2 : ∀ x, zwr (zcpS M (18 + 2 * nx) 12) 16 1 x 16 2 = M 16 2 := fun x => by rw [zwr_get, if_neg (by omega), e1]
    rw [e2, e1, h1, h2, nI_1, nI_1, show (12 : Int32) = nI 12 from rfl, pk_rem (by omega) (by omega) (by omega), zz_min (by omega) (by omega)]
/-- the reference's copy of the row behind u rows -/
def zcu (M : ZMem) (u i : Nat) : ZMem := fun b p => if b = 80 ∧ 73 * u ≤ p ∧ p < 73 * u + i then M 78 (p - 73 * u) else M b p
theorem zcu_0 (M : ZMem) (u : Nat) : zcu M u 0 = M := by
  funext b p
  unfold zcu
  rw [if_neg (by omega)]
theorem zcu_ne {M : ZMem} {u i b : Nat} (h : b ≠ 80) : zcu M u i b = M b := by
  funext p
  unfold zcu
  rw [if_neg (fun z => h z.1)]
theorem zcu_s (M : ZMem) (u i : Nat) : zwr (zcu M u i) 80 (73 * u + i) (M 78 i) = zcu M u (i + 1) := by
  funext b p
  rw [zwr_get]
  unfold zcu
  by_cases h : b = 80
  · subst h
    by_cases h2 : p = 73 * u + i
    · subst h2
      rw [if_pos ⟨rfl, rfl⟩, if_pos ⟨rfl, by omega, by omega⟩]
      congr 1
      omega
    · rw [if_neg (fun z => h2 z.2)]
      by_cases h3 : 73 * u ≤ p ∧ p < 73 * u + i
      · rw [if_pos ⟨rfl, h3⟩, if_pos ⟨rfl, h3.1, by omega⟩]
      · rw [if_neg (fun z => h3 z.2), if_neg (fun z => h3 ⟨z.2.1, by omega⟩)]
  · rw [if_neg (fun z => h z.1), if_neg (fun z => h z.1), if_neg (fun z => h z.1)]
theorem remembers_j49 {M : ZMem} {u n : Nat} (h : M 77 4 = nI u) (hu : u < 12) (hn : 73 < n) : zf_X10_remembers_j49 n M = some (zwr (zcu M u 73) 77 4 (nI (u + 1))) := by
  unfold zf_X10_remembers_j49
  have h77 : ∀ i, zcu M u i 77 4 = nI u := fun i => by rw [zcu_ne (by decide)]; exact h
  have h78 : ∀ i, zcu M u i 78 = M 78 := fun i => zcu_ne (by decide)
  have key := zloop (fun n i (S : ZMem) => zf_X10_remembers_L51 (fun M33 => zput M33 77 4 ((M33 77 4) + (1 : Int32)) (fun M34 => some M34)) n (nI i) S) (zcu M u) (some (zwr (zcu M u 73) 77 4 (nI (u + 1)))) 73 (fun n i hi => by
      show zf_X10_remembers_L51 _ (n + 1) (nI i) _ = zf_X10_remembers_L51 _ n (nI (i + 1)) _
      rw [zf_X10_remembers_L51, show (73 : Int32) = nI 73 from rfl, zi_le (by omega) (by omega), if_neg (by omega)]
      rw [zrd_at (i := nI i) i rfl (by omega), h77, pk_mul, nI_add, zst_at (i := nI (73 * u + i)) (73 * u + i) rfl (by omega), h78, zcu_s, nI_1]) (fun n => by
      show zf_X10_remembers_L51 _ (n + 1) (nI 73) _ = _
      rw [zf_X10_remembers_L51, show (73 : Int32) = nI 73 from rfl, zi_le (by omega) (by omega), if_pos (by omega), zput_at, h77, nI_1]) n 0 (by omega) (by omega)
  rw [zcu_0] at key
  exact key
/-- the reference's rows, each one place nearer -/
def zsh (M : ZMem) (i : Nat) : ZMem := fun b p => if b = 80 ∧ p < i then M 80 (p + 73) else M b p
theorem zsh_0 (M : ZMem) : zsh M 0 = M := by
  funext b p
  unfold zsh
  rw [if_neg (by omega)]
theorem zsh_ne {M : ZMem} {i b : Nat} (h : b ≠ 80) : zsh M i b = M b := by
  funext p
  unfold zsh
  rw [if_neg (fun z => h z.1)]
theorem zsh_s (M : ZMem) (i : Nat) : zwr (zsh M i) 80 i (M 80 (i + 73)) = zsh M (i + 1) := by
  funext b p
  rw [zwr_get]
  unfold zsh
  by_cases h : b = 80
  · subst h
    by_cases h2 : p = i
    · subst h2
      rw [if_pos ⟨rfl, rfl⟩, if_pos ⟨rfl, by omega⟩]
    · rw [if_neg (fun z => h2 z.2)]
      by_cases h3 : p < i
      · rw [if_pos ⟨rfl, h3⟩, if_pos ⟨rfl, by omega⟩]
      · rw [if_neg (fun z => h3 z.2), if_neg (fun z => absurd z.2 (by omega))]
  · rw [if_neg (fun z => h z.1), if_neg (fun z => h z.1), if_neg (fun z => h z.1)]
def zrem10 (M : ZMem) (u : Nat) : ZMem := if u = 12 then zwr (zcu (zwr (zsh M 803) 77 4 (nI 11)) 11 73) 77 4 (nI 12) else zwr (zcu M u 73) 77 4 (nI (u + 1))
theorem remembers10 {M : ZMem} {u n : Nat} (h : M 77 4 = nI u) (hu : u ≤ 12) (hn : 803 < n) : zf_X10_remembers n M = some (zrem10 M u) := by
  unfold zf_X10_remembers zrem10
  rw [h, show (12 : Int32) = nI 12 from rfl, zi_eq (by omega) (by omega)]
  by_cases hu2 : u = 12
  · subst hu2
    rw [if_pos rfl, if_pos rfl]
    have h77 : ∀ i, zsh M i 77 4 = nI 12 := fun i => by rw [zsh_ne (by decide)]; exact h
    have hr : ∀ i, zsh M i 80 (i + 73) = M 80 (i + 73) := fun i => by unfold zsh; rw [if_neg (by omega)]
    have key := zloop (fun k i (S : ZMem) => zf_X10_remembers_L11 (fun M40 => zput M40 77 4 ((M40 77 4) - (1 : Int32)) (fun M41 => zf_X10_remembers_j49 n M41)) k (nI i) S) (zsh M) (some (zwr (zcu (zwr (zsh M 803) 77 4 (nI 11)) 11 73) 77 4 (nI 12))) 803 (fun k i hi => by
        show zf_X10_remembers_L11 _ (k + 1) (nI i) _ = zf_X10_remembers_L11 _ k (nI (i + 1)) _
        rw [zf_X10_remembers_L11, show (803 : Int32) = nI 803 from rfl, zi_le (by omega) (by omega), if_neg (by omega)]
        rw [zrd_at (i := nI i + (73 : Int32)) (i + 73) (nI_add i 73) (by omega), hr, zst_at (i := nI i) i rfl (by omega), zsh_s, nI_1]) (fun k => by
        show zf_X10_remembers_L11 _ (k + 1) (nI 803) _ = _
        rw [zf_X10_remembers_L11, show (803 : Int32) = nI 803 from rfl, zi_le (by omega) (by omega), if_pos (by omega), zput_at, h77, show nI 12 - 1 = nI 11 from rfl]
        exact remembers_j49 (u := 11) (by rw [zwr_get]; exact if_pos ⟨rfl, rfl⟩) (by omega) (by omega)) n 0 (by omega) (by omega)
    rw [zsh_0] at key
    exact key
  · rw [if_neg hu2, if_neg hu2]
    exact remembers_j49 h (by omega) (by omega)
def zund9 (M : ZMem) (nx u : Nat) : ZMem := zwr (zcpS (zwr (zwr M 16 1 (nI ((nx + 11) % 12))) 16 2 (nI (u - 1))) 12 (18 + 2 * ((nx + 11) % 12))) 71 0 0
theorem undo9 {M : ZMem} {nx u : Nat} (h1 : M 16 1 = nI nx) (hn : nx < 12) (h2 : M 16 2 = nI u) (hu : u ≤ 12) : zf_X9_undo M = some (if u = 0 then (-1, M) else (nI (u - 1), zund9 M nx u)) := by
  unfold zf_X9_undo
  rw [h2, show (0 : Int32) = nI 0 from rfl, zi_eq (by omega) (by omega)]
  by_cases hu0 : u = 0
  · rw [if_pos hu0, if_pos hu0]
  · rw [if_neg hu0, if_neg hu0]
    have e5 : (nx + 11) % 12 < 12 := Nat.mod_lt _ (by decide)
    have key : zf_X0_restore 12 M = some (zcpS (zwr (zwr M 16 1 (nI ((nx + 11) % 12))) 16 2 (nI (u - 1))) 12 (18 + 2 * ((nx + 11) % 12))) := by
      unfold zf_X0_restore zf_X0_restore_j46
      rw [h2, show (0 : Int32) = nI 0 from rfl, zi_le (by omega) (by omega), if_neg (by omega)]
      simp only [zput_at]
      have e1 : ((nI nx + (12 : Int32)) - (1 : Int32)) - ((nI nx + (12 : Int32)) - (1 : Int32)) / (12 : Int32) * (12 : Int32) = nI ((nx + 11) % 12) := by
        rw [show (12 : Int32) = nI 12 from rfl, show (1 : Int32) = nI 1 from rfl, nI_add, pk_sub (by omega), pk_rem (by omega) (by omega) (by omega)]
        rfl
      rw [h1, e1]
      have e2 : zwr M 16 1 (nI ((nx + 11) % 12)) 16 2 = nI u := by rw [zwr_get, if_neg (by omega)]; exact h2
      rw [e2, show (1 : Int32) = nI 1 from rfl, pk_sub (by omega)]
      have e3 : zwr (zwr M 16 1 (nI ((nx + 11) % 12))) 16 2 (nI (u - 1)) 16 1 = nI ((nx + 11) % 12) := by rw [zwr_get, if_neg (by omega), zwr_get, if_pos ⟨rfl, rfl⟩]
      rw [zkp_at ((nx + 11) % 12) e3 e5, zb1_at (copyFrom7 (by omega) (by omega) (by omega))]
    rw [zb1_at key]
    unfold zf_X5_forget
    simp only [zput_at]
    rw [zb1_at rfl]
    have e4 : zwr (zcpS (zwr (zwr M 16 1 (nI ((nx + 11) % 12))) 16 2 (nI (u - 1))) 12 (18 + 2 * ((nx + 11) % 12))) 71 0 0 16 2 = nI (u - 1) := by
      rw [zwr_get, if_neg (by omega), zcpS_ne (by omega) (by omega), zwr_get, if_pos ⟨rfl, rfl⟩]
    rw [e4]
    rfl
def zub (M : ZMem) (u i : Nat) : ZMem := fun b p => if b = 78 ∧ p < i then M 80 (73 * u + p) else M b p
theorem zub_0 (M : ZMem) (u : Nat) : zub M u 0 = M := by
  funext b p
  unfold zub
  rw [if_neg (by omega)]
theorem zub_ne {M : ZMem} {u i b : Nat} (h : b ≠ 78) : zub M u i b = M b := by
  funext p
  unfold zub
  rw [if_neg (fun z => h z.1)]
theorem zub_s (M : ZMem) (u i : Nat) : zwr (zub M u i) 78 i (M 80 (73 * u + i)) = zub M u (i + 1) := by
  funext b p
  rw [zwr_get]
  unfold zub
  by_cases h : b = 78
  · subst h
    by_cases h2 : p = i
    · subst h2
      rw [if_pos ⟨rfl, rfl⟩, if_pos ⟨rfl, by omega⟩]
    · rw [if_neg (fun z => h2 z.2)]
      by_cases h3 : p < i
      · rw [if_pos ⟨rfl, h3⟩, if_pos ⟨rfl, by omega⟩]
      · rw [if_neg (fun z => h3 z.2), if_neg (fun z => absurd z.2 (by omega))]
  · rw [if_neg (fun z => h z.1), if_neg (fun z => h z.1), if_neg (fun z => h z.1)]
theorem undo10 {M : ZMem} {u n : Nat} (h : M 77 4 = nI u) (hu : u ≤ 12) (hn : 73 < n) : zf_X10_undo n M = some (if u = 0 then (-1, M) else (nI (u - 1), zub (zwr M 77 4 (nI (u - 1))) (u - 1) 73)) := by
  unfold zf_X10_undo
  rw [h, show (0 : Int32) = nI 0 from rfl, zi_eq (by omega) (by omega)]
  by_cases hu0 : u = 0
  · rw [if_pos hu0, if_pos hu0]
  · rw [if_neg hu0, if_neg hu0, zput_at, show (1 : Int32) = nI 1 from rfl, pk_sub (by omega)]
    have hm : zwr M 77 4 (nI (u - 1)) 77 4 = nI (u - 1) := by rw [zwr_get, if_pos ⟨rfl, rfl⟩]
    generalize zwr M 77 4 (nI (u - 1)) = M1 at hm
    have h77 : ∀ i, zub M1 (u - 1) i 77 4 = nI (u - 1) := fun i => by rw [zub_ne (by decide)]; exact hm
    have h80 : ∀ i, zub M1 (u - 1) i 80 = M1 80 := fun i => zub_ne (by decide)
    have key := zloop (fun k i (S : ZMem) => zf_X10_undo_L21 (fun M30 => some ((M30 77 4), M30)) k (nI i) S) (zub M1 (u - 1)) (some (nI (u - 1), zub M1 (u - 1) 73)) 73 (fun k i hi => by
        show zf_X10_undo_L21 _ (k + 1) (nI i) _ = zf_X10_undo_L21 _ k (nI (i + 1)) _
        rw [zf_X10_undo_L21, show (73 : Int32) = nI 73 from rfl, zi_le (by omega) (by omega), if_neg (by omega), h77, pk_mul, nI_add]
        rw [zrd_at (i := nI (73 * (u - 1) + i)) (73 * (u - 1) + i) rfl (by omega), h80, zst_at (i := nI i) i rfl (by omega), zub_s, nI_1]) (fun k => by
        show zf_X10_undo_L21 _ (k + 1) (nI 73) _ = _
        rw [zf_X10_undo_L21, show (73 : Int32) = nI 73 from rfl, zi_le (by omega) (by omega), if_pos (by omega), h77]) n 0 (by omega) (by omega)
    rw [zub_0] at key
    exact key
