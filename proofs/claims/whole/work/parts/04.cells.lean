/-! fields, rows, calls over the one memory -/
def ZFld (ci N j : Nat) (C f t : String) (fin : Bool) : Prop := ∃ T : u_T, vwCl[ci]? = some (C, T, N) ∧ ci < 10 ∧ j < N ∧ T j = (C, f, t, fin)
theorem zcls : ∀ (ci : Nat) (q : vw_C), vwCl[ci]? = some q → (∀ w ∈ u_ws q.1 q.2.1 q.2.2, w ∈ zTw) ∧ (∃ ty : Nat → FieldType, ∀ k, k < q.2.2 → parseFieldDescriptor (q.2.1 k).2.2.1 = some (ty k)) ∧ (∀ a, a < q.2.2 → ∀ b, b < q.2.2 → a ≠ b → (q.2.1 a).2.1 ≠ (q.2.1 b).2.1) := by
  intro ci q hq
  match ci, hq with
  | 0, hq => cases hq; exact ⟨by decide +kernel, ⟨tyX0, tyX0_ok⟩, nmX0⟩
  | 1, hq => cases hq; exact ⟨by decide +kernel, ⟨tyX2, tyX2_ok⟩, nmX2⟩
  | 2, hq => cases hq; exact ⟨by decide +kernel, ⟨tyX3, tyX3_ok⟩, nmX3⟩
  | 3, hq => cases hq; exact ⟨by decide +kernel, ⟨tyX4, tyX4_ok⟩, nmX4⟩
  | 4, hq => cases hq; exact ⟨by decide +kernel, ⟨tyX5, tyX5_ok⟩, nmX5⟩
  | 5, hq => cases hq; exact ⟨by decide +kernel, ⟨tyX6, tyX6_ok⟩, nmX6⟩
  | 6, hq => cases hq; exact ⟨by decide +kernel, ⟨tyX7, tyX7_ok⟩, nmX7⟩
  | 7, hq => cases hq; exact ⟨by decide +kernel, ⟨tyX8, tyX8_ok⟩, nmX8⟩
  | 8, hq => cases hq; exact ⟨by decide +kernel, ⟨tyX9, tyX9_ok⟩, nmX9⟩
  | 9, hq => cases hq; exact ⟨by decide +kernel, ⟨tyX10, tyX10_ok⟩, nmX10⟩
  | k + 10, hq => simp [vwCl] at hq
theorem zw_getv {E : ZEnv} {cc : ByteArray} {own : String} {d pc : Nat} {lv : List (Nat × Value)} {st : List Value} {M : ZMem} (hC : ZCx E cc own d) {k ci N j index : Nat} {C f t : String} {fin : Bool} {v : Value} (hF : ZFld ci N j C f t fin) (hk : zk k = (ci, N)) (hv : zfV (zad E) M k ci j = v) (hd : decode cc pc = .ok (.getfield index, 3)) (hlink : Cond.fieldLink own index C f t ∈ zTw) (kk : ZW E (pc + 3) lv (v :: st) M) : ZW E pc lv (.ref (zad E k) :: st) M := by
  obtain ⟨p, l, e, R, s, m, args, below, meth, c, cells, slots, Q, D, ad, cA, nL⟩ := E
  obtain ⟨T, h1, h2, h3, h4⟩ := hF
  intro H locs ls hP hS hl
  have hat := zpic_at (ad := ad) (cA := cA) (M := M) (zk_lt hk (by omega))
  rw [zcE_obj hk h2] at hat
  refine va_get (T := T) (C := C) (N := N) (ref := C) hC.1 hC.2.1 hC.2.2.2.2.1 (zcls ci _ h1).1 hC.2.2.2.1 hC.2.2.2.2.2.1 hP k hat h1 j h3 (by rw [h4]; exact hC.2.2.2.2.1 _ hlink) (fun x hx => by rw [h4] at hx; rw [h4]; exact hx) (v := v) (by rw [zfV_get h3]; exact congrArg some hv) hd (kk H locs ls hP hS hl)
theorem zw_geti {E : ZEnv} {cc : ByteArray} {own : String} {d pc : Nat} {lv : List (Nat × Value)} {st : List Value} {M : ZMem} (hC : ZCx E cc own d) {k ci N j index : Nat} {C f t : String} {fin : Bool} (hF : ZFld ci N j C f t fin ∧ zfk ci j = 0) (hk : zk k = (ci, N)) (hd : decode cc pc = .ok (.getfield index, 3)) (hlink : Cond.fieldLink own index C f t ∈ zTw) (kk : ZW E (pc + 3) lv (.int (M k j) :: st) M) : ZW E pc lv (.ref (zad E k) :: st) M :=
  zw_getv hC hF.1 hk (by unfold zfV; rw [hF.2]) hd hlink kk
theorem zw_getr {E : ZEnv} {cc : ByteArray} {own : String} {d pc : Nat} {lv : List (Nat × Value)} {st : List Value} {M : ZMem} (hC : ZCx E cc own d) {k k' ci N j index o : Nat} {C f t : String} {fin : Bool} (hF : ZFld ci N j C f t fin ∧ zfk ci j = o + 2) (hk : zk k = (ci, N)) (hk' : k + o = k') (hd : decode cc pc = .ok (.getfield index, 3)) (hlink : Cond.fieldLink own index C f t ∈ zTw) (kk : ZW E (pc + 3) lv (.ref (zad E k') :: st) M) : ZW E pc lv (.ref (zad E k) :: st) M :=
  zw_getv hC hF.1 hk (by unfold zfV; rw [hF.2, ← hk']) hd hlink kk
/-- a cell whose number M has: it is of this kind -/
def zdy {β : Type} (M : ZMem) (k j : Nat) (q : Nat × Nat) (K : Nat → Option β) : Option β := if zk (M k j).toNatClampNeg = q then K (M k j).toNatClampNeg else none
theorem zw_getd {E : ZEnv} {cc : ByteArray} {own : String} {d pc : Nat} {lv : List (Nat × Value)} {st : List Value} {M : ZMem} (hC : ZCx E cc own d) {k ci N j index : Nat} {C f t : String} {fin : Bool} {q : Nat × Nat} {β : Type} {K : Nat → Option β} {r : β} (hf : zdy M k j q K = some r) (hF : ZFld ci N j C f t fin ∧ zfk ci j = 1) (hk : zk k = (ci, N)) (hd : decode cc pc = .ok (.getfield index, 3)) (hlink : Cond.fieldLink own index C f t ∈ zTw) (kk : ∀ x, zk x = q → K x = some r → ZW E (pc + 3) lv (.ref (zad E x) :: st) M) : ZW E pc lv (.ref (zad E k) :: st) M := by
  unfold zdy at hf
  split at hf
  · rename_i h
    exact zw_getv hC hF.1 hk (by unfold zfV; rw [hF.2]) hd hlink (kk _ h hf)
  · cases hf
def zput {β : Type} (M : ZMem) (k j : Nat) (x : Int32) (K : ZMem → Option β) : Option β := K (zwr M k j x)
theorem zw_putv {E : ZEnv} {cc : ByteArray} {own : String} {d pc : Nat} {lv : List (Nat × Value)} {st : List Value} {M : ZMem} (hC : ZCx E cc own d) {k ci N j index : Nat} {C f t : String} {v : Value} {x : Int32} {ty : FieldType} (hF : ZFld ci N j C f t false) (hk : zk k = (ci, N)) (hv : zfV (zad E) (zwr M k j x) k ci j = v) (ht : parseFieldDescriptor t = some ty) (hn : narrow ty v = v) (hfit : fits ty v = true) (hd : decode cc pc = .ok (.putfield index, 3)) (hlink : Cond.fieldLink own index C f t ∈ zTw) (kk : ZW E (pc + 3) lv st (zwr M k j x)) : ZW E pc lv (v :: .ref (zad E k) :: st) M := by
  obtain ⟨p, l, e, R, s, m, args, below, meth, c, cells, slots, Q, D, ad, cA, nL⟩ := E
  obtain ⟨T, h1, h2, h3, h4⟩ := hF
  intro H locs ls hP hS hl
  have hkl := zk_lt hk (by omega)
  have hat := zpic_at (ad := ad) (cA := cA) (M := M) hkl
  rw [zcE_obj hk h2] at hat
  obtain ⟨g1, ⟨ty0, g2⟩, g3⟩ := zcls ci _ h1
  have hD : va_D (ZA ad) (zpic ad cA M) := zpic_D hC.2.2.2.2.2.2.1
  have hset : (zpic ad cA M).set k (ad k, .inr (ci, ((List.range N).map (zfV ad M k ci)).set j v)) = zpic ad cA (zwr M k j x) :=
    zpic_set hkl (by rw [zcE_obj hk h2, zfs_set hv (fun i hi => by rw [zwr_at]; exact if_neg hi)]) (fun b hb => zwr_ne M k j x hb)
  refine va_put (T := T) (C := C) (N := N) (ref := C) (ty := ty) hC.1 hC.2.1 hC.2.2.2.2.1 g1 ty0 g2 g3 hC.2.2.2.1 hC.2.2.2.2.2.1 hP hD hS k hat h1 j h3 (by rw [h4]; exact hC.2.2.2.2.1 _ hlink) (fun x hx => by rw [h4] at hx; rw [h4]; exact hx) (by rw [h4]) (by rw [h4]; exact ht) hn hfit (by simpa using h3) hd (fun H1 locs1 hP1 hD1 hS1 => ?_)
  rw [hset] at hP1
  exact kk H1 locs1 ls hP1 hS1 hl
theorem zw_puti {E : ZEnv} {cc : ByteArray} {own : String} {d pc : Nat} {lv : List (Nat × Value)} {st : List Value} {M : ZMem} (hC : ZCx E cc own d) {k ci N j index : Nat} {C f : String} {x : Int32} {β : Type} {K : ZMem → Option β} {r : β} (hf : zput M k j x K = some r) (hF : ZFld ci N j C f "I" false ∧ zfk ci j = 0) (hk : zk k = (ci, N)) (hd : decode cc pc = .ok (.putfield index, 3)) (hlink : Cond.fieldLink own index C f "I" ∈ zTw) (kk : ∀ M1, K M1 = some r → ZW E (pc + 3) lv st M1) : ZW E pc lv (.int x :: .ref (zad E k) :: st) M :=
  zw_putv hC (x := x) (ty := .int) hF.1 hk (by unfold zfV; rw [hF.2, zwr_at]; show Value.int (upd (M k) j x j) = _; rw [pk_us]) (by decide +kernel) rfl rfl hd hlink (kk _ hf)
theorem zw_putz {E : ZEnv} {cc : ByteArray} {own : String} {d pc : Nat} {lv : List (Nat × Value)} {st : List Value} {M : ZMem} (hC : ZCx E cc own d) {k ci N j index : Nat} {C f : String} {x : Int32} {β : Type} {K : ZMem → Option β} {r : β} (hf : zput M k j x K = some r) (hF : ZFld ci N j C f "Z" false ∧ zfk ci j = 0) (hx : narrow .boolean (.int x) = .int x ∧ fits .boolean (.int x) = true) (hk : zk k = (ci, N)) (hd : decode cc pc = .ok (.putfield index, 3)) (hlink : Cond.fieldLink own index C f "Z" ∈ zTw) (kk : ∀ M1, K M1 = some r → ZW E (pc + 3) lv st M1) : ZW E pc lv (.int x :: .ref (zad E k) :: st) M :=
  zw_putv hC (x := x) (ty := .boolean) hF.1 hk (by unfold zfV; rw [hF.2, zwr_at]; show Value.int (upd (M k) j x j) = _; rw [pk_us]) (by decide +kernel) hx.1 hx.2 hd hlink (kk _ hf)
theorem zw_putd {E : ZEnv} {cc : ByteArray} {own : String} {d pc : Nat} {lv : List (Nat × Value)} {st : List Value} {M : ZMem} (hC : ZCx E cc own d) {k ci N j index x c n : Nat} {C f t : String} {ty : FieldType} {β : Type} {K : ZMem → Option β} {r : β} (hf : zput M k j (nI x) K = some r) (hF : ZFld ci N j C f t false ∧ zfk ci j = 1) (ht : parseFieldDescriptor t = some ty) (hn : ∀ a, narrow ty (.ref a) = .ref a) (hfit : ∀ a, fits ty (.ref a) = true) (hx : zk x = (c, n)) (hc : c < 99) (hk : zk k = (ci, N)) (hd : decode cc pc = .ok (.putfield index, 3)) (hlink : Cond.fieldLink own index C f t ∈ zTw) (kk : ∀ M1, K M1 = some r → ZW E (pc + 3) lv st M1) : ZW E pc lv (.ref (zad E x) :: .ref (zad E k) :: st) M :=
  zw_putv hC (x := nI x) (ty := ty) hF.1 hk (by unfold zfV; rw [hF.2, zwr_at]; show Value.ref (zad E (upd (M k) j (nI x) j).toNatClampNeg) = _; rw [pk_us, nI_clamp (by have := zk_lt hx hc; unfold zn at this; omega)]) ht (hn _) (hfit _) hd hlink (kk _ hf)
/-! rows -/
def zrd {β : Type} (M : ZMem) (k n : Nat) (i : Int32) (K : Int32 → Option β) : Option β := if i < 0 ∨ n ≤ i.toNatClampNeg then none else K (M k i.toNatClampNeg)
def zst {β : Type} (M : ZMem) (k n : Nat) (i x : Int32) (K : ZMem → Option β) : Option β := if i < 0 ∨ n ≤ i.toNatClampNeg then none else K (zwr M k i.toNatClampNeg x)
theorem zw_iald {E : ZEnv} {cc : ByteArray} {own : String} {d pc : Nat} {lv : List (Nat × Value)} {st : List Value} {M : ZMem} (hC : ZCx E cc own d) {k n : Nat} {i : Int32} {β : Type} {K : Int32 → Option β} {r : β} (hf : zrd M k n i K = some r) (hk : zk k = (10, n)) (hd : decode cc pc = .ok (.iaload, 1)) (kk : ∀ v, K v = some r → ZW E (pc + 1) lv (.int v :: st) M) : ZW E pc lv (.int i :: .ref (zad E k) :: st) M := by
  unfold zrd at hf
  split at hf
  · cases hf
  · rename_i hin
    have kk := kk _ hf
    obtain ⟨p, l, e, R, s, m, args, below, meth, c, cells, slots, Q, D, ad, cA, nL⟩ := E
    intro H locs ls hP hS hl
    have hat := zpic_at (ad := ad) (cA := cA) (M := M) (zk_lt hk (by decide))
    rw [zcE_row hk (by decide) (by decide)] at hat
    exact va_iald hC.1 hC.2.1 hC.2.2.2.2.2.1 hP k 0 hat rfl hin hd (kk H locs ls hP hS hl)
theorem zw_bald {E : ZEnv} {cc : ByteArray} {own : String} {d pc : Nat} {lv : List (Nat × Value)} {st : List Value} {M : ZMem} (hC : ZCx E cc own d) {k n : Nat} {i : Int32} {β : Type} {K : Int32 → Option β} {r : β} (hf : zrd M k n i K = some r) (hk : zk k = (11, n)) (hd : decode cc pc = .ok (.baload, 1)) (kk : ∀ v, K v = some r → ZW E (pc + 1) lv (.int v :: st) M) : ZW E pc lv (.int i :: .ref (zad E k) :: st) M := by
  unfold zrd at hf
  split at hf
  · cases hf
  · rename_i hin
    have kk := kk _ hf
    obtain ⟨p, l, e, R, s, m, args, below, meth, c, cells, slots, Q, D, ad, cA, nL⟩ := E
    intro H locs ls hP hS hl
    have hat := zpic_at (ad := ad) (cA := cA) (M := M) (zk_lt hk (by decide))
    rw [zcE_row hk (by decide) (by decide)] at hat
    exact va_bald hC.1 hC.2.1 hC.2.2.2.2.2.1 hP k 1 hat rfl hin hd (kk H locs ls hP hS hl)
theorem zw_zald {E : ZEnv} {cc : ByteArray} {own : String} {d pc : Nat} {lv : List (Nat × Value)} {st : List Value} {M : ZMem} (hC : ZCx E cc own d) {k n : Nat} {i : Int32} {β : Type} {K : Int32 → Option β} {r : β} (hf : zrd M k n i K = some r) (hk : zk k = (12, n)) (hd : decode cc pc = .ok (.baload, 1)) (kk : ∀ v, K v = some r → ZW E (pc + 1) lv (.int v :: st) M) : ZW E pc lv (.int i :: .ref (zad E k) :: st) M := by
  unfold zrd at hf
  split at hf
  · cases hf
  · rename_i hin
    have kk := kk _ hf
    obtain ⟨p, l, e, R, s, m, args, below, meth, c, cells, slots, Q, D, ad, cA, nL⟩ := E
    intro H locs ls hP hS hl
    have hat := zpic_at (ad := ad) (cA := cA) (M := M) (zk_lt hk (by decide))
    rw [zcE_row hk (by decide) (by decide)] at hat
    exact va_zald hC.1 hC.2.1 hC.2.2.2.2.2.1 hP k 2 hat rfl hin hd (kk H locs ls hP hS hl)
theorem zw_iast {E : ZEnv} {cc : ByteArray} {own : String} {d pc : Nat} {lv : List (Nat × Value)} {st : List Value} {M : ZMem} (hC : ZCx E cc own d) {k n : Nat} {i x : Int32} {β : Type} {K : ZMem → Option β} {r : β} (hf : zst M k n i x K = some r) (hk : zk k = (10, n)) (hd : decode cc pc = .ok (.iastore, 1)) (kk : ∀ M1, K M1 = some r → ZW E (pc + 1) lv st M1) : ZW E pc lv (.int x :: .int i :: .ref (zad E k) :: st) M := by
  unfold zst at hf
  split at hf
  · cases hf
  · rename_i hin
    have kk := kk _ hf
    obtain ⟨p, l, e, R, s, m, args, below, meth, c, cells, slots, Q, D, ad, cA, nL⟩ := E
    intro H locs ls hP hS hl
    have hkl := zk_lt hk (by decide)
    have hat := zpic_at (ad := ad) (cA := cA) (M := M) hkl
    rw [zcE_row hk (by decide) (by decide)] at hat
    refine va_iast hC.1 hC.2.1 hC.2.2.2.2.2.1 hP (zpic_D hC.2.2.2.2.2.2.1) hS k 0 hat rfl hin hd (fun H1 locs1 hP1 hD1 hS1 => ?_)
    rw [zpic_set (M' := zwr M k i.toNatClampNeg x) hkl (by rw [zcE_row hk (by decide) (by decide), zwr_at]) (fun b hb => zwr_ne M k _ x hb)] at hP1
    exact kk H1 locs1 ls hP1 hS1 hl
theorem zw_bast {E : ZEnv} {cc : ByteArray} {own : String} {d pc : Nat} {lv : List (Nat × Value)} {st : List Value} {M : ZMem} (hC : ZCx E cc own d) {k n : Nat} {i x : Int32} {β : Type} {K : ZMem → Option β} {r : β} (hf : zst M k n i (vp_nar .byte x) K = some r) (hk : zk k = (11, n)) (hd : decode cc pc = .ok (.bastore, 1)) (kk : ∀ M1, K M1 = some r → ZW E (pc + 1) lv st M1) : ZW E pc lv (.int x :: .int i :: .ref (zad E k) :: st) M := by
  unfold zst at hf
  split at hf
  · cases hf
  · rename_i hin
    have kk := kk _ hf
    obtain ⟨p, l, e, R, s, m, args, below, meth, c, cells, slots, Q, D, ad, cA, nL⟩ := E
    intro H locs ls hP hS hl
    have hkl := zk_lt hk (by decide)
    have hat := zpic_at (ad := ad) (cA := cA) (M := M) hkl
    rw [zcE_row hk (by decide) (by decide)] at hat
    refine va_bast hC.1 hC.2.1 hC.2.2.2.2.2.1 hP (zpic_D hC.2.2.2.2.2.2.1) hS k 1 hat rfl hin hd (fun H1 locs1 hP1 hD1 hS1 => ?_)
    rw [zpic_set (M' := zwr M k i.toNatClampNeg (vp_nar .byte x)) hkl (by rw [zcE_row hk (by decide) (by decide), zwr_at]) (fun b hb => zwr_ne M k _ _ hb)] at hP1
    exact kk H1 locs1 ls hP1 hS1 hl
theorem zw_zast {E : ZEnv} {cc : ByteArray} {own : String} {d pc : Nat} {lv : List (Nat × Value)} {st : List Value} {M : ZMem} (hC : ZCx E cc own d) {k n : Nat} {i x : Int32} {β : Type} {K : ZMem → Option β} {r : β} (hf : zst M k n i (vp_nar .boolean x) K = some r) (hk : zk k = (12, n)) (hd : decode cc pc = .ok (.bastore, 1)) (kk : ∀ M1, K M1 = some r → ZW E (pc + 1) lv st M1) : ZW E pc lv (.int x :: .int i :: .ref (zad E k) :: st) M := by
  unfold zst at hf
  split at hf
  · cases hf
  · rename_i hin
    have kk := kk _ hf
    obtain ⟨p, l, e, R, s, m, args, below, meth, c, cells, slots, Q, D, ad, cA, nL⟩ := E
    intro H locs ls hP hS hl
    have hkl := zk_lt hk (by decide)
    have hat := zpic_at (ad := ad) (cA := cA) (M := M) hkl
    rw [zcE_row hk (by decide) (by decide)] at hat
    refine va_zast hC.1 hC.2.1 hC.2.2.2.2.2.1 hP (zpic_D hC.2.2.2.2.2.2.1) hS k 2 hat rfl hin hd (fun H1 locs1 hP1 hD1 hS1 => ?_)
    rw [zpic_set (M' := zwr M k i.toNatClampNeg (vp_nar .boolean x)) hkl (by rw [zcE_row hk (by decide) (by decide), zwr_at]) (fun b hb => zwr_ne M k _ _ hb)] at hP1
    exact kk H1 locs1 ls hP1 hS1 hl
theorem zw_alen {E : ZEnv} {cc : ByteArray} {own : String} {d pc : Nat} {lv : List (Nat × Value)} {st : List Value} {M : ZMem} (hC : ZCx E cc own d) {k n : Nat} (hk : zk k = (10, n)) (hd : decode cc pc = .ok (.arraylength, 1)) (kk : ZW E (pc + 1) lv (.int (nI n) :: st) M) : ZW E pc lv (.ref (zad E k) :: st) M := by
  obtain ⟨p, l, e, R, s, m, args, below, meth, c, cells, slots, Q, D, ad, cA, nL⟩ := E
  intro H locs ls hP hS hl
  have hat := zpic_at (ad := ad) (cA := cA) (M := M) (zk_lt hk (by decide))
  rw [zcE_row hk (by decide) (by decide)] at hat
  exact va_alen hC.1 hC.2.1 hC.2.2.2.2.2.1 hP k 0 hat (ty := .int) rfl rfl hd (kk H locs ls hP hS hl)
/-- the journal's row: its j-th Standing -/
def zkp {β : Type} (k n : Nat) (i : Int32) (K : Nat → Option β) : Option β := if i < 0 ∨ n ≤ i.toNatClampNeg then none else K (k + 1 + 2 * i.toNatClampNeg)
theorem zk_kept : ∀ j, j < 12 → zk (17 + 1 + 2 * j) = (6, 12) := by decide +kernel
theorem zw_aald {E : ZEnv} {cc : ByteArray} {own : String} {d pc : Nat} {lv : List (Nat × Value)} {st : List Value} {M : ZMem} (hC : ZCx E cc own d) {i : Int32} {β : Type} {K : Nat → Option β} {r : β} (hf : zkp 17 12 i K = some r) (hd : decode cc pc = .ok (.aaload, 1)) (kk : ∀ x, zk x = (6, 12) → K x = some r → ZW E (pc + 1) lv (.ref (zad E x) :: st) M) : ZW E pc lv (.int i :: .ref (zad E 17) :: st) M := by
  unfold zkp at hf
  split at hf
  · cases hf
  · rename_i hin
    have kk := kk _ (zk_kept _ (by omega)) hf
    obtain ⟨p, l, e, R, s, m, args, below, meth, c, cells, slots, Q, D, ad, cA, nL⟩ := E
    intro H locs ls hP hS hl
    have hk : zk 17 = (13, 12) := by decide +kernel
    have hat := zpic_at (ad := ad) (cA := cA) (M := M) (zk_lt hk (by decide))
    rw [zcE_kept hk] at hat
    exact va_aldq hC.1 hC.2.1 hC.2.2.2.2.2.1 hP 17 3 hat rfl hin hd (kk H locs ls hP hS hl)
/-- System.arraycopy between int rows -/
def zcpM (M : ZMem) (a b sp dp n : Nat) : ZMem := fun q => if q = b then va_cpy (M a) (M b) sp dp n else M q
def zcp {β : Type} (M : ZMem) (a b na nb : Nat) (sp dp n : Int32) (K : ZMem → Option β) : Option β := if ¬ sp < 0 ∧ ¬ dp < 0 ∧ ¬ n < 0 ∧ sp.toNatClampNeg + n.toNatClampNeg ≤ na ∧ dp.toNatClampNeg + n.toNatClampNeg ≤ nb then K (zcpM M a b sp.toNatClampNeg dp.toNatClampNeg n.toNatClampNeg) else none
theorem zw_copy {E : ZEnv} {cc : ByteArray} {own : String} {d pc : Nat} {lv : List (Nat × Value)} {st : List Value} {M : ZMem} (hC : ZCx E cc own d) (hd1 : 1 ≤ d) (hst : (st.map fun v => v.category).sum ≤ 8) {a b na nb index : Nat} {sp dp n : Int32} {β : Type} {K : ZMem → Option β} {r : β} (hf : zcp M a b na nb sp dp n K = some r) (ha : zk a = (10, na)) (hb : zk b = (10, nb)) (hd : decode cc pc = .ok (.invokestatic index, 3)) (hlink : Cond.methodLink own index arraycopyName ∈ zTw) (hnat : Cond.native arraycopyName ∈ zTw) (hstat : Cond.static arraycopyName ∈ zTw) (hini : Cond.initialized "java/lang/System" ∈ zTw) (kk : ∀ M1, K M1 = some r → ZW E (pc + 3) lv st M1) : ZW E pc lv (.int n :: .int dp :: .ref (zad E b) :: .int sp :: .ref (zad E a) :: st) M := by
  unfold zcp at hf
  split at hf
  · rename_i hin
    obtain ⟨h1, h2, h3, h4, h5⟩ := hin
    have kk := kk _ hf
    obtain ⟨p, l, e, R, s, m, args, below, meth, c, cells, slots, Q, D, ad, cA, nL⟩ := E
    intro H locs ls hP hS hl
    have hbl := zk_lt hb (by decide)
    have hat := zpic_at (ad := ad) (cA := cA) (M := M) (zk_lt ha (by decide))
    rw [zcE_row ha (by decide) (by decide)] at hat
    have hat2 := zpic_at (ad := ad) (cA := cA) (M := M) hbl
    rw [zcE_row hb (by decide) (by decide)] at hat2
    obtain ⟨hx, hbb, hml, hown, hts, hK, hinj, hX, hc1, hc2, hR1, hR2⟩ := hC
    have e9 : nativeFrameWords "java/lang/System" "arraycopy" 5 + 11 ≤ 56 := by decide +kernel
    have h6 : 1 ≤ R.frames := by omega
    have h7 : (st.map fun v => v.category).sum + (nativeFrameWords "java/lang/System" "arraycopy" 5 + 11) ≤ R.locals := by omega
    refine va_copyi (ty := .int) hx hbb (by rw [hml]; exact hl.1.symm) hown (hts _ hlink) (hts _ hnat) (hts _ hstat) (hts _ hini) hK hP (zpic_D hinj) hS a b 0 0 hat hat2 rfl rfl rfl h1 h2 h3 h4 h5 (fun i _ => rfl) h6 h7 hd (fun H1 locs1 hP1 hD1 hS1 => ?_)
    rw [zpic_set (M' := zcpM M a b sp.toNatClampNeg dp.toNatClampNeg n.toNatClampNeg) hbl (by rw [zcE_row hb (by decide) (by decide)]; unfold zcpM; rw [if_pos rfl]) (fun q hq => if_neg hq)] at hP1
    exact kk H1 locs1 ls hP1 hS1 hl
  · cases hf
