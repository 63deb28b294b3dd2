/-! calls -/
theorem zw_after {p : Program} {l : Launch} {e : Env} {R : Room} {s : State} {m : MethodId} {args : Array Value} {below : List Frame} {meth : Method} {c : Code} {H : Heap} {locs : List Loc} {cells slots : Nat} {Q : State → Prop} {D : va_G} {ad : Nat → Nat} {cA : Nat → ClassId} {pc : Nat} {ls : Array Slot} {rest st0 : List Value} {a : Array Value} {r : Option Value} {M' : ZMem}
    (hr : va_Run p l e R s m args below meth c H locs cells slots 0 0 (F0 m pc ls st0) rest (ZQ D ad cA r M' a) (ZA ad)) (hS : va_S (ZA ad) s.heap H locs)
    (kk : ∀ (H1 : Heap) (locs1 : List Loc), va_P D vwCl (zpic ad cA M') H1 → va_S (ZA ad) s.heap H1 locs1 → W p l e R s m args below meth c H1 locs1 cells slots Q (F0 m (pc + 3) ls (r.toList ++ rest))) : W p l e R s m args below meth c H locs cells slots Q (F0 m pc ls st0) := by
  intro T hT X
  obtain ⟨v, st₀, t, T', L, h0, X', hL, e1, e2, ⟨hv, hb, hz, hk⟩, st⟩ := hr T hT X
  cases hv
  rw [h0] at hz hk
  obtain ⟨t2, a1, b1⟩ := kk T'.heap (locs ++ L) (by rw [e1]; exact hb)
    ⟨Nat.le_trans hS.1 (by rw [e1]; exact hz), fun q h1 h2 => by rw [e1, hk q (Nat.lt_of_lt_of_le h1 hS.1) h2]; exact hS.2.1 q h1 h2, fun q hq => by
      rcases List.mem_append.mp hq with h | h
      · exact hS.2.2 q h
      · exact hL q h⟩ T' rfl X'
  exact ⟨t2, st t2 a1, b1⟩
/-- what the tables say of a method: an instance's, of class C -/
def ZMv (C : String) (y : MethodName) (cy : ByteArray) (mL : Nat) (rt : Option FieldType) (n : Nat) : Prop := Cond.code y cy mL rt ∈ zTw ∧ Cond.instanceMethod y ∈ zTw ∧ Cond.selects C y y ∈ zTw ∧ Cond.initialized C ∈ zTw ∧ (y.cls = C ∧ y.cls ≠ "java/lang/invoke/MethodHandle" ∧ y.cls ≠ "java/lang/invoke/VarHandle" ∧ (parseMethodDescriptor y.desc).map (fun d => d.parameters.length) = some n) ∧ mL ≤ 45
def ZMs (y : MethodName) (cy : ByteArray) (mL : Nat) (rt : Option FieldType) (n : Nat) : Prop := Cond.code y cy mL rt ∈ zTw ∧ Cond.static y ∈ zTw ∧ Cond.initialized y.cls ∈ zTw ∧ (y.cls ≠ "java/lang/invoke/MethodHandle" ∧ y.cls ≠ "java/lang/invoke/VarHandle" ∧ (parseMethodDescriptor y.desc).map (fun d => d.parameters.length) = some n) ∧ mL ≤ 45
theorem zpre {ad : Nat → Nat} {D : va_G} {cA : Nat → ClassId} {av : List Value} {M : ZMem} {s : State} {H : Heap} {locs : List Loc} (hP : va_P D vwCl (zpic ad cA M) H) (hK : va_K D vwCl (ztys cA) s) (hX : ZSx ad s s.heap) (hS : va_S (ZA ad) s.heap H locs) (U : State) (hU : U.heap = H) (hW : s.WarmedH U.vm) : va_Pc av (fun U => va_P D vwCl (zpic ad cA M) U.heap ∧ va_K D vwCl (ztys cA) U ∧ ZSx ad U U.heap) av.toArray U :=
  ⟨rfl, by rw [hU]; exact hP, va_K.moved hW.alike hK, by rw [hU]; exact hX.go hW (fun a h1 h2 => hS.2.1 a h1 h2)⟩
theorem zblind {ad : Nat → Nat} {D : va_G} {cA : Nat → ClassId} {av : List Value} {M : ZMem} : FrameBlind (va_Pc av (fun U => va_P D vwCl (zpic ad cA M) U.heap ∧ va_K D vwCl (ztys cA) U ∧ ZSx ad U U.heap)) := by
  intro a U g mk q
  obtain ⟨q0, qP, qK, qX⟩ := q
  exact ⟨q0, qP, va_K.moved (u := U) (U := U.calling g mk a) (Vm.Alike.refl U.vm) qK, qX.same (U := U.calling g mk a) rfl⟩
theorem zw_cV {E : ZEnv} {cc : ByteArray} {own : String} {d pc : Nat} {lv : List (Nat × Value)} {M M' : ZMem} (hC : ZCx E cc own d) {C : String} {y : MethodName} {cy : ByteArray} {mL n index d' k ci N : Nat} {rt : Option FieldType} {r : Option Value} {T : u_T} (As rest : List Value) {st0 st1 : List Value}
    (hm : ZMv C y cy mL rt n) (hct : ZCt (zL E) (zD E) (zad E) (zcA E) y cy mL rt d' (.ref (zad E k) :: As) M r M') (hk : zk k = (ci, N)) (hcl : vwCl[ci]? = some (C, T, N)) (hlink : Cond.methodLink own index y ∈ zTw) (hd : decode cc pc = .ok (.invokevirtual index, 3)) (hAs : As.length = n) (hdd : d' + 1 ≤ d) (hrest : (rest.map fun v => v.category).sum ≤ 8) (hst : st0 = As.reverse ++ .ref (zad E k) :: rest) (hs1 : r.toList ++ rest = st1) (kk : ZW E (pc + 3) lv st1 M') : ZW E pc lv st0 M := by
  subst hst; subst hs1
  obtain ⟨p, l, e, R, s, m, args, below, meth, c, cells, slots, Q, D, ad, cA, nL⟩ := E
  obtain ⟨hx, hb, hml, hown, hts, hK, hinj, hX, hc1, hc2, hR1, hR2⟩ := hC
  obtain ⟨m1, m2, m3, m4, m5, m6⟩ := hm
  intro H locs ls hP hS hl
  have hci : ci < 10 := by
    rcases Nat.lt_or_ge ci 10 with g | g
    · exact g
    · rw [List.getElem?_eq_none (show vwCl.length ≤ ci from g)] at hcl; cases hcl
  have hat := zpic_at (ad := ad) (cA := cA) (M := M) (zk_lt hk (by omega))
  rw [zcE_obj hk hci] at hat
  have hrecv := va_recv hK hP hcl hat
  refine zw_after (va_runV (As := As) (rest := rest) ⟨hx, hb, hml, hown, hts⟩ (hct hinj) (cwV n hts (show GoodIn zTw (wsV own index C y _) from zgoodL (fun w hw => ?_) (zgood m1)) rfl rfl rfl m5 ⟨?_, ?_⟩) ⟨zblind, hrecv, zpre hP hK hX hS⟩ rfl hAs hl.1 rfl (lv_room hrest) hd ⟨hc1, hc2⟩) hS (fun H1 locs1 hP1 hS1 => kk H1 locs1 ls hP1 hS1 hl)
  · simp only [List.mem_cons, List.not_mem_nil, or_false] at hw
    rcases hw with rfl | rfl | rfl | rfl
    · exact hlink
    · exact m2
    · exact m3
    · exact m4
  · show d' + 1 ≤ R.frames
    omega
  · show 8 + (mL + 11) + 64 * d' ≤ R.locals
    omega
theorem zw_cS {E : ZEnv} {cc : ByteArray} {own : String} {d pc : Nat} {lv : List (Nat × Value)} {M M' : ZMem} (hC : ZCx E cc own d) {y : MethodName} {cy : ByteArray} {mL n index d' : Nat} {rt : Option FieldType} {r : Option Value} (As rest : List Value) {st0 st1 : List Value}
    (hm : ZMs y cy mL rt n) (hct : ZCt (zL E) (zD E) (zad E) (zcA E) y cy mL rt d' As M r M') (hlink : Cond.methodLink own index y ∈ zTw) (hd : decode cc pc = .ok (.invokestatic index, 3)) (hAs : As.length = n) (hdd : d' + 1 ≤ d) (hrest : (rest.map fun v => v.category).sum ≤ 8) (hst : st0 = As.reverse ++ rest) (hs1 : r.toList ++ rest = st1) (kk : ZW E (pc + 3) lv st1 M') : ZW E pc lv st0 M := by
  subst hst; subst hs1
  obtain ⟨p, l, e, R, s, m, args, below, meth, c, cells, slots, Q, D, ad, cA, nL⟩ := E
  obtain ⟨hx, hb, hml, hown, hts, hK, hinj, hX, hc1, hc2, hR1, hR2⟩ := hC
  obtain ⟨m1, m2, m4, m5, m6⟩ := hm
  intro H locs ls hP hS hl
  refine zw_after (va_runS (As := As) (rest := rest) ⟨hx, hb, hml, hown, hts⟩ (hct hinj) (va_cwS n hts (show GoodIn zTw (va_wsS own index y _) from zgoodL (fun w hw => ?_) (zgood m1)) rfl rfl rfl m5 ⟨?_, ?_⟩) ⟨zblind, zpre hP hK hX hS⟩ rfl hAs hl.1 rfl (lv_room hrest) hd ⟨hc1, hc2⟩) hS (fun H1 locs1 hP1 hS1 => kk H1 locs1 ls hP1 hS1 hl)
  · simp only [List.mem_cons, List.not_mem_nil, or_false] at hw
    rcases hw with rfl | rfl | rfl
    · exact hlink
    · exact m2
    · exact m4
  · show d' + 1 ≤ R.frames
    omega
  · show 8 + (mL + 11) + 64 * d' ≤ R.locals
    omega
theorem zw_cN {E : ZEnv} {cc : ByteArray} {own : String} {d pc : Nat} {lv : List (Nat × Value)} {M M' : ZMem} (hC : ZCx E cc own d) {y : MethodName} {cy : ByteArray} {mL n index d' : Nat} {rt : Option FieldType} {r : Option Value} (As rest : List Value) {st0 st1 : List Value}
    (hm : ZMs y cy mL rt n) (hct : ZCt (zL E) (zD E) (zad E) (zcA E) y cy mL rt d' As M r M') (hlink : (own, index, y) ∈ zNest) (hd : decode cc pc = .ok (.invokestatic index, 3)) (hAs : As.length = n) (hdd : d' + 1 ≤ d) (hrest : (rest.map fun v => v.category).sum ≤ 8) (hst : st0 = As.reverse ++ rest) (hs1 : r.toList ++ rest = st1) (kk : ZW E (pc + 3) lv st1 M') : ZW E pc lv st0 M := by
  subst hst; subst hs1
  obtain ⟨p, l, e, R, s, m, args, below, meth, c, cells, slots, Q, D, ad, cA, nL⟩ := E
  obtain ⟨hx, hb, hml, hown, hts, hK, hinj, hX, hc1, hc2, hR1, hR2⟩ := hC
  obtain ⟨m1, m2, m4, m5, m6⟩ := hm
  intro H locs ls hP hS hl
  refine zw_after (va_runSN (As := As) (rest := rest) ⟨hx, hb, hml, hown, hts⟩ (hct hinj) ⟨va_cnB (ret := rt) (host := "ClassOfMany") n hts (zgood m1) rfl rfl rfl (hX.1 _ hlink) (hts _ m4) m5 ⟨?_, ?_⟩, hts _ m2, trivial⟩ ⟨zblind, zpre hP hK hX hS⟩ rfl hAs hl.1 rfl (lv_room hrest) hd ⟨hc1, hc2⟩) hS (fun H1 locs1 hP1 hS1 => kk H1 locs1 ls hP1 hS1 hl)
  · show d' + 1 ≤ R.frames
    omega
  · show 8 + (mL + 11) + 64 * d' ≤ R.locals
    omega
/-! Math, by the kit's rows -/
def zmax (x y : Int32) : Int32 := if x < y then y else x
def zmin (x y : Int32) : Int32 := if y < x then y else x
def zabs (x : Int32) : Int32 := if 0 ≤ x then x else 0 - x
def zlmax (x y : Int64) : Int64 := if y < x then x else y
def zlmin (x y : Int64) : Int64 := if y < x then y else x
theorem zw_mmax {E : ZEnv} {cc : ByteArray} {own : String} {d pc : Nat} {lv : List (Nat × Value)} {st : List Value} {M : ZMem} (hC : ZCx E cc own d) (hd1 : 1 ≤ d) (hst : (st.map fun v => v.category).sum ≤ 8) {index : Nat} {x y : Int32} (hd : decode cc pc = .ok (.invokestatic index, 3)) (hlink : Cond.methodLink own index Lib.Math.max.name ∈ zTw) (hstat : Cond.static Lib.Math.max.name ∈ zTw) (hini : Cond.initialized "java/lang/Math" ∈ zTw) (hcode : Cond.code Lib.Math.max.name Lib.Math.max.code 2 (some .int) ∈ zTw) (kk : ZW E (pc + 3) lv (.int (zmax x y) :: st) M) : ZW E pc lv (.int y :: .int x :: st) M := by
  obtain ⟨p, l, e, R, s, m, args, below, meth, c, cells, slots, Q, D, ad, cA, nL⟩ := E
  obtain ⟨hx, hb, hml, hown, hts, hK, hinj, hX, hc1, hc2, hR1, hR2⟩ := hC
  intro H locs ls hP hS hl
  have h6 : 1 ≤ R.frames := by omega
  have h7 : (st.map fun v => v.category).sum + 13 ≤ R.locals := by omega
  exact va_mmax hx hb (by rw [hml]; exact hl.1.symm) hown (hts _ hlink) (hts _ hstat) (hts _ hini) (hts _ hcode) h6 h7 hc1 hc2 hd (kk H locs ls hP hS hl)
theorem zw_mmin {E : ZEnv} {cc : ByteArray} {own : String} {d pc : Nat} {lv : List (Nat × Value)} {st : List Value} {M : ZMem} (hC : ZCx E cc own d) (hd1 : 1 ≤ d) (hst : (st.map fun v => v.category).sum ≤ 8) {index : Nat} {x y : Int32} (hd : decode cc pc = .ok (.invokestatic index, 3)) (hlink : Cond.methodLink own index Lib.Math.min.name ∈ zTw) (hstat : Cond.static Lib.Math.min.name ∈ zTw) (hini : Cond.initialized "java/lang/Math" ∈ zTw) (hcode : Cond.code Lib.Math.min.name Lib.Math.min.code 2 (some .int) ∈ zTw) (kk : ZW E (pc + 3) lv (.int (zmin x y) :: st) M) : ZW E pc lv (.int y :: .int x :: st) M := by
  obtain ⟨p, l, e, R, s, m, args, below, meth, c, cells, slots, Q, D, ad, cA, nL⟩ := E
  obtain ⟨hx, hb, hml, hown, hts, hK, hinj, hX, hc1, hc2, hR1, hR2⟩ := hC
  intro H locs ls hP hS hl
  have h6 : 1 ≤ R.frames := by omega
  have h7 : (st.map fun v => v.category).sum + 13 ≤ R.locals := by omega
  exact va_mmin hx hb (by rw [hml]; exact hl.1.symm) hown (hts _ hlink) (hts _ hstat) (hts _ hini) (hts _ hcode) h6 h7 hc1 hc2 hd (kk H locs ls hP hS hl)
theorem zw_mabs {E : ZEnv} {cc : ByteArray} {own : String} {d pc : Nat} {lv : List (Nat × Value)} {st : List Value} {M : ZMem} (hC : ZCx E cc own d) (hd1 : 1 ≤ d) (hst : (st.map fun v => v.category).sum ≤ 8) {index : Nat} {x : Int32} (hd : decode cc pc = .ok (.invokestatic index, 3)) (hlink : Cond.methodLink own index Lib.Math.abs.name ∈ zTw) (hstat : Cond.static Lib.Math.abs.name ∈ zTw) (hini : Cond.initialized "java/lang/Math" ∈ zTw) (hcode : Cond.code Lib.Math.abs.name Lib.Math.abs.code 1 (some .int) ∈ zTw) (kk : ZW E (pc + 3) lv (.int (zabs x) :: st) M) : ZW E pc lv (.int x :: st) M := by
  obtain ⟨p, l, e, R, s, m, args, below, meth, c, cells, slots, Q, D, ad, cA, nL⟩ := E
  obtain ⟨hx, hb, hml, hown, hts, hK, hinj, hX, hc1, hc2, hR1, hR2⟩ := hC
  intro H locs ls hP hS hl
  have h6 : 1 ≤ R.frames := by omega
  have h7 : (st.map fun v => v.category).sum + 13 ≤ R.locals := by omega
  exact va_mabs hx hb (by rw [hml]; exact hl.1.symm) hown (hts _ hlink) (hts _ hstat) (hts _ hini) (hts _ hcode) h6 h7 hc1 hc2 hd (kk H locs ls hP hS hl)
theorem zw_lmax {E : ZEnv} {cc : ByteArray} {own : String} {d pc : Nat} {lv : List (Nat × Value)} {st : List Value} {M : ZMem} (hC : ZCx E cc own d) (hd1 : 1 ≤ d) (hst : (st.map fun v => v.category).sum ≤ 8) {index : Nat} {x y : Int64} (hd : decode cc pc = .ok (.invokestatic index, 3)) (hlink : Cond.methodLink own index Lib.MathLoose.max_long.x ∈ zTw) (hstat : Cond.static Lib.MathLoose.max_long.x ∈ zTw) (hini : Cond.initialized "java/lang/Math" ∈ zTw) (hcode : Cond.code Lib.MathLoose.max_long.x Lib.MathLoose.max_long.code 4 (some .long) ∈ zTw) (kk : ZW E (pc + 3) lv (.long (zlmax x y) :: st) M) : ZW E pc lv (.long y :: .long x :: st) M := by
  obtain ⟨p, l, e, R, s, m, args, below, meth, c, cells, slots, Q, D, ad, cA, nL⟩ := E
  obtain ⟨hx, hb, hml, hown, hts, hK, hinj, hX, hc1, hc2, hR1, hR2⟩ := hC
  intro H locs ls hP hS hl
  have h6 : 1 ≤ R.frames := by omega
  have h7 : (st.map fun v => v.category).sum + 15 ≤ R.locals := by omega
  exact va_mmax_long hx hb (by rw [hml]; exact hl.1.symm) hown (hts _ hlink) (hts _ hstat) (hts _ hini) (hts _ hcode) h6 h7 hc1 hc2 hd (kk H locs ls hP hS hl)
theorem zw_lmin {E : ZEnv} {cc : ByteArray} {own : String} {d pc : Nat} {lv : List (Nat × Value)} {st : List Value} {M : ZMem} (hC : ZCx E cc own d) (hd1 : 1 ≤ d) (hst : (st.map fun v => v.category).sum ≤ 8) {index : Nat} {x y : Int64} (hd : decode cc pc = .ok (.invokestatic index, 3)) (hlink : Cond.methodLink own index Lib.MathLoose.min_long.x ∈ zTw) (hstat : Cond.static Lib.MathLoose.min_long.x ∈ zTw) (hini : Cond.initialized "java/lang/Math" ∈ zTw) (hcode : Cond.code Lib.MathLoose.min_long.x Lib.MathLoose.min_long.code 4 (some .long) ∈ zTw) (kk : ZW E (pc + 3) lv (.long (zlmin x y) :: st) M) : ZW E pc lv (.long y :: .long x :: st) M := by
  obtain ⟨p, l, e, R, s, m, args, below, meth, c, cells, slots, Q, D, ad, cA, nL⟩ := E
  obtain ⟨hx, hb, hml, hown, hts, hK, hinj, hX, hc1, hc2, hR1, hR2⟩ := hC
  intro H locs ls hP hS hl
  have h6 : 1 ≤ R.frames := by omega
  have h7 : (st.map fun v => v.category).sum + 15 ≤ R.locals := by omega
  exact va_mmin_long hx hb (by rw [hml]; exact hl.1.symm) hown (hts _ hlink) (hts _ hstat) (hts _ hini) (hts _ hcode) h6 h7 hc1 hc2 hd (kk H locs ls hP hS hl)
