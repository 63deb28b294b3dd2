set_option maxRecDepth 20000 in
theorem kw_1_125 : Cond.arrayClass .int ∈ zTw := zt1 125 (by rfl) rfl
set_option maxRecDepth 20000 in
theorem kw_1_126 : Cond.classLink "ClassOfMany" 16 "ClassOfMany$Standing" ∈ zTw := zt1 126 (by rfl) rfl
set_option maxRecDepth 20000 in
theorem kw_1_127 : Cond.instantiable "ClassOfMany$Standing" 12 ∈ zTw := zt1 127 (by rfl) rfl
set_option maxRecDepth 20000 in
theorem kw_1_129 : Cond.instanceMethod ⟨"ClassOfMany$Standing", "<init>", "()V"⟩ ∈ zTw := zt1 129 (by rfl) rfl
set_option maxRecDepth 20000 in
theorem kw_1_130 : Cond.code ⟨"ClassOfMany$Standing", "<init>", "()V"⟩ prog_9_method_1_code 1 none ∈ zTw := zt1 130 (by rfl) rfl
set_option maxRecDepth 20000 in
theorem kw_1_131 : Cond.methodLink "ClassOfMany$Standing" 3 ⟨"java/lang/Object", "<init>", "()V"⟩ ∈ zTw := zt1 131 (by rfl) rfl
set_option maxRecDepth 20000 in
theorem kw_1_197 : Cond.classLink "ClassOfMany" 26 "ClassOfMany$Journal" ∈ zTw := zt1 197 (by rfl) rfl
set_option maxRecDepth 20000 in
theorem kw_1_198 : Cond.instantiable "ClassOfMany$Journal" 3 ∈ zTw := zt1 198 (by rfl) rfl
set_option maxRecDepth 20000 in
theorem kw_1_199 : Cond.methodLink "ClassOfMany" 28 ⟨"ClassOfMany$Journal", "<init>", "()V"⟩ ∈ zTw := zt1 199 (by rfl) rfl
set_option maxRecDepth 20000 in
theorem kw_1_200 : Cond.instanceMethod ⟨"ClassOfMany$Journal", "<init>", "()V"⟩ ∈ zTw := zt1 200 (by rfl) rfl
set_option maxRecDepth 20000 in
theorem kw_1_201 : Cond.code ⟨"ClassOfMany$Journal", "<init>", "()V"⟩ prog_2_method_1_code 2 none ∈ zTw := zt1 201 (by rfl) rfl
set_option maxRecDepth 20000 in
theorem kw_1_202 : Cond.methodLink "ClassOfMany$Journal" 3 ⟨"java/lang/Object", "<init>", "()V"⟩ ∈ zTw := zt1 202 (by rfl) rfl
set_option maxRecDepth 20000 in
theorem kw_1_203 : Cond.classLink "ClassOfMany$Journal" 9 "ClassOfMany$Standing" ∈ zTw := zt1 203 (by rfl) rfl
set_option maxRecDepth 20000 in
theorem kw_1_217 : Cond.classLink "ClassOfMany" 33 "ClassOfMany$Reader" ∈ zTw := zt1 217 (by rfl) rfl
set_option maxRecDepth 20000 in
theorem kw_1_218 : Cond.instantiable "ClassOfMany$Reader" 8 ∈ zTw := zt1 218 (by rfl) rfl
set_option maxRecDepth 20000 in
theorem kw_1_220 : Cond.instanceMethod ⟨"ClassOfMany$Reader", "<init>", "()V"⟩ ∈ zTw := zt1 220 (by rfl) rfl
set_option maxRecDepth 20000 in
theorem kw_1_221 : Cond.code ⟨"ClassOfMany$Reader", "<init>", "()V"⟩ prog_6_method_1_code 1 none ∈ zTw := zt1 221 (by rfl) rfl
set_option maxRecDepth 20000 in
theorem kw_1_222 : Cond.methodLink "ClassOfMany$Reader" 3 ⟨"java/lang/Object", "<init>", "()V"⟩ ∈ zTw := zt1 222 (by rfl) rfl
set_option maxRecDepth 20000 in
theorem kw_1_223 : Cond.classLink "ClassOfMany$Reader" 15 "ClassOfMany$Told" ∈ zTw := zt1 223 (by rfl) rfl
set_option maxRecDepth 20000 in
theorem kw_1_225 : Cond.classLink "ClassOfMany$Reader" 22 "ClassOfMany$Standing" ∈ zTw := zt1 225 (by rfl) rfl
set_option maxRecDepth 20000 in
theorem kw_1_25 : Cond.methodLink "ClassOfMany" 3 ⟨"java/lang/Object", "<init>", "()V"⟩ ∈ zTw := zt1 25 (by rfl) rfl
set_option maxRecDepth 20000 in
theorem kw_1_26 : Cond.instanceMethod ⟨"java/lang/Object", "<init>", "()V"⟩ ∈ zTw := zt1 26 (by rfl) rfl
set_option maxRecDepth 20000 in
theorem kw_1_27 : Cond.code ⟨"java/lang/Object", "<init>", "()V"⟩ object_method_1_code 1 none ∈ zTw := zt1 27 (by rfl) rfl
set_option maxRecDepth 20000 in
theorem kw_1_28 : Cond.classLink "ClassOfMany" 9 "ClassOfMany$Told" ∈ zTw := zt1 28 (by rfl) rfl
set_option maxRecDepth 20000 in
theorem kw_1_29 : Cond.instantiable "ClassOfMany$Told" 17 ∈ zTw := zt1 29 (by rfl) rfl
set_option maxRecDepth 20000 in
theorem kw_1_31 : Cond.instanceMethod ⟨"ClassOfMany$Told", "<init>", "()V"⟩ ∈ zTw := zt1 31 (by rfl) rfl
set_option maxRecDepth 20000 in
theorem kw_1_32 : Cond.code ⟨"ClassOfMany$Told", "<init>", "()V"⟩ prog_10_method_1_code 1 none ∈ zTw := zt1 32 (by rfl) rfl
set_option maxRecDepth 20000 in
theorem kw_1_33 : Cond.methodLink "ClassOfMany$Told" 3 ⟨"java/lang/Object", "<init>", "()V"⟩ ∈ zTw := zt1 33 (by rfl) rfl
set_option maxRecDepth 20000 in
theorem kw_1_45 : Cond.fieldLink "ClassOfMany$Told" 9 "ClassOfMany$Told" "from" "[I" ∈ zTw := zt1 45 (by rfl) rfl
set_option maxRecDepth 20000 in
theorem kw_1_49 : Cond.fieldLink "ClassOfMany$Told" 15 "ClassOfMany$Told" "to" "[I" ∈ zTw := zt1 49 (by rfl) rfl
set_option maxRecDepth 20000 in
theorem kw_1_53 : Cond.fieldLink "ClassOfMany$Told" 18 "ClassOfMany$Told" "rate" "[I" ∈ zTw := zt1 53 (by rfl) rfl
set_option maxRecDepth 20000 in
theorem kw_1_57 : Cond.fieldLink "ClassOfMany$Told" 21 "ClassOfMany$Told" "reach" "[I" ∈ zTw := zt1 57 (by rfl) rfl
set_option maxRecDepth 20000 in
theorem kw_1_61 : Cond.fieldLink "ClassOfMany$Told" 24 "ClassOfMany$Told" "cost" "[I" ∈ zTw := zt1 61 (by rfl) rfl
set_option maxRecDepth 20000 in
theorem kw_1_65 : Cond.fieldLink "ClassOfMany$Told" 27 "ClassOfMany$Told" "wait" "[I" ∈ zTw := zt1 65 (by rfl) rfl
set_option maxRecDepth 20000 in
theorem kw_2_124 : Cond.classLink "ClassOfMany" 54 "ClassOfMany$Resting" ∈ zTw := zt2 124 (by rfl) rfl
set_option maxRecDepth 20000 in
theorem kw_2_125 : Cond.instantiable "ClassOfMany$Resting" 7 ∈ zTw := zt2 125 (by rfl) rfl
set_option maxRecDepth 20000 in
theorem kw_2_127 : Cond.instanceMethod ⟨"ClassOfMany$Resting", "<init>", "()V"⟩ ∈ zTw := zt2 127 (by rfl) rfl
set_option maxRecDepth 20000 in
theorem kw_2_128 : Cond.code ⟨"ClassOfMany$Resting", "<init>", "()V"⟩ prog_7_method_1_code 1 none ∈ zTw := zt2 128 (by rfl) rfl
set_option maxRecDepth 20000 in
theorem kw_2_129 : Cond.methodLink "ClassOfMany$Resting" 3 ⟨"java/lang/Object", "<init>", "()V"⟩ ∈ zTw := zt2 129 (by rfl) rfl
set_option maxRecDepth 20000 in
theorem kw_2_15 : Cond.classLink "ClassOfMany" 40 "ClassOfMany$Splitter" ∈ zTw := zt2 15 (by rfl) rfl
set_option maxRecDepth 20000 in
theorem kw_2_154 : Cond.classLink "ClassOfMany" 61 "ClassOfMany$Page" ∈ zTw := zt2 154 (by rfl) rfl
set_option maxRecDepth 20000 in
theorem kw_2_155 : Cond.instantiable "ClassOfMany$Page" 2 ∈ zTw := zt2 155 (by rfl) rfl
set_option maxRecDepth 20000 in
theorem kw_2_157 : Cond.instanceMethod ⟨"ClassOfMany$Page", "<init>", "()V"⟩ ∈ zTw := zt2 157 (by rfl) rfl
set_option maxRecDepth 20000 in
theorem kw_2_158 : Cond.code ⟨"ClassOfMany$Page", "<init>", "()V"⟩ prog_4_method_1_code 1 none ∈ zTw := zt2 158 (by rfl) rfl
set_option maxRecDepth 20000 in
theorem kw_2_159 : Cond.methodLink "ClassOfMany$Page" 3 ⟨"java/lang/Object", "<init>", "()V"⟩ ∈ zTw := zt2 159 (by rfl) rfl
set_option maxRecDepth 20000 in
theorem kw_2_16 : Cond.instantiable "ClassOfMany$Splitter" 9 ∈ zTw := zt2 16 (by rfl) rfl
set_option maxRecDepth 20000 in
theorem kw_2_167 : Cond.arrayClass .byte ∈ zTw := zt2 167 (by rfl) rfl
set_option maxRecDepth 20000 in
theorem kw_2_18 : Cond.instanceMethod ⟨"ClassOfMany$Splitter", "<init>", "()V"⟩ ∈ zTw := zt2 18 (by rfl) rfl
set_option maxRecDepth 20000 in
theorem kw_2_19 : Cond.code ⟨"ClassOfMany$Splitter", "<init>", "()V"⟩ prog_8_method_1_code 1 none ∈ zTw := zt2 19 (by rfl) rfl
set_option maxRecDepth 20000 in
theorem kw_2_20 : Cond.methodLink "ClassOfMany$Splitter" 3 ⟨"java/lang/Object", "<init>", "()V"⟩ ∈ zTw := zt2 20 (by rfl) rfl
set_option maxRecDepth 20000 in
theorem kw_2_51 : Cond.arrayClass .boolean ∈ zTw := zt2 51 (by rfl) rfl
set_option maxRecDepth 20000 in
theorem kw_2_52 : Cond.classLink "ClassOfMany" 47 "ClassOfMany$Payer" ∈ zTw := zt2 52 (by rfl) rfl
set_option maxRecDepth 20000 in
theorem kw_2_53 : Cond.instantiable "ClassOfMany$Payer" 18 ∈ zTw := zt2 53 (by rfl) rfl
set_option maxRecDepth 20000 in
theorem kw_2_55 : Cond.instanceMethod ⟨"ClassOfMany$Payer", "<init>", "()V"⟩ ∈ zTw := zt2 55 (by rfl) rfl
set_option maxRecDepth 20000 in
theorem kw_2_56 : Cond.code ⟨"ClassOfMany$Payer", "<init>", "()V"⟩ prog_5_method_1_code 1 none ∈ zTw := zt2 56 (by rfl) rfl
set_option maxRecDepth 20000 in
theorem kw_2_57 : Cond.methodLink "ClassOfMany$Payer" 3 ⟨"java/lang/Object", "<init>", "()V"⟩ ∈ zTw := zt2 57 (by rfl) rfl
set_option maxRecDepth 20000 in
theorem kw_5_222 : Cond.methodLink "ClassOfManyModel" 1 ⟨"java/lang/Object", "<init>", "()V"⟩ ∈ zTw := zt5 222 (by rfl) rfl
/-! THE CONSTRUCTORS: a world that grows, cell behind cell, in the order of the numbers -/
def ZI (D : va_G) (cA : Nat → ClassId) (U : State) : Prop := va_K D vwCl (ztys cA) U ∧ (∀ q ∈ zNest, va_Nw (.methodLinkNest q.1 q.2.1 q.2.2 "ClassOfMany") U) ∧ va_AO "ClassOfMany$Standing" U
theorem ZI.warm {D : va_G} {cA : Nat → ClassId} {s U : State} (h : ZI D cA s) (hW : s.WarmedH U.vm) : ZI D cA U := ⟨va_K.moved hW.alike h.1, fun q hq => (h.2.1 q hq).warmM hW, h.2.2.moved hW.alike⟩
theorem ZI.same {D : va_G} {cA : Nat → ClassId} {u U : State} (h : ZI D cA u) (hv : U.vm = u.vm) : ZI D cA U :=
  ⟨va_K.moved (by rw [hv]; exact Vm.Alike.refl _) h.1, fun q hq => va_tabs rfl hv.symm (h.2.1 q hq), h.2.2.moved (by rw [hv]; exact Vm.Alike.refl _)⟩
abbrev YEnv : Type := Program × Launch × Env × Room × State × MethodId × Array Value × List Frame × Method × Code × (State → Prop) × va_G × (Nat → ClassId) × (Nat → Prop) × Nat
abbrev yL (E : YEnv) : Launch := E.2.1
abbrev yD (E : YEnv) : va_G := E.2.2.2.2.2.2.2.2.2.2.2.1
abbrev ycA (E : YEnv) : Nat → ClassId := E.2.2.2.2.2.2.2.2.2.2.2.2.1
def YW : YEnv → Nat → List (Nat × Value) → List Value → va_W → Nat → Nat → Prop
  | (p, l, e, R, s, m, args, below, meth, c, Q, D, cA, A, nL), pc, lv, st, ws, cells, slots => ∀ (H : Heap) (locs : List Loc) (ls : Array Slot), va_P D vwCl ws H → va_D A ws → va_S A s.heap H locs → lv_has ls nL lv → W p l e R s m args below meth c H locs cells slots Q (F0 m pc ls st)
def YCx : YEnv → ByteArray → String → Nat → Nat → Nat → Prop
  | (p, l, e, R, s, m, args, below, meth, c, Q, D, cA, A, nL), cc, own, d, mc, ms => p.tables.exec = Jvm.exec ∧ c.code = cc ∧ c.maxLocals = nL ∧ s.vm.findClass own = some m.cls ∧ (∀ w ∈ zTw, w.before args s = true) ∧ ZI D cA s ∧ (∀ q, s.heap.size ≤ q → A q) ∧ mc ≤ R.cells ∧ ms ≤ R.slots ∧ d ≤ R.frames ∧ 64 * d ≤ R.locals
def YIn : YEnv → Prop
  | (p, l, e, R, s, m, args, below, meth, c, Q, D, cA, A, nL) => meth.name = "<init>"
def YRet {S : Type} : YEnv → (S → va_W) → Nat → Nat → Prop
  | (p, l, e, R, s, m, args, below, meth, c, Q, D, cA, A, nL), post, mc, ms => meth.sig.returnType = none ∧ meth.locks = false ∧ Q = MQ below (va_Qv (fun (_ : S) => True) (fun u t => va_P D vwCl (post u) t.heap ∧ va_D A (post u)) A) args s mc ms A
def yrm (d mc ms : Nat) : Room := { frames := d, cells := mc, slots := ms, locals := 64 * d }
def YPc (D : va_G) (cA : Nat → ClassId) (pre : va_W) (sz : Nat) : State → Prop := fun U => U.heap.size = sz ∧ va_P D vwCl pre U.heap ∧ va_D (fun _ => True) pre ∧ ZI D cA U
def YCt {S : Type} (l : Launch) (D : va_G) (cA : Nat → ClassId) (y : MethodName) (cc : ByteArray) (mL d mc ms h0 : Nat) (pre : va_W) (post : S → va_W) : Prop :=
  ∀ sz, Met l y (Cond.code y cc mL none :: zTw) (yrm d mc ms) (va_Pc [.ref h0] (YPc D cA pre sz)) (va_Qv (fun (_ : S) => True) (fun u t => va_P D vwCl (post u) t.heap ∧ va_D (va_A pre sz) (post u)) (va_A pre sz)) mc ms (va_A pre sz)
theorem yct {S : Type} {l : Launch} {D : va_G} {cA : Nat → ClassId} {y : MethodName} {cc : ByteArray} {mL d mc ms h0 : Nat} {pre : va_W} {post : S → va_W} (hy : plainName y.cls = true) (hn : 1 ≤ mL)
    (body : ∀ E : YEnv, yL E = l → yD E = D → ycA E = cA → E.2.2.2.2.2.2.2.2.2.2.2.2.2.2 = mL → (y.name = "<init>" → YIn E) → YCx E cc y.cls d mc ms → YRet E post mc ms → YW E 0 [(0, .ref h0)] [] pre 0 0) : YCt l D cA y cc mL d mc ms h0 pre post := by
  intro sz
  refine Met.ofW (cc := cc) (maxL := mL) (ret := none) hy rfl ?_
  intro p e s m args below meth c s₁ B hml hv
  obtain ⟨rfl, hsz, hP, hD, hI⟩ := hv
  have hts := atoms_spec (ws := Cond.code y cc mL none :: zTw) B.pre
  have hown : s.vm.findClass y.cls = some m.cls := findClass_of_methodNamed B.named
  have hin : y.name = "<init>" → meth.name = "<init>" := fun h => by rw [(name_of_methodNamed B.named B.method).1, h]
  subst hsz
  have hD2 := hD.self (sz := s.heap.size)
  have hl := lv_entry [Value.ref h0] (n := mL) hn
  rw [lg_entry_eq]
  exact body (p, l, e, _, s, m, [Value.ref h0].toArray, below, meth, c, MQ below (va_Qv (fun (_ : S) => True) (fun u t => va_P D vwCl (post u) t.heap ∧ va_D (va_A pre s.heap.size) (post u)) (va_A pre s.heap.size)) [Value.ref h0].toArray s mc ms (va_A pre s.heap.size), D, cA, va_A pre s.heap.size, mL) rfl rfl rfl rfl hin
    ⟨B.exec, B.bytes, hml, hown, fun w hw => hts w (List.mem_cons_of_mem _ hw), hI, fun q h => Or.inr h, Nat.le_refl _, Nat.le_refl _, Nat.le_refl _, Nat.le_refl _⟩ ⟨B.returns, B.notSynchronized, rfl⟩ s.heap [] _ hP hD2 va_S.rf hl
theorem yw_aload_n {E : YEnv} {cc : ByteArray} {own : String} {d mc ms pc cells slots : Nat} {lv : List (Nat × Value)} {st : List Value} {ws : va_W} (hC : YCx E cc own d mc ms) {f : Fin 4} {i x : Nat} (hd : decode cc pc = .ok (.aload_n f, 1)) (hi : (f : Nat) = i) (k : Nat) (h : lv[k]? = some (i, .ref x)) (kk : YW E (pc + 1) lv (.ref x :: st) ws cells slots) : YW E pc lv st ws cells slots := by
  obtain ⟨p, l, e, R, s, m, args, below, meth, c, Q, D, cA, A, nL⟩ := E
  intro H locs ls hP hD hS hl
  exact lv_aload_n hC.1 hC.2.1 hd hi (lv_at hl k h) (kk H locs ls hP hD hS hl)
theorem yw_iload_n {E : YEnv} {cc : ByteArray} {own : String} {d mc ms pc cells slots : Nat} {lv : List (Nat × Value)} {st : List Value} {ws : va_W} (hC : YCx E cc own d mc ms) {f : Fin 4} {i : Nat} {x : Int32} (hd : decode cc pc = .ok (.iload_n f, 1)) (hi : (f : Nat) = i) (k : Nat) (h : lv[k]? = some (i, .int x)) (kk : YW E (pc + 1) lv (.int x :: st) ws cells slots) : YW E pc lv st ws cells slots := by
  obtain ⟨p, l, e, R, s, m, args, below, meth, c, Q, D, cA, A, nL⟩ := E
  intro H locs ls hP hD hS hl
  exact lv_iload_n hC.1 hC.2.1 hd hi (lv_at hl k h) (kk H locs ls hP hD hS hl)
theorem yw_istore_n {E : YEnv} {cc : ByteArray} {own : String} {d mc ms pc cells slots : Nat} {lv lv' : List (Nat × Value)} {st : List Value} {ws : va_W} (hC : YCx E cc own d mc ms) {f : Fin 4} {i nL : Nat} {x : Int32} (hd : decode cc pc = .ok (.istore_n f, 1)) (hi : (f : Nat) = i) (hN : E.2.2.2.2.2.2.2.2.2.2.2.2.2.2 = nL) (hn : i < nL) (h : (i, Value.int x) :: lv.filter (fun q => !(q.1 == i) && !(q.1 + 1 == i && q.2.category == 2)) = lv') (kk : YW E (pc + 1) lv' st ws cells slots) : YW E pc lv (.int x :: st) ws cells slots := by
  subst hN
  obtain ⟨p, l, e, R, s, m, args, below, meth, c, Q, D, cA, A, nL⟩ := E
  intro H locs ls hP hD hS hl
  exact lv_istore_n hC.1 hC.2.1 hd hi hl hn h (fun ls' hl' => kk H locs ls' hP hD hS hl')
theorem yw_iinc {E : YEnv} {cc : ByteArray} {own : String} {d mc ms pc cells slots : Nat} {lv lv' : List (Nat × Value)} {st : List Value} {ws : va_W} (hC : YCx E cc own d mc ms) {i nL : Nat} {n : Int} {x v : Int32} (hd : decode cc pc = .ok (.iinc i n, 3)) (k : Nat) (hk : lv[k]? = some (i, .int x)) (hv : x + Int32.ofInt n = v) (hN : E.2.2.2.2.2.2.2.2.2.2.2.2.2.2 = nL) (hn : i < nL) (h : (i, Value.int v) :: lv.filter (fun q => !(q.1 == i) && !(q.1 + 1 == i && q.2.category == 2)) = lv') (kk : YW E (pc + 3) lv' st ws cells slots) : YW E pc lv st ws cells slots := by
  subst hN
  obtain ⟨p, l, e, R, s, m, args, below, meth, c, Q, D, cA, A, nL⟩ := E
  intro H locs ls hP hD hS hl
  exact lv_iinc hC.1 hC.2.1 hd hl (k := k) hk hv hn h (fun ls' hl' => kk H locs ls' hP hD hS hl')
theorem yw_iconst {E : YEnv} {cc : ByteArray} {own : String} {d mc ms pc cells slots : Nat} {lv : List (Nat × Value)} {st : List Value} {ws : va_W} (hC : YCx E cc own d mc ms) {n : Int} {v : Int32} (hd : decode cc pc = .ok (.iconst n, 1)) (hv : Int32.ofInt n = v) (kk : YW E (pc + 1) lv (.int v :: st) ws cells slots) : YW E pc lv st ws cells slots := by
  obtain ⟨p, l, e, R, s, m, args, below, meth, c, Q, D, cA, A, nL⟩ := E
  intro H locs ls hP hD hS hl
  exact lv_iconst hC.1 hC.2.1 hd hv (kk H locs ls hP hD hS hl)
theorem yw_bipush {E : YEnv} {cc : ByteArray} {own : String} {d mc ms pc cells slots : Nat} {lv : List (Nat × Value)} {st : List Value} {ws : va_W} (hC : YCx E cc own d mc ms) {n : Int} {v : Int32} (hd : decode cc pc = .ok (.bipush n, 2)) (hv : (Int8.ofInt n).toInt32 = v) (kk : YW E (pc + 2) lv (.int v :: st) ws cells slots) : YW E pc lv st ws cells slots := by
  obtain ⟨p, l, e, R, s, m, args, below, meth, c, Q, D, cA, A, nL⟩ := E
  intro H locs ls hP hD hS hl
  exact lv_bipush hC.1 hC.2.1 hd hv (kk H locs ls hP hD hS hl)
theorem yw_sipush {E : YEnv} {cc : ByteArray} {own : String} {d mc ms pc cells slots : Nat} {lv : List (Nat × Value)} {st : List Value} {ws : va_W} (hC : YCx E cc own d mc ms) {n : Int} {v : Int32} (hd : decode cc pc = .ok (.sipush n, 3)) (hv : (Int16.ofInt n).toInt32 = v) (kk : YW E (pc + 3) lv (.int v :: st) ws cells slots) : YW E pc lv st ws cells slots := by
  obtain ⟨p, l, e, R, s, m, args, below, meth, c, Q, D, cA, A, nL⟩ := E
  intro H locs ls hP hD hS hl
  exact lv_sipush hC.1 hC.2.1 hd hv (kk H locs ls hP hD hS hl)
theorem yw_dup {E : YEnv} {cc : ByteArray} {own : String} {d mc ms pc cells slots : Nat} {lv : List (Nat × Value)} {st : List Value} {ws : va_W} (hC : YCx E cc own d mc ms) {v : Value} (hd : decode cc pc = .ok (.dup, 1)) (hv : v.category = 1) (kk : YW E (pc + 1) lv (v :: v :: st) ws cells slots) : YW E pc lv (v :: st) ws cells slots := by
  obtain ⟨p, l, e, R, s, m, args, below, meth, c, Q, D, cA, A, nL⟩ := E
  intro H locs ls hP hD hS hl
  exact lv_dup hC.1 hC.2.1 hd hv (kk H locs ls hP hD hS hl)
theorem yw_goto {E : YEnv} {cc : ByteArray} {own : String} {d mc ms pc cells slots : Nat} {lv : List (Nat × Value)} {st : List Value} {ws : va_W} (hC : YCx E cc own d mc ms) {off : Int} (tgt : Nat) (hd : decode cc pc = .ok (.goto off, 3)) (ht : (pc : Int) + off = (tgt : Int)) (kk : YW E tgt lv st ws cells slots) : YW E pc lv st ws cells slots := by
  obtain ⟨p, l, e, R, s, m, args, below, meth, c, Q, D, cA, A, nL⟩ := E
  intro H locs ls hP hD hS hl
  exact lv_goto hC.1 hC.2.1 hd ht (kk H locs ls hP hD hS hl)
theorem yw_icmp_ge {E : YEnv} {cc : ByteArray} {own : String} {d mc ms pc cells slots : Nat} {lv : List (Nat × Value)} {st : List Value} {ws : va_W} (hC : YCx E cc own d mc ms) {x y : Int32} {off : Int} (tgt : Nat) (hd : decode cc pc = .ok (.if_icmp .ge off, 3)) (ht : (pc : Int) + off = (tgt : Int)) (kt : y ≤ x → YW E tgt lv st ws cells slots) (kf : ¬ y ≤ x → YW E (pc + 3) lv st ws cells slots) : YW E pc lv (.int y :: .int x :: st) ws cells slots := by
  obtain ⟨p, l, e, R, s, m, args, below, meth, c, Q, D, cA, A, nL⟩ := E
  intro H locs ls hP hD hS hl
  exact lv_icmp_ge hC.1 hC.2.1 hd ht (fun h => kt h H locs ls hP hD hS hl) (fun h => kf h H locs ls hP hD hS hl)
theorem yw_obj {E : YEnv} {cc : ByteArray} {own : String} {d mc ms pc cells slots : Nat} {lv : List (Nat × Value)} {ws : va_W} (hC : YCx E cc own d mc ms) (hd1 : 1 ≤ d) {idx a : Nat} (hd : decode cc pc = .ok (.invokespecial idx, 3)) (hlink : Cond.methodLink own idx Lib.objectInit ∈ zTw) (hinst : Cond.instanceMethod Lib.objectInit ∈ zTw) (hcode : Cond.code Lib.objectInit ⟨#[0xb1]⟩ 1 none ∈ zTw) (kk : YW E (pc + 3) lv [] ws cells slots) : YW E pc lv [.ref a] ws cells slots := by
  obtain ⟨p, l, e, R, s, m, args, below, meth, c, Q, D, cA, A, nL⟩ := E
  obtain ⟨hx, hb, hml, hown, hts, hI, hA, hc1, hc2, hR1, hR2⟩ := hC
  intro H locs ls hP hD hS hl
  refine W.objInit hx hb hown (hts _ hlink) (hts _ hinst) (hts _ hcode) rfl (by rw [hml]; exact hl.1) rfl hd (by omega) (by show 2 * 0 + 0 + 12 ≤ R.locals; omega) ?_
  exact W.eq (g2 := F0 m (pc + 3) ls []) rfl (kk H locs ls hP hD hS hl)
theorem yw_arr {D : va_G} {cA : Nat → ClassId} {s : State} {c' : ClassId} {ty : FieldType} {k : Nat} {c0 : ClassId} (h : va_K D vwCl (ztys cA) s) (hk : (ztys cA)[k]? = some (c0, ty)) (h2 : va_K D vwCl (ztys cA ++ [(c', ty)]) s) (hr : ∀ a b, va_RA s a ty → va_RA s b ty → a = b) : c' = c0 := by
  have h3 := (h2.2 4 (c', ty) (by rfl)).2
  have h4 := (h.2 k (c0, ty) hk).2
  exact hr _ _ h3 h4
theorem yw_newa {E : YEnv} {cc : ByteArray} {own : String} {d mc ms pc cells slots : Nat} {lv : List (Nat × Value)} {st : List Value} {ws : va_W} (hC : YCx E cc own d mc ms) {atype : ArrayType} {ty : FieldType} {t0 : Nat} {c0 : ClassId} {n : Int32} {N : Nat} (harr : Cond.arrayClass (newarray.typeOf atype) ∈ zTw) (hty : newarray.typeOf atype = ty) (hk : (ztys (ycA E))[t0]? = some (c0, ty)) (ho : ∀ (s : State) (a b : ClassId), va_RA s a ty → va_RA s b ty → a = b) (h0 : ∀ c : ClassId, vp_cell c (N, .inl (fun _ => 0)) = arrV c N (fun _ => defaultValue ty)) (hn : ¬ n < 0) (hN : n.toNatClampNeg = N) (hby : N * componentBytes ty ≤ 536870912) (hcs : cells + 1 ≤ mc) (hss : slots + N ≤ ms) (hd : decode cc pc = .ok (.newarray atype, 2)) (kk : ∀ q, YW E (pc + 2) lv (.ref q :: st) (ws ++ [(q, .inl (c0, N, .inl (fun _ => 0)))]) (cells + 1) (slots + N)) : YW E pc lv (.int n :: st) ws cells slots := by
  obtain ⟨p, l, e, R, s, m, args, below, meth, c, Q, D, cA, A, nL⟩ := E
  obtain ⟨hx, hb, hml, hown, hts, hI, hA, hc1, hc2, hR1, hR2⟩ := hC
  intro H locs ls hP hD hS hl
  refine va_newa hx hb (hts _ harr) hty hI.1 hP hD hS hA (a0 := (N, .inl (fun _ => 0))) h0 hn hN hby (by omega) (by omega) hd (fun q c1 H1 hK1 hP1 hD1 hS1 => ?_)
  have e1 : c1 = c0 := yw_arr hI.1 hk hK1 (ho s)
  subst e1
  exact kk q H1 locs ls hP1 hD1 hS1 hl
theorem yw_newq {E : YEnv} {cc : ByteArray} {own : String} {d mc ms pc cells slots : Nat} {lv : List (Nat × Value)} {st : List Value} {ws : va_W} (hC : YCx E cc own d mc ms) {index : Nat} {n : Int32} {N : Nat} (hlink : Cond.classLink own index "ClassOfMany$Standing" ∈ zTw) (hn : ¬ n < 0) (hN : n.toNatClampNeg = N) (hby : N * 4 ≤ 536870912) (hcs : cells + 1 ≤ mc) (hss : slots + N ≤ ms) (hd : decode cc pc = .ok (.anewarray index, 3)) (kk : ∀ q, YW E (pc + 3) lv (.ref q :: st) (ws ++ [(q, .inl (ycA E 13, N, .inr (.inr (.inr (.inr (fun _ => none))))))]) (cells + 1) (slots + N)) : YW E pc lv (.int n :: st) ws cells slots := by
  obtain ⟨p, l, e, R, s, m, args, below, meth, c, Q, D, cA, A, nL⟩ := E
  obtain ⟨hx, hb, hml, hown, hts, hI, hA, hc1, hc2, hR1, hR2⟩ := hC
  intro H locs ls hP hD hS hl
  refine va_newq hx hb hown (hts _ hlink) hI.2.2 hI.1 hP hD hS hA hn hN hby (by omega) (by omega) hd (fun q c1 H1 hK1 hP1 hD1 hS1 => ?_)
  have e1 : c1 = cA 13 := yw_arr (k := 3) hI.1 rfl hK1 (fun a b ⟨_, _, _, _, _, h4⟩ ⟨_, _, _, _, _, g4⟩ => Option.some.inj (h4.symm.trans g4))
  subst e1
  exact kk q H1 locs ls hP1 hD1 hS1 hl
theorem yw_putF {E : YEnv} {cc : ByteArray} {own : String} {d mc ms pc cells slots : Nat} {lv : List (Nat × Value)} {st : List Value} {ws ws' : va_W} (hC : YCx E cc own d mc ms) (hIn : YIn E) {a ci N j index : Nat} {f t : String} {fs : List Value} {v : Value} {ty : FieldType} (hF : ZFld ci N j own f t true) (q0 : Nat) (he : ws[q0]? = some (a, .inr (ci, fs))) (ht : parseFieldDescriptor t = some ty) (hn : narrow ty v = v) (hfit : fits ty v = true) (hl9 : j < fs.length) (hlink : Cond.fieldLink own index own f t ∈ zTw) (hd : decode cc pc = .ok (.putfield index, 3)) (hws : ws.set q0 (a, .inr (ci, fs.set j v)) = ws') (kk : YW E (pc + 3) lv st ws' cells slots) : YW E pc lv (v :: .ref a :: st) ws cells slots := by
  subst hws
  obtain ⟨p, l, e, R, s, m, args, below, meth, c, Q, D, cA, A, nL⟩ := E
  obtain ⟨hx, hb, hml, hown, hts, hI, hA, hc1, hc2, hR1, hR2⟩ := hC
  obtain ⟨T, h1, h2, h3, h4⟩ := hF
  obtain ⟨g1, ⟨ty0, g2⟩, g3⟩ := zcls ci _ h1
  intro H locs ls hP hD hS hl
  exact va_putF (T := T) (C := own) (N := N) (ref := own) (ty := ty) hx hb hts g1 ty0 g2 g3 hown hI.1 hP hD hS q0 he h1 j h3 (by rw [h4]; exact hts _ hlink) (fun x hx => by rw [h4] at hx; rw [h4]; exact hx) (by rw [h4]) hIn (by rw [h4]) (by rw [h4]; exact ht) hn hfit hl9 hd (fun H1 locs1 hP1 hD1 hS1 => kk H1 locs1 ls hP1 hD1 hS1 hl)
theorem yw_put {E : YEnv} {cc : ByteArray} {own : String} {d mc ms pc cells slots : Nat} {lv : List (Nat × Value)} {st : List Value} {ws ws' : va_W} (hC : YCx E cc own d mc ms) {a ci N j index : Nat} {f t : String} {fs : List Value} {v : Value} {ty : FieldType} (hF : ZFld ci N j own f t false) (q0 : Nat) (he : ws[q0]? = some (a, .inr (ci, fs))) (ht : parseFieldDescriptor t = some ty) (hn : narrow ty v = v) (hfit : fits ty v = true) (hl9 : j < fs.length) (hlink : Cond.fieldLink own index own f t ∈ zTw) (hd : decode cc pc = .ok (.putfield index, 3)) (hws : ws.set q0 (a, .inr (ci, fs.set j v)) = ws') (kk : YW E (pc + 3) lv st ws' cells slots) : YW E pc lv (v :: .ref a :: st) ws cells slots := by
  subst hws
  obtain ⟨p, l, e, R, s, m, args, below, meth, c, Q, D, cA, A, nL⟩ := E
  obtain ⟨hx, hb, hml, hown, hts, hI, hA, hc1, hc2, hR1, hR2⟩ := hC
  obtain ⟨T, h1, h2, h3, h4⟩ := hF
  obtain ⟨g1, ⟨ty0, g2⟩, g3⟩ := zcls ci _ h1
  intro H locs ls hP hD hS hl
  exact va_put (T := T) (C := own) (N := N) (ref := own) (ty := ty) hx hb hts g1 ty0 g2 g3 hown hI.1 hP hD hS q0 he h1 j h3 (by rw [h4]; exact hts _ hlink) (fun x hx => by rw [h4] at hx; rw [h4]; exact hx) (by rw [h4]) (by rw [h4]; exact ht) hn hfit hl9 hd (fun H1 locs1 hP1 hD1 hS1 => kk H1 locs1 ls hP1 hD1 hS1 hl)
theorem yw_get {E : YEnv} {cc : ByteArray} {own : String} {d mc ms pc cells slots : Nat} {lv : List (Nat × Value)} {st : List Value} {ws : va_W} (hC : YCx E cc own d mc ms) {a ci N j index : Nat} {f t : String} {fin : Bool} {fs : List Value} {v : Value} (hF : ZFld ci N j own f t fin) (q0 : Nat) (he : ws[q0]? = some (a, .inr (ci, fs))) (hv : fs[j]? = some v) (hlink : Cond.fieldLink own index own f t ∈ zTw) (hd : decode cc pc = .ok (.getfield index, 3)) (kk : YW E (pc + 3) lv (v :: st) ws cells slots) : YW E pc lv (.ref a :: st) ws cells slots := by
  obtain ⟨p, l, e, R, s, m, args, below, meth, c, Q, D, cA, A, nL⟩ := E
  obtain ⟨hx, hb, hml, hown, hts, hI, hA, hc1, hc2, hR1, hR2⟩ := hC
  obtain ⟨T, h1, h2, h3, h4⟩ := hF
  intro H locs ls hP hD hS hl
  exact va_get (T := T) (C := own) (N := N) (ref := own) hx hb hts (zcls ci _ h1).1 hown hI.1 hP q0 he h1 j h3 (by rw [h4]; exact hts _ hlink) (fun x hx => by rw [h4] at hx; rw [h4]; exact hx) hv hd (kk H locs ls hP hD hS hl)
theorem yw_new {E : YEnv} {cc : ByteArray} {own : String} {d mc ms pc cells slots : Nat} {lv : List (Nat × Value)} {st : List Value} {ws : va_W} (hC : YCx E cc own d mc ms) {ci N index : Nat} {C : String} {T : u_T} {fs : List Value} (hcl : vwCl[ci]? = some (C, T, N)) (ty : Nat → FieldType) (hty : ∀ k, k < N → parseFieldDescriptor (T k).2.2.1 = some (ty k)) (hfs : ∀ j, j < N → defaultValue (ty j) = vp_V fs j) (hlink : Cond.classLink own index C ∈ zTw) (hinst : Cond.instantiable C N ∈ zTw) (hini : Cond.initialized C ∈ zTw) (hcs : cells + 1 ≤ mc) (hss : slots + N ≤ ms) (hd : decode cc pc = .ok (.new index, 3)) (kk : ∀ q, YW E (pc + 3) lv (.ref q :: st) (ws ++ [(q, .inr (ci, fs))]) (cells + 1) (slots + N)) : YW E pc lv st ws cells slots := by
  obtain ⟨p, l, e, R, s, m, args, below, meth, c, Q, D, cA, A, nL⟩ := E
  obtain ⟨hx, hb, hml, hown, hts, hI, hA, hc1, hc2, hR1, hR2⟩ := hC
  intro H locs ls hP hD hS hl
  exact va_new hx hb hts (zcls ci _ hcl).1 ty hty hown (hts _ hlink) (hts _ hinst) (hts _ hini) hI.1 hP hD hS hA hcl hfs (Nat.le_trans hcs hc1) (Nat.le_trans hss hc2) hd (fun q H1 hP1 hD1 hS1 => kk q H1 locs ls hP1 hD1 hS1 hl)
theorem yblind {D : va_G} {cA : Nat → ClassId} {av : List Value} {pre : va_W} {sz : Nat} : FrameBlind (va_Pc av (YPc D cA pre sz)) := by
  intro a U g mk q
  obtain ⟨q0, q1, qP, qD, qI⟩ := q
  exact ⟨q0, q1, qP, qD, qI.same (U := U.calling g mk a) rfl⟩
theorem ynd : ∀ l : List Nat, va_nd l = true ↔ l.Nodup := by
  intro l
  induction l with
  | nil => simp [va_nd]
  | cons a t ih => simp [va_nd, ih]
theorem yw_at {wr pre : va_W} : ((List.range pre.length).map (wr.length + ·)).map (fun i => (wr ++ pre)[i]?) = pre.map some := by
  apply List.ext_getElem?
  intro i
  by_cases h : i < pre.length
  · simp [h, List.getElem?_append_right]
  · simp [h]
theorem yw_join {A0 : Nat → Prop} {D : va_G} {wr w1 pre : va_W} {H H1 : Heap} (hP : va_P D vwCl (wr ++ pre) H) (hD : va_D A0 (wr ++ pre)) (hk : ∀ a : Nat, a < H.size → ¬ va_A pre H.size a → H1[a]? = H[a]?) (hF : ∀ a, va_A pre H.size a → A0 a) (hP1 : va_P D vwCl w1 H1) (hD1 : va_D (va_A pre H.size) w1) : va_P D vwCl (wr ++ w1) H1 ∧ va_D A0 (wr ++ w1) := by
  refine va_join (wc := pre) (wr := wr) hP hD ((List.range pre.length).map (wr.length + ·)) (List.range wr.length) yw_at ?_ ((ynd _).mpr List.nodup_range) ?_ hk hF hP1 hD1
  · apply List.ext_getElem?
    intro i
    by_cases h : i < wr.length
    · simp [h, List.getElem?_append_left h]
    · simp [h]
  · intro i hi
    simp at hi ⊢
    omega
theorem yw_perm {E : YEnv} {pc cells slots : Nat} {lv : List (Nat × Value)} {st : List Value} {ws ws' : va_W} (is : List Nat) (h2 : va_nd is = true) (h3 : is.map (fun i => ws[i]?) = ws'.map some) (kk : YW E pc lv st ws' cells slots) : YW E pc lv st ws cells slots := by
  obtain ⟨p, l, e, R, s, m, args, below, meth, c, Q, D, cA, A, nL⟩ := E
  intro H locs ls hP hD hS hl
  have h1 : is.filterMap (fun i => ws[i]?) = ws' := by
    have key : ∀ (l : List Nat) (w : va_W), l.map (fun i => ws[i]?) = w.map some → l.filterMap (fun i => ws[i]?) = w := by
      intro l
      induction l with
      | nil => intro w h; cases w with
        | nil => rfl
        | cons a t => simp at h
      | cons a t ih => intro w h; cases w with
        | nil => simp at h
        | cons b u =>
          simp only [List.map_cons, List.cons.injEq] at h
          rw [List.filterMap_cons, h.1, ih u h.2]
    exact key is ws' h3
  exact kk H locs ls (hP.sub is h1) (hD.sub is h2 h3) hS hl
theorem yw_callI {E : YEnv} {cc : ByteArray} {own : String} {d mc ms pc cells slots : Nat} {lv : List (Nat × Value)} {st : List Value} {wr : va_W} (hC : YCx E cc own d mc ms) {y : MethodName} {cy : ByteArray} {mL d' mc' ms' q index : Nat} {pre : va_E} {S' : Type} {post : S' → va_W} (hct : YCt (yL E) (yD E) (ycA E) y cy mL d' mc' ms' q [(q, pre)] post) (hcw : Cond.code y cy mL none ∈ zTw) (hini : Cond.initialized y.cls ∈ zTw) (hlink : Cond.methodLink own index y ∈ zTw) (hinst : Cond.instanceMethod y ∈ zTw) (hy1 : y.name = "<init>") (hd0 : y.cls ≠ "java/lang/invoke/MethodHandle" ∧ y.cls ≠ "java/lang/invoke/VarHandle" ∧ (parseMethodDescriptor y.desc).map (fun d => d.parameters.length) = some 0) (hmL : mL ≤ 45) (hdd : d' + 1 ≤ d) (hrest : (st.map fun v => v.category).sum ≤ 8) (hd : decode cc pc = .ok (.invokespecial index, 3)) (hcs : cells + mc' ≤ mc) (hss : slots + ms' ≤ ms) (kk : ∀ u, YW E (pc + 3) lv st (wr ++ post u) (cells + mc') (slots + ms')) : YW E pc lv (.ref q :: st) (wr ++ [(q, pre)]) cells slots := by
  obtain ⟨p, l, e, R, s, m, args, below, meth, c, Q, D, cA, A, nL⟩ := E
  obtain ⟨hx, hb, hml, hown, hts, hI, hA, hc1, hc2, hR1, hR2⟩ := hC
  intro H locs ls hP hD hS hl
  have hpl : (wr ++ [(q, pre)])[wr.length]? = some (q, pre) := by simp
  have hPc : va_P D vwCl [(q, pre)] H := hP.sub [wr.length] (by simp)
  have hDc : va_D A [(q, pre)] := hD.sub [wr.length] (by simp [va_nd]) (by simp)
  have hFc := va_free (wc := [(q, pre)]) hD hS hA [wr.length] (by simp)
  refine va_callv (va_runI (As := []) (rest := st) ⟨hx, hb, hml, hown, hts⟩ (hct H.size) (cwI 0 hts (zgood hcw) rfl rfl rfl (hts _ hini) (hts _ hlink) (hts _ hinst) hy1 hd0 ⟨?_, ?_⟩) ⟨yblind, fun U hU hW => ⟨rfl, by rw [hU], by rw [hU]; exact hPc, hDc.weaken (fun _ _ _ _ => trivial), hI.warm hW⟩⟩ rfl rfl hl.1 rfl (lv_room hrest) hd ⟨by omega, by omega⟩) hS (fun a _ h => hFc a h) hFc (fun u t H1 locs1 ht hvm hw hB hz1 hk1 hS1 => ?_)
  · show d' + 1 ≤ R.frames
    omega
  · show 8 + (mL + 11) + 64 * d' ≤ R.locals
    omega
  · obtain ⟨hP1, hD1⟩ := hB
    rw [ht] at hP1
    obtain ⟨hP2, hD2⟩ := yw_join hP hD hk1 hFc hP1 hD1
    exact kk u H1 locs1 ls hP2 hD2 hS1 hl
theorem yw_callN {E : YEnv} {cc : ByteArray} {own : String} {d mc ms pc cells slots : Nat} {lv : List (Nat × Value)} {st : List Value} {wr : va_W} (hC : YCx E cc own d mc ms) {y : MethodName} {cy : ByteArray} {mL d' mc' ms' q index : Nat} {pre : va_E} {S' : Type} {post : S' → va_W} (hct : YCt (yL E) (yD E) (ycA E) y cy mL d' mc' ms' q [(q, pre)] post) (hcw : Cond.code y cy mL none ∈ zTw) (hini : Cond.initialized y.cls ∈ zTw) (hlink : (own, index, y) ∈ zNest) (hinst : Cond.instanceMethod y ∈ zTw) (hy1 : y.name = "<init>") (hd0 : y.cls ≠ "java/lang/invoke/MethodHandle" ∧ y.cls ≠ "java/lang/invoke/VarHandle" ∧ (parseMethodDescriptor y.desc).map (fun d => d.parameters.length) = some 0) (hmL : mL ≤ 45) (hdd : d' + 1 ≤ d) (hrest : (st.map fun v => v.category).sum ≤ 8) (hd : decode cc pc = .ok (.invokespecial index, 3)) (hcs : cells + mc' ≤ mc) (hss : slots + ms' ≤ ms) (kk : ∀ u, YW E (pc + 3) lv st (wr ++ post u) (cells + mc') (slots + ms')) : YW E pc lv (.ref q :: st) (wr ++ [(q, pre)]) cells slots := by
  obtain ⟨p, l, e, R, s, m, args, below, meth, c, Q, D, cA, A, nL⟩ := E
  obtain ⟨hx, hb, hml, hown, hts, hI, hA, hc1, hc2, hR1, hR2⟩ := hC
  intro H locs ls hP hD hS hl
  have hPc : va_P D vwCl [(q, pre)] H := hP.sub [wr.length] (by simp)
  have hDc : va_D A [(q, pre)] := hD.sub [wr.length] (by simp [va_nd]) (by simp)
  have hFc := va_free (wc := [(q, pre)]) hD hS hA [wr.length] (by simp)
  refine va_callv (va_runIN (As := []) (rest := st) ⟨hx, hb, hml, hown, hts⟩ (hct H.size) ⟨va_cnB (ret := none) (host := "ClassOfMany") 0 hts (zgood hcw) rfl rfl rfl (hI.2.1 _ hlink) (hts _ hini) hd0 ⟨?_, ?_⟩, hy1, hts _ hinst⟩ ⟨yblind, fun U hU hW => ⟨rfl, by rw [hU], by rw [hU]; exact hPc, hDc.weaken (fun _ _ _ _ => trivial), hI.warm hW⟩⟩ rfl rfl hl.1 rfl (lv_room hrest) hd ⟨by omega, by omega⟩) hS (fun a _ h => hFc a h) hFc (fun u t H1 locs1 ht hvm hw hB hz1 hk1 hS1 => ?_)
  · show d' + 1 ≤ R.frames
    omega
  · show 8 + (mL + 11) + 64 * d' ≤ R.locals
    omega
  · obtain ⟨hP1, hD1⟩ := hB
    rw [ht] at hP1
    obtain ⟨hP2, hD2⟩ := yw_join hP hD hk1 hFc hP1 hD1
    exact kk u H1 locs1 ls hP2 hD2 hS1 hl
theorem yw_aast {E : YEnv} {cc : ByteArray} {own : String} {d mc ms pc cells slots : Nat} {lv : List (Nat × Value)} {st : List Value} {ws ws' : va_W} (hC : YCx E cc own d mc ms) {a v n ci N : Nat} {T : u_T} {vs : List Value} {f : Nat → Option Nat} {i : Int32} (q0 qk : Nat) (ha : ws[q0]? = some (a, .inl (ycA E 13, n, .inr (.inr (.inr (.inr f)))))) (hv : ws[qk]? = some (v, .inr (ci, vs))) (hc : vwCl[ci]? = some ("ClassOfMany$Standing", T, N)) (hin : vp_in i n) (hd : decode cc pc = .ok (.aastore, 1)) (hws : ws.set q0 (a, .inl (ycA E 13, n, .inr (.inr (.inr (.inr (va_up f i.toNatClampNeg (some v))))))) = ws') (kk : YW E (pc + 1) lv st ws' cells slots) : YW E pc lv (.ref v :: .int i :: .ref a :: st) ws cells slots := by
  subst hws
  obtain ⟨p, l, e, R, s, m, args, below, meth, c, Q, D, cA, A, nL⟩ := E
  obtain ⟨hx, hb, hml, hown, hts, hI, hA, hc1, hc2, hR1, hR2⟩ := hC
  intro H locs ls hP hD hS hl
  exact va_astq (r := ("ClassOfMany$Standing", T, N)) hx hb hI.1 hP hD hS q0 3 qk ci ha rfl hv hc hin hd (fun H1 locs1 hP1 hD1 hS1 => kk H1 locs1 ls hP1 hD1 hS1 hl)
theorem yw_ws {E : YEnv} {pc cells slots cells' slots' : Nat} {lv : List (Nat × Value)} {st : List Value} {ws ws' : va_W} (h : ws = ws') (h1 : cells = cells') (h2 : slots = slots') (kk : YW E pc lv st ws' cells' slots') : YW E pc lv st ws cells slots := by subst h; subst h1; subst h2; exact kk
theorem yw_ret {E : YEnv} {cc : ByteArray} {own : String} {d mc ms pc : Nat} {lv : List (Nat × Value)} {ws : va_W} {S' : Type} {post : S' → va_W} (hC : YCx E cc own d mc ms) (hR : YRet E post mc ms) (u : S') (hw : ws = post u) (hd : decode cc pc = .ok (.return_, 1)) : YW E pc lv [] ws mc ms := by
  subst hw
  obtain ⟨p, l, e, R, s, m, args, below, meth, c, Q, D, cA, A, nL⟩ := E
  obtain ⟨hr, hlk, rfl⟩ := hR
  intro H locs ls hP hD hS hl
  exact W.vret hC.1 hC.2.1 hr (fun t ht hW => ⟨⟨u, rfl, trivial, by rw [ht]; exact hP, hD⟩, hS.F ht⟩) hS.2.2 hd hlk
theorem yw_callV {E : YEnv} {cc : ByteArray} {own : String} {d mc ms pc cells slots : Nat} {lv : List (Nat × Value)} {st : List Value} {wr : va_W} (hC : YCx E cc own d mc ms) {C : String} {y : MethodName} {cy : ByteArray} {mL d' mc' ms' q index ci N : Nat} {T : u_T} {fs : List Value} {pre : va_W} {S' : Type} {post : S' → va_W} (hct : YCt (yL E) (yD E) (ycA E) y cy mL d' mc' ms' q pre post) (hm : ZMv C y cy mL none 0) (q0 : Nat) (he : pre[q0]? = some (q, .inr (ci, fs))) (hcl : vwCl[ci]? = some (C, T, N)) (hlink : Cond.methodLink own index y ∈ zTw) (hdd : d' + 1 ≤ d) (hrest : (st.map fun v => v.category).sum ≤ 8) (hd : decode cc pc = .ok (.invokevirtual index, 3)) (hcs : cells + mc' ≤ mc) (hss : slots + ms' ≤ ms) (kk : ∀ u, YW E (pc + 3) lv st (wr ++ post u) (cells + mc') (slots + ms')) : YW E pc lv (.ref q :: st) (wr ++ pre) cells slots := by
  obtain ⟨p, l, e, R, s, m, args, below, meth, c, Q, D, cA, A, nL⟩ := E
  obtain ⟨hx, hb, hml, hown, hts, hI, hA, hc1, hc2, hR1, hR2⟩ := hC
  obtain ⟨m1, m2, m3, m4, m5, m6⟩ := hm
  intro H locs ls hP hD hS hl
  have hnd : va_nd ((List.range pre.length).map (wr.length + ·)) = true := (ynd _).mpr (List.pairwise_map.mpr (List.Pairwise.imp (fun {a b} h e => h (Nat.add_left_cancel e)) List.nodup_range))
  have hDc : va_D A pre := hD.sub _ hnd yw_at
  have hPc : va_P D vwCl pre H := by
    intro k q hk
    exact hP (wr.length + k) q (by rw [List.getElem?_append_right (by omega)]; simpa using hk)
  have hFc := va_free (wc := pre) hD hS hA _ yw_at
  have hrecv := va_recv hI.1 hPc hcl he
  refine va_callv (va_runV (As := []) (rest := st) ⟨hx, hb, hml, hown, hts⟩ (hct H.size) (cwV 0 hts (show GoodIn zTw (wsV own index C y _) from zgoodL (fun w hw => ?_) (zgood m1)) rfl rfl rfl m5 ⟨?_, ?_⟩) ⟨yblind, hrecv, fun U hU hW => ⟨rfl, by rw [hU], by rw [hU]; exact hPc, hDc.weaken (fun _ _ _ _ => trivial), hI.warm hW⟩⟩ rfl rfl hl.1 rfl (lv_room hrest) hd ⟨by omega, by omega⟩) hS (fun a _ h => hFc a h) hFc (fun u t H1 locs1 ht hvm hw hB hz1 hk1 hS1 => ?_)
  · simp only [List.mem_cons, List.not_mem_nil, or_false] at hw
    rcases hw with rfl | rfl | rfl | rfl
    · exact hlink
    · exact m2
    · exact m3
    · exact m4
  · show d' + 1 ≤ R.frames
    omega
  · show 8 + (mL + 11) + 64 * d' ≤ R.locals
    omega
  · obtain ⟨hP1, hD1⟩ := hB
    rw [ht] at hP1
    obtain ⟨hP2, hD2⟩ := yw_join hP hD hk1 hFc hP1 hD1
    exact kk u H1 locs1 ls hP2 hD2 hS1 hl
theorem yw_iast {E : YEnv} {cc : ByteArray} {own : String} {d mc ms pc cells slots : Nat} {lv : List (Nat × Value)} {st : List Value} {ws ws' : va_W} (hC : YCx E cc own d mc ms) {a n : Nat} {f : Nat → Int32} {i x : Int32} (q0 : Nat) (ha : ws[q0]? = some (a, .inl (ycA E 10, n, .inl f))) (hin : vp_in i n) (hd : decode cc pc = .ok (.iastore, 1)) (hws : ws.set q0 (a, .inl (ycA E 10, n, .inl (upd f i.toNatClampNeg x))) = ws') (kk : YW E (pc + 1) lv st ws' cells slots) : YW E pc lv (.int x :: .int i :: .ref a :: st) ws cells slots := by
  subst hws
  obtain ⟨p, l, e, R, s, m, args, below, meth, c, Q, D, cA, A, nL⟩ := E
  obtain ⟨hx, hb, hml, hown, hts, hI, hA, hc1, hc2, hR1, hR2⟩ := hC
  intro H locs ls hP hD hS hl
  exact va_iast hx hb hI.1 hP hD hS q0 0 ha rfl hin hd (fun H1 locs1 hP1 hD1 hS1 => kk H1 locs1 ls hP1 hD1 hS1 hl)
theorem yget {α : Type} {X m : List α} {v : α} (h : X[0]? = some v) : (X ++ m)[0]? = some v := by
  rw [List.getElem?_append_left (List.getElem?_eq_some_iff.mp h).1]
  exact h
theorem yl1 {α : Type} {a : α} : 0 < [a].length := Nat.zero_lt_one
theorem ys1 {α : Type} {a b : α} : [a].set 0 b = [b] := rfl
theorem yg1 {α : Type} {a : α} : [a][0]? = some a := rfl
theorem ylen {α : Type} {X m : List α} (h : 0 < X.length) : 0 < (X ++ m).length := by
  rw [List.length_append]
  omega
theorem yset {α : Type} {X m X' : List α} {b : α} (h : X.set 0 b = X') (hl : 0 < X.length) : (X ++ m).set 0 b = X' ++ m := by
  rw [List.set_append_left _ _ hl, h]
