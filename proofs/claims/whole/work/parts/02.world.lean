/-! THE WORLD AS ONE MEMORY. The cells that the constructors make have fixed numbers (0 .. 93); a memory M gives each cell's int fields, or an array's elements; the references between them are fixed by the numbers, but for four fields, whose M is the number itself. ad: the cells' addresses. -/
abbrev ZMem : Type := Nat → Nat → Int32
def zkL : List (Nat × Nat) := [(8, 9), (7, 17), (10, 10), (10, 10), (10, 10), (10, 10), (10, 4), (10, 4), (10, 80), (10, 80), (10, 80), (10, 200), (6, 12), (10, 10), (6, 12), (10, 10), (0, 3), (13, 12), (6, 12), (10, 10), (6, 12), (10, 10), (6, 12), (10, 10), (6, 12), (10, 10), (6, 12), (10, 10), (6, 12), (10, 10), (6, 12), (10, 10), (6, 12), (10, 10), (6, 12), (10, 10), (6, 12), (10, 10), (6, 12), (10, 10), (6, 12), (10, 10), (3, 8), (10, 400), (7, 17), (10, 10), (10, 10), (10, 10), (10, 10), (10, 4), (10, 4), (10, 80), (10, 80), (10, 80), (10, 200), (6, 12), (10, 10), (5, 9), (10, 10), (10, 10), (12, 1024), (10, 1024), (10, 1024), (2, 18), (10, 10), (10, 10), (10, 10), (10, 10), (10, 10), (10, 10), (10, 90), (4, 7), (10, 1024), (10, 1024), (10, 10), (1, 2), (11, 1024), (9, 37), (10, 73), (10, 73), (10, 876), (10, 400), (10, 140), (10, 140), (10, 1120), (10, 10), (10, 10), (10, 90), (10, 10), (10, 10), (10, 10), (10, 10), (10, 10240), (10, 2000)]
def zn : Nat := 94
/-- kind of a cell: below 10 an object of that class of vwCl and its fields; 10 int[], 11 byte[], 12 boolean[], 13 the journal's row; and how long -/
def zk (k : Nat) : Nat × Nat := zkL.getD k (99, 0)
def zfkL : List (List Nat) := [[3, 0, 0], [3, 0], [3, 4, 5, 6, 7, 8, 9, 0, 0, 0, 0, 0, 0, 0, 0, 0, 0, 0], [3, 0, 0, 0, 0, 0, 1, 15], [0, 0, 0, 0, 3, 4, 5], [0, 0, 0, 3, 4, 0, 5, 1, 1], [0, 0, 0, 0, 0, 0, 0, 0, 0, 0, 0, 3], [0, 0, 3, 4, 5, 6, 7, 8, 0, 0, 0, 0, 9, 10, 11, 0, 12], [1, 14, 16, 18, 44, 59, 65, 73, 77], [0, 3, 4, 5, 0, 6, 0, 0, 0, 0, 0, 0, 0, 7, 8, 9, 0, 0, 0, 10, 0, 0, 0, 0, 0, 0, 11, 12, 0, 0, 13, 14, 15, 16, 17, 18, 0]]
/-- kind of a field: 0 a number, 1 a cell whose number M has, o + 2 the cell o further on -/
def zfk (ci j : Nat) : Nat := (zfkL.getD ci []).getD j 0
def zwr (M : ZMem) (a j : Nat) (x : Int32) : ZMem := fun b => if b = a then upd (M a) j x else M b
def zfV (ad : Nat → Nat) (M : ZMem) (k ci j : Nat) : Value := match zfk ci j with
  | 0 => .int (M k j)
  | 1 => .ref (ad (M k j).toNatClampNeg)
  | o + 2 => .ref (ad (k + o))
def zcE (ad : Nat → Nat) (cA : Nat → ClassId) (M : ZMem) (k : Nat) : va_E :=
  if (zk k).1 < 10 then .inr ((zk k).1, (List.range (zk k).2).map (zfV ad M k (zk k).1))
  else if (zk k).1 = 13 then .inl (cA 13, (zk k).2, .inr (.inr (.inr (.inr (fun j => some (ad (k + 1 + 2 * j)))))))
  else .inl (cA (zk k).1, (zk k).2, .inl (M k))
def zpic (ad : Nat → Nat) (cA : Nat → ClassId) (M : ZMem) : va_W := (List.range zn).map (fun k => (ad k, zcE ad cA M k))
def ZA (ad : Nat → Nat) : Nat → Prop := fun q => ∃ k, k < zn ∧ q = ad k
def ztys (cA : Nat → ClassId) : List (ClassId × FieldType) := [(cA 10, .int), (cA 11, .byte), (cA 12, .boolean), (cA 13, .object "ClassOfMany$Standing")]
theorem zwr_at (M : ZMem) (a j : Nat) (x : Int32) : zwr M a j x a = upd (M a) j x := if_pos rfl
theorem zwr_ne (M : ZMem) (a j : Nat) (x : Int32) {b : Nat} (h : b ≠ a) : zwr M a j x b = M b := if_neg h
theorem zk_lt {k c n : Nat} (h : zk k = (c, n)) (hc : c < 99) : k < zn := by
  rcases Nat.lt_or_ge k zn with g | g
  · exact g
  · have h9 : zk k = (99, 0) := by
      unfold zk
      rw [List.getD_eq_getElem?_getD, List.getElem?_eq_none (show zkL.length ≤ k from g)]
      rfl
    rw [h9] at h
    cases h
    omega
theorem zpic_at {ad : Nat → Nat} {cA : Nat → ClassId} {M : ZMem} {k : Nat} (hk : k < zn) : (zpic ad cA M)[k]? = some (ad k, zcE ad cA M k) := by
  simp [zpic, hk]
theorem zpic_len {ad : Nat → Nat} {cA : Nat → ClassId} {M : ZMem} : (zpic ad cA M).length = zn := by simp [zpic]
theorem zcE_obj {ad : Nat → Nat} {cA : Nat → ClassId} {M : ZMem} {k ci N : Nat} (h : zk k = (ci, N)) (hc : ci < 10) : zcE ad cA M k = .inr (ci, (List.range N).map (zfV ad M k ci)) := by
  unfold zcE; rw [h]; exact if_pos hc
theorem zcE_row {ad : Nat → Nat} {cA : Nat → ClassId} {M : ZMem} {k t N : Nat} (h : zk k = (t, N)) (hc : ¬ t < 10) (h3 : ¬ t = 13) : zcE ad cA M k = .inl (cA t, N, .inl (M k)) := by
  unfold zcE; rw [h]; exact (if_neg hc).trans (if_neg h3)
theorem zcE_kept {ad : Nat → Nat} {cA : Nat → ClassId} {M : ZMem} {k N : Nat} (h : zk k = (13, N)) : zcE ad cA M k = .inl (cA 13, N, .inr (.inr (.inr (.inr (fun j => some (ad (k + 1 + 2 * j))))))) := by
  unfold zcE; rw [h]; rfl
theorem zcE_same {ad : Nat → Nat} {cA : Nat → ClassId} {M M' : ZMem} {k : Nat} (h : M' k = M k) : zcE ad cA M' k = zcE ad cA M k := by
  have h1 : ∀ ci j, zfV ad M' k ci j = zfV ad M k ci j := fun ci j => by unfold zfV; rw [h]
  have h2 : ∀ ci, zfV ad M' k ci = zfV ad M k ci := fun ci => funext (h1 ci)
  unfold zcE; rw [h2, h]
theorem zpic_set {ad : Nat → Nat} {cA : Nat → ClassId} {M M' : ZMem} {k : Nat} (hk : k < zn) {E : va_E} (hE : E = zcE ad cA M' k) (h : ∀ b, b ≠ k → M' b = M b) : (zpic ad cA M).set k (ad k, E) = zpic ad cA M' := by
  subst hE
  apply List.ext_getElem?
  intro j
  by_cases hj : j = k
  · subst hj
    rw [List.getElem?_set_self (by rw [zpic_len]; exact hk), zpic_at hk]
  · rw [List.getElem?_set_ne (Ne.symm hj)]
    by_cases hn : j < zn
    · rw [zpic_at hn, zpic_at hn, zcE_same (h j hj)]
    · rw [List.getElem?_eq_none (by rw [zpic_len]; omega), List.getElem?_eq_none (by rw [zpic_len]; omega)]
theorem zfs_set {ad : Nat → Nat} {M M' : ZMem} {k ci N j : Nat} {v : Value} (hv : zfV ad M' k ci j = v) (h : ∀ i, i ≠ j → M' k i = M k i) : ((List.range N).map (zfV ad M k ci)).set j v = (List.range N).map (zfV ad M' k ci) := by
  apply List.ext_getElem?
  intro i
  by_cases hi : i = j
  · subst hi
    by_cases hn : i < N
    · rw [List.getElem?_set_self (by simpa using hn)]
      simp [hn, hv]
    · rw [List.getElem?_eq_none (by simp; omega), List.getElem?_eq_none (by simp; omega)]
  · rw [List.getElem?_set_ne (Ne.symm hi)]
    have h1 : zfV ad M' k ci i = zfV ad M k ci i := by unfold zfV; rw [h i hi]
    by_cases hn : i < N
    · simp [hn, h1]
    · rw [List.getElem?_eq_none (by simp; omega), List.getElem?_eq_none (by simp; omega)]
theorem zfV_get {ad : Nat → Nat} {M : ZMem} {k ci N j : Nat} (hj : j < N) : ((List.range N).map (zfV ad M k ci))[j]? = some (zfV ad M k ci j) := by simp [hj]
theorem zpic_D {ad : Nat → Nat} {cA : Nat → ClassId} {M : ZMem} (hi : ∀ i j, i < zn → j < zn → ad i = ad j → i = j) : va_D (ZA ad) (zpic ad cA M) := by
  have key : ∀ (k : Nat) (q : Nat × va_E), (zpic ad cA M)[k]? = some q → k < zn ∧ q.1 = ad k := by
    intro k q hq
    have hk : k < zn := by
      have := (List.getElem?_eq_some_iff.mp hq).1
      rwa [zpic_len] at this
    rw [zpic_at hk] at hq
    cases hq
    exact ⟨hk, rfl⟩
  refine ⟨fun i j p q h1 h2 h => ?_, fun k q h => ?_⟩
  · obtain ⟨a1, b1⟩ := key i p h1
    obtain ⟨a2, b2⟩ := key j q h2
    exact hi i j a1 a2 (by rw [← b1, ← b2]; exact h)
  · obtain ⟨a1, b1⟩ := key k q h
    exact ⟨k, a1, b1⟩
/-! the words that every method has -/
def zTw : List Cond := lw_tbl.filter goodWord
theorem zTw_in : ∀ w ∈ zTw, w ∈ lw_tbl := fun _ h => (List.mem_filter.mp h).1
theorem zTw_good : ∀ w ∈ zTw, (w.onTables && w.keeps) = true ∨ ∃ ty, w = .arrayClass ty := fun _ h => good_of_word (List.mem_filter.mp h).2
theorem ztw {w : Cond} (i : Nat) (h : tables_1[i]? = some w) (g : goodWord w = true) : w ∈ zTw := List.mem_filter.mpr ⟨List.mem_append_right _ (List.mem_of_getElem? h), g⟩
theorem zts {w : Cond} (i : Nat) (h : (k2_sels lw_privs)[i]? = some w) (g : goodWord w = true) : w ∈ zTw := List.mem_filter.mpr ⟨List.mem_append_left _ (List.mem_of_getElem? h), g⟩
theorem zgood {y : MethodName} {cc : ByteArray} {mL : Nat} {rt : Option FieldType} (hcw : Cond.code y cc mL rt ∈ zTw) : GoodIn zTw (Cond.code y cc mL rt :: zTw) := fun w h => (List.mem_cons.mp h).elim (fun e => e ▸ ⟨hcw, zTw_good _ hcw⟩) (fun h => ⟨h, zTw_good _ h⟩)
theorem zgoodL {ws : List Cond} {l : List Cond} (h : ∀ w ∈ l, w ∈ zTw) (h2 : GoodIn zTw ws) : GoodIn zTw (l ++ ws) := fun w hw => (List.mem_append.mp hw).elim (fun e => ⟨h w e, zTw_good _ (h w e)⟩) (h2 w)

def zNest : List (String × Nat × MethodName) := [("ClassOfMany", 11, ⟨"ClassOfMany$Told", "<init>", "()V"⟩), ("ClassOfMany", 18, ⟨"ClassOfMany$Standing", "<init>", "()V"⟩), ("ClassOfMany$Journal", 17, ⟨"ClassOfMany$Standing", "<init>", "()V"⟩), ("ClassOfMany", 35, ⟨"ClassOfMany$Reader", "<init>", "()V"⟩), ("ClassOfMany$Reader", 17, ⟨"ClassOfMany$Told", "<init>", "()V"⟩), ("ClassOfMany$Reader", 24, ⟨"ClassOfMany$Standing", "<init>", "()V"⟩), ("ClassOfMany", 42, ⟨"ClassOfMany$Splitter", "<init>", "()V"⟩), ("ClassOfMany", 49, ⟨"ClassOfMany$Payer", "<init>", "()V"⟩), ("ClassOfMany", 56, ⟨"ClassOfMany$Resting", "<init>", "()V"⟩), ("ClassOfMany", 63, ⟨"ClassOfMany$Page", "<init>", "()V"⟩), ("ClassOfMany$Reader", 114, ⟨"ClassOfMany", "wordOf", "(I)Ljava/lang/String;"⟩), ("ClassOfMany$Reader", 129, ⟨"ClassOfMany", "has", "(II)Z"⟩), ("ClassOfMany$Mail", 38, ⟨"ClassOfMany", "has", "(II)Z"⟩), ("ClassOfMany$Splitter", 74, ⟨"ClassOfMany", "has", "(II)Z"⟩), ("ClassOfMany$Payer", 119, ⟨"ClassOfMany", "has", "(II)Z"⟩), ("ClassOfMany$Payer", 52, ⟨"ClassOfMany", "netOf", "(LClassOfMany$Told;II)I"⟩), ("ClassOfMany$Resting", 75, ⟨"ClassOfMany", "has", "(II)Z"⟩)]
def zStr : List String := ["fund", "fee", "least", "till", "period", "channel", "member", "conflict", "by", ";", " by", "paid", "next"]
def zLen : List Nat := [4, 3, 5, 4, 6, 7, 6, 8, 2, 1, 3, 4, 4]
def zByt : List (List Int32) := [[102, 117, 110, 100], [102, 101, 101], [108, 101, 97, 115, 116], [116, 105, 108, 108], [112, 101, 114, 105, 111, 100], [99, 104, 97, 110, 110, 101, 108], [109, 101, 109, 98, 101, 114], [99, 111, 110, 102, 108, 105, 99, 116], [98, 121], [59], [32, 98, 121], [112, 97, 105, 100], [110, 101, 120, 116]]
def zLdc : List (String × Nat × String × Nat) := [("ClassOfMany", 433, "fund", 0), ("ClassOfMany", 434, "fee", 1), ("ClassOfMany", 435, "least", 2), ("ClassOfMany", 436, "till", 3), ("ClassOfMany", 437, "period", 4), ("ClassOfMany", 439, "channel", 5), ("ClassOfMany", 441, "member", 6), ("ClassOfMany", 443, "conflict", 7), ("ClassOfMany$Reader", 163, "by", 8), ("ClassOfMany$Page", 27, ";", 9), ("ClassOfMany", 422, " by", 10), ("ClassOfMany", 424, ";", 9), ("ClassOfMany", 426, "paid", 11), ("ClassOfMany", 428, "next", 12)]
def zNs : Nat := 13
/-- what a state says beside the cells: links between nest mates, the String constants (number i at ad (1000 + i), its bytes at ad (2000 + i)), two statics -/
def ZSx (ad : Nat → Nat) (U : State) (H : Heap) : Prop := (∀ q ∈ zNest, va_Nw (.methodLinkNest q.1 q.2.1 q.2.2 "ClassOfMany") U) ∧ vk_S zNs zLen zByt (fun i => ad (1000 + i)) (fun i => ad (2000 + i)) (ZA ad) U H ∧ (∀ q ∈ zLdc, vk_R q.1 q.2.1 q.2.2.1 (ad (1000 + q.2.2.2)) U) ∧ va_Z "java/lang/String" "COMPACT_STRINGS" "Z" (.int 1) (ZA ad) U H ∧ va_Zq "jdk/internal/util/Preconditions" "SIOOBE_FORMATTER" "Ljava/util/function/BiFunction;" (ZA ad) U H
theorem ZSx.go {ad : Nat → Nat} {s U : State} {H H1 : Heap} (h : ZSx ad s H) (hW : s.WarmedH U.vm) (hq : ∀ a : Nat, a < H.size → ¬ ZA ad a → H1[a]? = H[a]?) : ZSx ad U H1 :=
  ⟨fun q hq => (h.1 q hq).warmM hW, (h.2.1.moved hW.alike).kept hq, fun q hq => (h.2.2.1 q hq).warm hW, (h.2.2.2.1.moved hW.alike).kept hq, (h.2.2.2.2.elim (fun z => Or.inl ((z.moved hW.alike).kept hq)) (fun ⟨t, z⟩ => Or.inr ⟨t, (z.moved hW.alike).kept hq⟩))⟩
theorem ZSx.same {ad : Nat → Nat} {u U : State} {H : Heap} (h : ZSx ad u H) (hv : U.vm = u.vm) : ZSx ad U H := by
  have ha : u.vm.Alike U.vm := by rw [hv]; exact Vm.Alike.refl _
  refine ⟨fun q hq => ?_, h.2.1.moved ha, fun q hq => (h.2.2.1 q hq).same hv, h.2.2.2.1.moved ha, h.2.2.2.2.elim (fun z => Or.inl (z.moved ha)) (fun ⟨t, z⟩ => Or.inr ⟨t, z.moved ha⟩)⟩
  exact va_tabs rfl hv.symm (h.1 q hq)
/-! the walk: E is all that stays while a method runs -/
abbrev ZEnv : Type := Program × Launch × Env × Room × State × MethodId × Array Value × List Frame × Method × Code × Nat × Nat × (State → Prop) × va_G × (Nat → Nat) × (Nat → ClassId) × Nat
abbrev zL (E : ZEnv) : Launch := E.2.1
abbrev zD (E : ZEnv) : va_G := E.2.2.2.2.2.2.2.2.2.2.2.2.2.1
abbrev zad (E : ZEnv) : Nat → Nat := E.2.2.2.2.2.2.2.2.2.2.2.2.2.2.1
abbrev zcA (E : ZEnv) : Nat → ClassId := E.2.2.2.2.2.2.2.2.2.2.2.2.2.2.2.1
def ZW : ZEnv → Nat → List (Nat × Value) → List Value → ZMem → Prop
  | (p, l, e, R, s, m, args, below, meth, c, cells, slots, Q, D, ad, cA, nL), pc, lv, st, M => ∀ (H : Heap) (locs : List Loc) (ls : Array Slot), va_P D vwCl (zpic ad cA M) H → va_S (ZA ad) s.heap H locs → lv_has ls nL lv → W p l e R s m args below meth c H locs cells slots Q (F0 m pc ls st)
def zrm (d : Nat) : Room := { frames := d, cells := 0, slots := 0, locals := 64 * d }
def ZCx : ZEnv → ByteArray → String → Nat → Prop
  | (p, l, e, R, s, m, args, below, meth, c, cells, slots, Q, D, ad, cA, nL), cc, own, d => p.tables.exec = Jvm.exec ∧ c.code = cc ∧ c.maxLocals = nL ∧ s.vm.findClass own = some m.cls ∧ (∀ w ∈ zTw, w.before args s = true) ∧ va_K D vwCl (ztys cA) s ∧ (∀ i j, i < zn → j < zn → ad i = ad j → i = j) ∧ ZSx ad s s.heap ∧ cells ≤ R.cells ∧ slots ≤ R.slots ∧ d ≤ R.frames ∧ 64 * d ≤ R.locals
def zok (E : ZEnv) (i : Nat) : Prop := i < E.2.2.2.2.2.2.2.2.2.2.2.2.2.2.2.2
/-- a method's end -/
def ZQ (D : va_G) (ad : Nat → Nat) (cA : Nat → ClassId) (r : Option Value) (M : ZMem) : Array Value → State → Outcome → State → Prop := fun _ st oc t => oc = .returned r ∧ va_P D vwCl (zpic ad cA M) t.heap ∧ va_F (ZA ad) st t
def ZRet : ZEnv → Option FieldType → Option Value → ZMem → Prop
  | (p, l, e, R, s, m, args, below, meth, c, cells, slots, Q, D, ad, cA, nL), rt, r, M => meth.sig.returnType = rt ∧ meth.locks = false ∧ Q = MQ below (ZQ D ad cA r M) args s cells slots (ZA ad)
/-- a method's contract -/
def ZCt (l : Launch) (D : va_G) (ad : Nat → Nat) (cA : Nat → ClassId) (y : MethodName) (cc : ByteArray) (mL : Nat) (rt : Option FieldType) (d : Nat) (av : List Value) (M : ZMem) (r : Option Value) (M' : ZMem) : Prop :=
  (∀ i j, i < zn → j < zn → ad i = ad j → i = j) → Met l y (Cond.code y cc mL rt :: zTw) (zrm d) (va_Pc av (fun U => va_P D vwCl (zpic ad cA M) U.heap ∧ va_K D vwCl (ztys cA) U ∧ ZSx ad U U.heap)) (ZQ D ad cA r M') 0 0 (ZA ad)
theorem zct {l : Launch} {D : va_G} {ad : Nat → Nat} {cA : Nat → ClassId} {y : MethodName} {cc : ByteArray} {mL : Nat} {rt : Option FieldType} {d : Nat} {av : List Value} {M : ZMem} {r : Option Value} {M' : ZMem} (hy : plainName y.cls = true) (hn : (lg_sl av).length ≤ mL) {lv : List (Nat × Value)} (hlv : lv_args 0 av = lv)
    (body : ∀ E : ZEnv, zL E = l → zD E = D → zad E = ad → zcA E = cA → E.2.2.2.2.2.2.2.2.2.2.2.2.2.2.2.2 = mL → ZCx E cc y.cls d → ZRet E rt r M' → ZW E 0 lv [] M) : ZCt l D ad cA y cc mL rt d av M r M' := by
  intro hin
  subst hlv
  refine Met.ofW (cc := cc) (maxL := mL) (ret := rt) hy rfl ?_
  intro p e s m args below meth c s₁ B hml hv
  obtain ⟨rfl, hP, hK, hX⟩ := hv
  have hts := atoms_spec (ws := Cond.code y cc mL rt :: zTw) B.pre
  have hown : s.vm.findClass y.cls = some m.cls := findClass_of_methodNamed B.named
  have hl := lv_entry av (n := mL) hn
  rw [lg_entry_eq]
  exact body (p, l, e, _, s, m, av.toArray, below, meth, c, 0, 0, MQ below (ZQ D ad cA r M') av.toArray s 0 0 (ZA ad), D, ad, cA, mL) rfl rfl rfl rfl rfl
    ⟨B.exec, B.bytes, hml, hown, fun w hw => hts w (List.mem_cons_of_mem _ hw), hK, hin, hX, Nat.zero_le _, Nat.zero_le _, Nat.le_refl _, Nat.le_refl _⟩ ⟨B.returns, B.notSynchronized, rfl⟩ s.heap [] _ hP va_S.rf hl

