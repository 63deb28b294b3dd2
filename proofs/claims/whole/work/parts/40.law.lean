def R_law : String := "ClassOfManyLaw"
def lw_P (b : Addr) (xs : List Int32) (args : Array Value) (s : State) : Prop := args = #[.ref b] ∧ s.IntsAt b xs ∧ xs.length ≤ 3072 ∧ (Jvm.Cond.and given_1 narrow_1).before args s = true
def lw_Q (_ : Array Value) (s : State) (o : Outcome) (t : State) : Prop := o = .returned (some (.int 1)) ∧ Framed s o t [] 600000 7302250
def lw_Z (below : List Frame) (a : Array Value) (s : State) : State → Prop := fun t => ∃ o, t.status = .running ∧ Ended t below o ∧ lw_Q a s o t
/-- the law's own end, with 1 on the stack, nothing written that was there before, its room as the claim has it -/
theorem lw_ret {p : Program} {l : Launch} {e : Env} {s : State} {m : MethodId} {below : List Frame} {meth : Method} {c : Code} {b : Nat} (hx : p.tables.exec = Jvm.exec) (hb : c.code = code) (hr : meth.sig.returnType = ret) (hlocks : meth.locks = false) {pc : Nat} {H : Heap} {ls : Array Slot} (hdg : decode code pc = .ok (.ireturn, 1)) : W p l e room_1 s m #[Value.ref b] below meth c H [] 600000 7302250 (lw_Z below #[Value.ref b] s) (F0 m pc ls [.int 1]) := by
  intro T hT X
  obtain ⟨fs, hret, hrun, hended, hW, hframe⟩ := X.leave (v := some (.int 1)) (hlocks := hlocks) (fun h => by rw [hr] at h; cases h)
  have hmeth' : T.vm.method? m = some meth := X.method'
  refine ⟨T.setFrames fs, ?_, .returned (some (.int 1)), hrun, hended, rfl, ⟨_, rfl⟩, hW, hframe⟩
  jvm_step X.here [X.here.top, hx, hb, hdg, hmeth', hr, ret, narrow_b1]
  (try refine ⟨rfl, ?_⟩); (try refine ⟨rfl, ?_⟩)
  first | (intro acts; rw [hret _ acts rfl rfl rfl]) | rw [hret _ _ rfl rfl rfl]
  exact Steps.refl _
/-- what holds at the law's entry: the machine, the code, the tables' words (any of lw_tbl by 'hts w (by decide +kernel)'), the script of L ints xs at the cell b, what the Statement gives of the start (any of its parts by flat_of_before) -/
def lw_At (p : Program) (s : State) (m : MethodId) (meth : Method) (c : Code) (b L : Nat) (xs : Nat → Int32) : Prop :=
  p.tables.exec = Jvm.exec ∧ c.code = code ∧ meth.sig.returnType = ret ∧ c.maxLocals = 4 ∧ s.vm.findClass R_law = some m.cls ∧ (∀ w ∈ lw_tbl, w.before #[Value.ref b] s = true) ∧ va_X b L xs s s.heap ∧ b < s.heap.size ∧ meth.locks = false ∧ (Jvm.Cond.and given_1 narrow_1).before #[Value.ref b] s = true
set_option maxRecDepth 20000 in
theorem kw_2_196 : Cond.methodLink "ClassOfManyLaw" 13 ⟨"ClassOfMany", "feed", "(IIIII)I"⟩ ∈ zTw := zt2 196 (by rfl) rfl
set_option maxRecDepth 20000 in
theorem kw_2_204 : Cond.methodLink "ClassOfManyLaw" 18 ⟨"ClassOfMany", "back", "(I)I"⟩ ∈ zTw := zt2 204 (by rfl) rfl
set_option maxRecDepth 20000 in
theorem kw_2_208 : Cond.methodLink "ClassOfManyLaw" 23 ⟨"ClassOfMany", "text", "()I"⟩ ∈ zTw := zt2 208 (by rfl) rfl
set_option maxRecDepth 20000 in
theorem kw_3_149 : Cond.methodLink "ClassOfManyLaw" 28 ⟨"ClassOfMany", "days", "(I)I"⟩ ∈ zTw := zt3 149 (by rfl) rfl
set_option maxRecDepth 20000 in
theorem kw_3_165 : Cond.methodLink "ClassOfManyLaw" 32 ⟨"ClassOfMany", "order", "(I)I"⟩ ∈ zTw := zt3 165 (by rfl) rfl
set_option maxRecDepth 20000 in
theorem kw_3_182 : Cond.methodLink "ClassOfManyLaw" 36 ⟨"ClassOfMany", "send", "()I"⟩ ∈ zTw := zt3 182 (by rfl) rfl
set_option maxRecDepth 20000 in
theorem kw_3_193 : Cond.methodLink "ClassOfManyLaw" 40 ⟨"ClassOfMany", "out", "(I)I"⟩ ∈ zTw := zt3 193 (by rfl) rfl
set_option maxRecDepth 20000 in
theorem kw_3_219 : Cond.methodLink "ClassOfManyLaw" 44 ⟨"ClassOfMany", "file", "(I)I"⟩ ∈ zTw := zt3 219 (by rfl) rfl
set_option maxRecDepth 20000 in
theorem kw_3_223 : Cond.methodLink "ClassOfManyLaw" 48 ⟨"ClassOfMany", "lazy", "(IZ)Z"⟩ ∈ zTw := zt3 223 (by rfl) rfl
set_option maxRecDepth 20000 in
theorem kw_3_227 : Cond.methodLink "ClassOfManyLaw" 53 ⟨"ClassOfMany", "fund", "(I)I"⟩ ∈ zTw := zt3 227 (by rfl) rfl
set_option maxRecDepth 20000 in
theorem kw_3_235 : Cond.methodLink "ClassOfManyLaw" 57 ⟨"ClassOfMany", "rule", "(I)I"⟩ ∈ zTw := zt3 235 (by rfl) rfl
set_option maxRecDepth 20000 in
theorem kw_4_108 : Cond.methodLink "ClassOfManyLaw" 102 ⟨"ClassOfMany", "classOf", "(I)I"⟩ ∈ zTw := zt4 108 (by rfl) rfl
set_option maxRecDepth 20000 in
theorem kw_4_116 : Cond.methodLink "ClassOfManyLaw" 106 ⟨"ClassOfMany", "classBits", "(I)I"⟩ ∈ zTw := zt4 116 (by rfl) rfl
set_option maxRecDepth 20000 in
theorem kw_4_124 : Cond.methodLink "ClassOfManyLaw" 110 ⟨"ClassOfMany", "splits", "(I)I"⟩ ∈ zTw := zt4 124 (by rfl) rfl
set_option maxRecDepth 20000 in
theorem kw_4_141 : Cond.methodLink "ClassOfManyLaw" 114 ⟨"ClassOfMany", "feud", "()I"⟩ ∈ zTw := zt4 141 (by rfl) rfl
set_option maxRecDepth 20000 in
theorem kw_4_154 : Cond.methodLink "ClassOfManyLaw" 118 ⟨"ClassOfMany", "settles", "()I"⟩ ∈ zTw := zt4 154 (by rfl) rfl
set_option maxRecDepth 20000 in
theorem kw_4_162 : Cond.methodLink "ClassOfManyLaw" 122 ⟨"ClassOfMany", "lead", "(I)I"⟩ ∈ zTw := zt4 162 (by rfl) rfl
set_option maxRecDepth 20000 in
theorem kw_4_166 : Cond.methodLink "ClassOfManyLaw" 126 ⟨"ClassOfMany", "costFor", "(I)I"⟩ ∈ zTw := zt4 166 (by rfl) rfl
set_option maxRecDepth 20000 in
theorem kw_4_170 : Cond.methodLink "ClassOfManyLaw" 130 ⟨"ClassOfMany", "reachFor", "(II)I"⟩ ∈ zTw := zt4 170 (by rfl) rfl
set_option maxRecDepth 20000 in
theorem kw_4_174 : Cond.methodLink "ClassOfManyLaw" 134 ⟨"ClassOfMany", "cheapest", "(II)I"⟩ ∈ zTw := zt4 174 (by rfl) rfl
set_option maxRecDepth 20000 in
theorem kw_4_183 : Cond.methodLink "ClassOfManyLaw" 138 ⟨"ClassOfMany", "reachedBy", "(I)I"⟩ ∈ zTw := zt4 183 (by rfl) rfl
set_option maxRecDepth 20000 in
theorem kw_4_187 : Cond.methodLink "ClassOfManyLaw" 142 ⟨"ClassOfMany", "fundOf", "(I)I"⟩ ∈ zTw := zt4 187 (by rfl) rfl
set_option maxRecDepth 20000 in
theorem kw_4_2 : Cond.methodLink "ClassOfManyLaw" 61 ⟨"ClassOfMany", "period", "(II)I"⟩ ∈ zTw := zt4 2 (by rfl) rfl
set_option maxRecDepth 20000 in
theorem kw_4_22 : Cond.methodLink "ClassOfManyLaw" 66 ⟨"ClassOfMany", "quarrel", "(II)I"⟩ ∈ zTw := zt4 22 (by rfl) rfl
set_option maxRecDepth 20000 in
theorem kw_4_31 : Cond.methodLink "ClassOfManyLaw" 70 ⟨"ClassOfMany", "undo", "()I"⟩ ∈ zTw := zt4 31 (by rfl) rfl
set_option maxRecDepth 20000 in
theorem kw_4_39 : Cond.methodLink "ClassOfManyLaw" 74 ⟨"ClassOfMany", "member", "(II)I"⟩ ∈ zTw := zt4 39 (by rfl) rfl
set_option maxRecDepth 20000 in
theorem kw_4_46 : Cond.methodLink "ClassOfManyLaw" 78 ⟨"ClassOfMany", "channel", "(II)I"⟩ ∈ zTw := zt4 46 (by rfl) rfl
set_option maxRecDepth 20000 in
theorem kw_4_54 : Cond.methodLink "ClassOfManyLaw" 82 ⟨"ClassOfMany", "line", "(II)I"⟩ ∈ zTw := zt4 54 (by rfl) rfl
set_option maxRecDepth 20000 in
theorem kw_4_58 : Cond.methodLink "ClassOfManyLaw" 86 ⟨"ClassOfMany", "ranked", "(I)I"⟩ ∈ zTw := zt4 58 (by rfl) rfl
set_option maxRecDepth 20000 in
theorem kw_4_66 : Cond.methodLink "ClassOfManyLaw" 90 ⟨"ClassOfMany", "together", "(II)I"⟩ ∈ zTw := zt4 66 (by rfl) rfl
set_option maxRecDepth 20000 in
theorem kw_4_72 : Cond.methodLink "ClassOfManyLaw" 94 ⟨"ClassOfMany", "busiest", "(I)I"⟩ ∈ zTw := zt4 72 (by rfl) rfl
set_option maxRecDepth 20000 in
theorem kw_4_80 : Cond.methodLink "ClassOfManyLaw" 98 ⟨"ClassOfMany", "classes", "()I"⟩ ∈ zTw := zt4 80 (by rfl) rfl
set_option maxRecDepth 20000 in
theorem kw_5_103 : Cond.methodLink "ClassOfManyLaw" 194 ⟨"ClassOfMany", "rests", "(III)I"⟩ ∈ zTw := zt5 103 (by rfl) rfl
set_option maxRecDepth 20000 in
theorem kw_5_11 : Cond.methodLink "ClassOfManyLaw" 146 ⟨"ClassOfMany", "pot", "(I)I"⟩ ∈ zTw := zt5 11 (by rfl) rfl
set_option maxRecDepth 20000 in
theorem kw_5_127 : Cond.methodLink "ClassOfManyLaw" 199 ⟨"ClassOfMany", "sample", "(II)I"⟩ ∈ zTw := zt5 127 (by rfl) rfl
set_option maxRecDepth 20000 in
theorem kw_5_136 : Cond.methodLink "ClassOfManyLaw" 203 ⟨"ClassOfMany", "estimate", "(I)I"⟩ ∈ zTw := zt5 136 (by rfl) rfl
set_option maxRecDepth 20000 in
theorem kw_5_144 : Cond.methodLink "ClassOfManyLaw" 207 ⟨"ClassOfMany", "nearest", "(II)I"⟩ ∈ zTw := zt5 144 (by rfl) rfl
set_option maxRecDepth 20000 in
theorem kw_5_15 : Cond.methodLink "ClassOfManyLaw" 150 ⟨"ClassOfMany", "paid", "(I)I"⟩ ∈ zTw := zt5 15 (by rfl) rfl
set_option maxRecDepth 20000 in
theorem kw_5_151 : Cond.methodLink "ClassOfManyLaw" 211 ⟨"ClassOfMany", "within", "(II)I"⟩ ∈ zTw := zt5 151 (by rfl) rfl
set_option maxRecDepth 20000 in
theorem kw_5_155 : Cond.methodLink "ClassOfManyLaw" 215 ⟨"ClassOfMany", "spell", "(I)I"⟩ ∈ zTw := zt5 155 (by rfl) rfl
set_option maxRecDepth 20000 in
theorem kw_5_19 : Cond.methodLink "ClassOfManyLaw" 154 ⟨"ClassOfMany", "had", "(II)I"⟩ ∈ zTw := zt5 19 (by rfl) rfl
set_option maxRecDepth 20000 in
theorem kw_5_203 : Cond.methodLink "ClassOfManyLaw" 219 ⟨"ClassOfMany", "report", "(I)I"⟩ ∈ zTw := zt5 203 (by rfl) rfl
set_option maxRecDepth 20000 in
theorem kw_5_209 : Cond.methodLink "ClassOfManyLaw" 223 ⟨"ClassOfMany", "count", "(I)I"⟩ ∈ zTw := zt5 209 (by rfl) rfl
set_option maxRecDepth 20000 in
theorem kw_5_23 : Cond.methodLink "ClassOfManyLaw" 158 ⟨"ClassOfMany", "share", "()I"⟩ ∈ zTw := zt5 23 (by rfl) rfl
set_option maxRecDepth 20000 in
theorem kw_5_27 : Cond.methodLink "ClassOfManyLaw" 162 ⟨"ClassOfMany", "votes", "(I)I"⟩ ∈ zTw := zt5 27 (by rfl) rfl
set_option maxRecDepth 20000 in
theorem kw_5_34 : Cond.methodLink "ClassOfManyLaw" 166 ⟨"ClassOfMany", "wereOut", "(II)I"⟩ ∈ zTw := zt5 34 (by rfl) rfl
set_option maxRecDepth 20000 in
theorem kw_5_42 : Cond.methodLink "ClassOfManyLaw" 170 ⟨"ClassOfMany", "wereFund", "(II)I"⟩ ∈ zTw := zt5 42 (by rfl) rfl
set_option maxRecDepth 20000 in
theorem kw_5_46 : Cond.methodLink "ClassOfManyLaw" 174 ⟨"ClassOfMany", "wereRule", "(II)I"⟩ ∈ zTw := zt5 46 (by rfl) rfl
set_option maxRecDepth 20000 in
theorem kw_5_54 : Cond.methodLink "ClassOfManyLaw" 178 ⟨"ClassOfMany", "ruleFor", "(I)I"⟩ ∈ zTw := zt5 54 (by rfl) rfl
set_option maxRecDepth 20000 in
theorem kw_5_58 : Cond.methodLink "ClassOfManyLaw" 182 ⟨"ClassOfMany", "leaver", "(I)I"⟩ ∈ zTw := zt5 58 (by rfl) rfl
set_option maxRecDepth 20000 in
theorem kw_5_62 : Cond.methodLink "ClassOfManyLaw" 186 ⟨"ClassOfMany", "alone", "(I)I"⟩ ∈ zTw := zt5 62 (by rfl) rfl
set_option maxRecDepth 20000 in
theorem kw_5_70 : Cond.methodLink "ClassOfManyLaw" 190 ⟨"ClassOfMany", "needs", "()I"⟩ ∈ zTw := zt5 70 (by rfl) rfl
set_option maxRecDepth 20000 in
theorem kw_6_102 : Cond.methodLink "ClassOfManyLaw" 22 ⟨"ClassOfManyModel", "back", "(I)I"⟩ ∈ zTw := zt6 102 (by rfl) rfl
set_option maxRecDepth 20000 in
theorem kw_6_109 : Cond.methodLink "ClassOfManyLaw" 27 ⟨"ClassOfManyModel", "text", "()I"⟩ ∈ zTw := zt6 109 (by rfl) rfl
set_option maxRecDepth 20000 in
theorem kw_6_201 : Cond.methodLink "ClassOfManyLaw" 31 ⟨"ClassOfManyModel", "days", "(I)I"⟩ ∈ zTw := zt6 201 (by rfl) rfl
set_option maxRecDepth 20000 in
theorem kw_6_213 : Cond.methodLink "ClassOfManyLaw" 35 ⟨"ClassOfManyModel", "order", "(I)I"⟩ ∈ zTw := zt6 213 (by rfl) rfl
set_option maxRecDepth 20000 in
theorem kw_6_229 : Cond.methodLink "ClassOfManyLaw" 39 ⟨"ClassOfManyModel", "send", "()I"⟩ ∈ zTw := zt6 229 (by rfl) rfl
set_option maxRecDepth 20000 in
theorem kw_6_98 : Cond.methodLink "ClassOfManyLaw" 17 ⟨"ClassOfManyModel", "feed", "(IIIII)I"⟩ ∈ zTw := zt6 98 (by rfl) rfl
set_option maxRecDepth 20000 in
theorem kw_7_1 : Cond.methodLink "ClassOfManyLaw" 43 ⟨"ClassOfManyModel", "out", "(I)I"⟩ ∈ zTw := zt7 1 (by rfl) rfl
set_option maxRecDepth 20000 in
theorem kw_7_119 : Cond.methodLink "ClassOfManyLaw" 105 ⟨"ClassOfManyModel", "classOf", "(I)I"⟩ ∈ zTw := zt7 119 (by rfl) rfl
set_option maxRecDepth 20000 in
theorem kw_7_123 : Cond.methodLink "ClassOfManyLaw" 109 ⟨"ClassOfManyModel", "classBits", "(I)I"⟩ ∈ zTw := zt7 123 (by rfl) rfl
set_option maxRecDepth 20000 in
theorem kw_7_131 : Cond.methodLink "ClassOfManyLaw" 113 ⟨"ClassOfManyModel", "splits", "(I)I"⟩ ∈ zTw := zt7 131 (by rfl) rfl
set_option maxRecDepth 20000 in
theorem kw_7_142 : Cond.methodLink "ClassOfManyLaw" 117 ⟨"ClassOfManyModel", "feud", "()I"⟩ ∈ zTw := zt7 142 (by rfl) rfl
set_option maxRecDepth 20000 in
theorem kw_7_146 : Cond.methodLink "ClassOfManyLaw" 121 ⟨"ClassOfManyModel", "settles", "()I"⟩ ∈ zTw := zt7 146 (by rfl) rfl
set_option maxRecDepth 20000 in
theorem kw_7_150 : Cond.methodLink "ClassOfManyLaw" 125 ⟨"ClassOfManyModel", "lead", "(I)I"⟩ ∈ zTw := zt7 150 (by rfl) rfl
set_option maxRecDepth 20000 in
theorem kw_7_154 : Cond.methodLink "ClassOfManyLaw" 129 ⟨"ClassOfManyModel", "costFor", "(I)I"⟩ ∈ zTw := zt7 154 (by rfl) rfl
set_option maxRecDepth 20000 in
theorem kw_7_158 : Cond.methodLink "ClassOfManyLaw" 133 ⟨"ClassOfManyModel", "reachFor", "(II)I"⟩ ∈ zTw := zt7 158 (by rfl) rfl
set_option maxRecDepth 20000 in
theorem kw_7_162 : Cond.methodLink "ClassOfManyLaw" 137 ⟨"ClassOfManyModel", "cheapest", "(II)I"⟩ ∈ zTw := zt7 162 (by rfl) rfl
set_option maxRecDepth 20000 in
theorem kw_7_170 : Cond.methodLink "ClassOfManyLaw" 141 ⟨"ClassOfManyModel", "reachedBy", "(I)I"⟩ ∈ zTw := zt7 170 (by rfl) rfl
set_option maxRecDepth 20000 in
theorem kw_7_174 : Cond.methodLink "ClassOfManyLaw" 145 ⟨"ClassOfManyModel", "fundOf", "(I)I"⟩ ∈ zTw := zt7 174 (by rfl) rfl
set_option maxRecDepth 20000 in
theorem kw_7_218 : Cond.methodLink "ClassOfManyLaw" 149 ⟨"ClassOfManyModel", "pot", "(I)I"⟩ ∈ zTw := zt7 218 (by rfl) rfl
set_option maxRecDepth 20000 in
theorem kw_7_222 : Cond.methodLink "ClassOfManyLaw" 153 ⟨"ClassOfManyModel", "paid", "(I)I"⟩ ∈ zTw := zt7 222 (by rfl) rfl
set_option maxRecDepth 20000 in
theorem kw_7_226 : Cond.methodLink "ClassOfManyLaw" 157 ⟨"ClassOfManyModel", "had", "(II)I"⟩ ∈ zTw := zt7 226 (by rfl) rfl
set_option maxRecDepth 20000 in
theorem kw_7_230 : Cond.methodLink "ClassOfManyLaw" 161 ⟨"ClassOfManyModel", "share", "()I"⟩ ∈ zTw := zt7 230 (by rfl) rfl
set_option maxRecDepth 20000 in
theorem kw_7_235 : Cond.methodLink "ClassOfManyLaw" 165 ⟨"ClassOfManyModel", "votes", "(I)I"⟩ ∈ zTw := zt7 235 (by rfl) rfl
set_option maxRecDepth 20000 in
theorem kw_7_239 : Cond.methodLink "ClassOfManyLaw" 169 ⟨"ClassOfManyModel", "wereOut", "(II)I"⟩ ∈ zTw := zt7 239 (by rfl) rfl
set_option maxRecDepth 20000 in
theorem kw_7_24 : Cond.methodLink "ClassOfManyLaw" 47 ⟨"ClassOfManyModel", "file", "(I)I"⟩ ∈ zTw := zt7 24 (by rfl) rfl
set_option maxRecDepth 20000 in
theorem kw_7_28 : Cond.methodLink "ClassOfManyLaw" 52 ⟨"ClassOfManyModel", "lazy", "(IZ)Z"⟩ ∈ zTw := zt7 28 (by rfl) rfl
set_option maxRecDepth 20000 in
theorem kw_7_32 : Cond.methodLink "ClassOfManyLaw" 56 ⟨"ClassOfManyModel", "fund", "(I)I"⟩ ∈ zTw := zt7 32 (by rfl) rfl
set_option maxRecDepth 20000 in
theorem kw_7_36 : Cond.methodLink "ClassOfManyLaw" 60 ⟨"ClassOfManyModel", "rule", "(I)I"⟩ ∈ zTw := zt7 36 (by rfl) rfl
set_option maxRecDepth 20000 in
theorem kw_7_40 : Cond.methodLink "ClassOfManyLaw" 65 ⟨"ClassOfManyModel", "period", "(II)I"⟩ ∈ zTw := zt7 40 (by rfl) rfl
set_option maxRecDepth 20000 in
theorem kw_7_59 : Cond.methodLink "ClassOfManyLaw" 69 ⟨"ClassOfManyModel", "quarrel", "(II)I"⟩ ∈ zTw := zt7 59 (by rfl) rfl
set_option maxRecDepth 20000 in
theorem kw_7_67 : Cond.methodLink "ClassOfManyLaw" 73 ⟨"ClassOfManyModel", "undo", "()I"⟩ ∈ zTw := zt7 67 (by rfl) rfl
set_option maxRecDepth 20000 in
theorem kw_7_71 : Cond.methodLink "ClassOfManyLaw" 77 ⟨"ClassOfManyModel", "member", "(II)I"⟩ ∈ zTw := zt7 71 (by rfl) rfl
set_option maxRecDepth 20000 in
theorem kw_7_75 : Cond.methodLink "ClassOfManyLaw" 81 ⟨"ClassOfManyModel", "channel", "(II)I"⟩ ∈ zTw := zt7 75 (by rfl) rfl
set_option maxRecDepth 20000 in
theorem kw_7_79 : Cond.methodLink "ClassOfManyLaw" 85 ⟨"ClassOfManyModel", "line", "(II)I"⟩ ∈ zTw := zt7 79 (by rfl) rfl
set_option maxRecDepth 20000 in
theorem kw_7_83 : Cond.methodLink "ClassOfManyLaw" 89 ⟨"ClassOfManyModel", "ranked", "(I)I"⟩ ∈ zTw := zt7 83 (by rfl) rfl
set_option maxRecDepth 20000 in
theorem kw_7_87 : Cond.methodLink "ClassOfManyLaw" 93 ⟨"ClassOfManyModel", "together", "(II)I"⟩ ∈ zTw := zt7 87 (by rfl) rfl
set_option maxRecDepth 20000 in
theorem kw_7_95 : Cond.methodLink "ClassOfManyLaw" 97 ⟨"ClassOfManyModel", "busiest", "(I)I"⟩ ∈ zTw := zt7 95 (by rfl) rfl
set_option maxRecDepth 20000 in
theorem kw_7_99 : Cond.methodLink "ClassOfManyLaw" 101 ⟨"ClassOfManyModel", "classes", "()I"⟩ ∈ zTw := zt7 99 (by rfl) rfl
set_option maxRecDepth 20000 in
theorem kw_8_100 : Cond.methodLink "ClassOfManyLaw" 222 ⟨"ClassOfManyModel", "report", "(I)I"⟩ ∈ zTw := zt8 100 (by rfl) rfl
set_option maxRecDepth 20000 in
theorem kw_8_106 : Cond.methodLink "ClassOfManyLaw" 226 ⟨"ClassOfManyModel", "count", "(I)I"⟩ ∈ zTw := zt8 106 (by rfl) rfl
set_option maxRecDepth 20000 in
theorem kw_8_11 : Cond.methodLink "ClassOfManyLaw" 177 ⟨"ClassOfManyModel", "wereRule", "(II)I"⟩ ∈ zTw := zt8 11 (by rfl) rfl
set_option maxRecDepth 20000 in
theorem kw_8_19 : Cond.methodLink "ClassOfManyLaw" 181 ⟨"ClassOfManyModel", "ruleFor", "(I)I"⟩ ∈ zTw := zt8 19 (by rfl) rfl
set_option maxRecDepth 20000 in
theorem kw_8_23 : Cond.methodLink "ClassOfManyLaw" 185 ⟨"ClassOfManyModel", "leaver", "(I)I"⟩ ∈ zTw := zt8 23 (by rfl) rfl
set_option maxRecDepth 20000 in
theorem kw_8_27 : Cond.methodLink "ClassOfManyLaw" 189 ⟨"ClassOfManyModel", "alone", "(I)I"⟩ ∈ zTw := zt8 27 (by rfl) rfl
set_option maxRecDepth 20000 in
theorem kw_8_35 : Cond.methodLink "ClassOfManyLaw" 193 ⟨"ClassOfManyModel", "needs", "()I"⟩ ∈ zTw := zt8 35 (by rfl) rfl
set_option maxRecDepth 20000 in
theorem kw_8_39 : Cond.methodLink "ClassOfManyLaw" 198 ⟨"ClassOfManyModel", "rests", "(III)I"⟩ ∈ zTw := zt8 39 (by rfl) rfl
set_option maxRecDepth 20000 in
theorem kw_8_43 : Cond.methodLink "ClassOfManyLaw" 202 ⟨"ClassOfManyModel", "sample", "(II)I"⟩ ∈ zTw := zt8 43 (by rfl) rfl
set_option maxRecDepth 20000 in
theorem kw_8_48 : Cond.methodLink "ClassOfManyLaw" 206 ⟨"ClassOfManyModel", "estimate", "(I)I"⟩ ∈ zTw := zt8 48 (by rfl) rfl
set_option maxRecDepth 20000 in
theorem kw_8_56 : Cond.methodLink "ClassOfManyLaw" 210 ⟨"ClassOfManyModel", "nearest", "(II)I"⟩ ∈ zTw := zt8 56 (by rfl) rfl
set_option maxRecDepth 20000 in
theorem kw_8_64 : Cond.methodLink "ClassOfManyLaw" 214 ⟨"ClassOfManyModel", "within", "(II)I"⟩ ∈ zTw := zt8 64 (by rfl) rfl
set_option maxRecDepth 20000 in
theorem kw_8_68 : Cond.methodLink "ClassOfManyLaw" 218 ⟨"ClassOfManyModel", "spell", "(I)I"⟩ ∈ zTw := zt8 68 (by rfl) rfl
set_option maxRecDepth 20000 in
theorem kw_8_7 : Cond.methodLink "ClassOfManyLaw" 173 ⟨"ClassOfManyModel", "wereFund", "(II)I"⟩ ∈ zTw := zt8 7 (by rfl) rfl
/-! the law behind its two constructors -/
def ZXs : ZEnv → Nat → Nat → (Nat → Int32) → Prop
  | (p, l, e, R, s, m, args, below, meth, c, cells, slots, Q, D, ad, cA, nL), b, L, xs => va_X b L xs s s.heap ∧ b < s.heap.size ∧ ¬ ZA ad b
def zxl {β : Type} (xs : Nat → Int32) (L : Nat) (i : Int32) (K : Int32 → Option β) : Option β := if i < 0 ∨ L ≤ i.toNatClampNeg then none else K (xs i.toNatClampNeg)
theorem zw_xlen {E : ZEnv} {cc : ByteArray} {own : String} {d pc : Nat} {lv : List (Nat × Value)} {st : List Value} {M : ZMem} (hC : ZCx E cc own d) {b L : Nat} {xs : Nat → Int32} (hX : ZXs E b L xs) (hd : decode cc pc = .ok (.arraylength, 1)) (kk : ZW E (pc + 1) lv (.int (nI L) :: st) M) : ZW E pc lv (.ref b :: st) M := by
  obtain ⟨p, l, e, R, s, m, args, below, meth, c, cells, slots, Q, D, ad, cA, nL⟩ := E
  obtain ⟨h1, h2, h3⟩ := hX
  intro H locs ls hP hS hl
  exact va_slen hC.1 hC.2.1 h1 h2 h3 hS hd (kk H locs ls hP hS hl)
theorem zw_xld {E : ZEnv} {cc : ByteArray} {own : String} {d pc : Nat} {lv : List (Nat × Value)} {st : List Value} {M : ZMem} (hC : ZCx E cc own d) {b L : Nat} {xs : Nat → Int32} (hX : ZXs E b L xs) {i : Int32} {β : Type} {K : Int32 → Option β} {r : β} (hf : zxl xs L i K = some r) (hd : decode cc pc = .ok (.iaload, 1)) (kk : ∀ v, K v = some r → ZW E (pc + 1) lv (.int v :: st) M) : ZW E pc lv (.int i :: .ref b :: st) M := by
  unfold zxl at hf
  split at hf
  · cases hf
  · rename_i hin
    have kk := kk _ hf
    obtain ⟨p, l, e, R, s, m, args, below, meth, c, cells, slots, Q, D, ad, cA, nL⟩ := E
    obtain ⟨h1, h2, h3⟩ := hX
    intro H locs ls hP hS hl
    exact va_sld hC.1 hC.2.1 h1 h2 h3 hS hin hd (kk H locs ls hP hS hl)
theorem dL_law_0 : decode cL_law 0 = .ok (.new 7, 3) := by decide +kernel
theorem dL_law_3 : decode cL_law 3 = .ok (.dup, 1) := by decide +kernel
theorem dL_law_4 : decode cL_law 4 = .ok (.invokespecial 9, 3) := by decide +kernel
theorem dL_law_7 : decode cL_law 7 = .ok (.astore_n 1, 1) := by decide +kernel
theorem dL_law_8 : decode cL_law 8 = .ok (.new 10, 3) := by decide +kernel
theorem dL_law_11 : decode cL_law 11 = .ok (.dup, 1) := by decide +kernel
theorem dL_law_12 : decode cL_law 12 = .ok (.invokespecial 12, 3) := by decide +kernel
theorem dL_law_15 : decode cL_law 15 = .ok (.astore_n 2, 1) := by decide +kernel
theorem dL_law_16 : decode cL_law 16 = .ok (.iconst 0, 1) := by decide +kernel
theorem dL_law_17 : decode cL_law 17 = .ok (.istore_n 3, 1) := by decide +kernel
theorem dL_law_18 : decode cL_law 18 = .ok (.iload_n 3, 1) := by decide +kernel
theorem dL_law_19 : decode cL_law 19 = .ok (.aload_n 0, 1) := by decide +kernel
theorem dL_law_20 : decode cL_law 20 = .ok (.arraylength, 1) := by decide +kernel
theorem dL_law_21 : decode cL_law 21 = .ok (.bipush 6, 2) := by decide +kernel
theorem dL_law_23 : decode cL_law 23 = .ok (.isub, 1) := by decide +kernel
theorem dL_law_24 : decode cL_law 24 = .ok (.if_icmp .gt 1590, 3) := by decide +kernel
theorem dL_law_27 : decode cL_law 27 = .ok (.aload_n 0, 1) := by decide +kernel
theorem dL_law_28 : decode cL_law 28 = .ok (.iload_n 3, 1) := by decide +kernel
theorem dL_law_29 : decode cL_law 29 = .ok (.iaload, 1) := by decide +kernel
theorem dL_law_30 : decode cL_law 30 = .ok (.bipush 63, 2) := by decide +kernel
theorem dL_law_32 : decode cL_law 32 = .ok (.iand, 1) := by decide +kernel
theorem dL_law_33 : decode cL_law 33 = .ok (.tableswitch 1575 0 51 #[223, 286, 309, 322, 345, 368, 381, 404, 427, 476, 499, 522, 555, 588, 601, 634, 667, 700, 723, 756, 779, 792, 815, 838, 861, 874, 887, 910, 933, 966, 999, 1022, 1045, 1068, 1091, 1124, 1137, 1160, 1193, 1226, 1259, 1282, 1305, 1328, 1341, 1384, 1417, 1440, 1473, 1506, 1529, 1552], 223) := by decide +kernel
theorem dL_law_256 : decode cL_law 256 = .ok (.aload_n 1, 1) := by decide +kernel
theorem dL_law_257 : decode cL_law 257 = .ok (.aload_n 0, 1) := by decide +kernel
theorem dL_law_258 : decode cL_law 258 = .ok (.iload_n 3, 1) := by decide +kernel
theorem dL_law_259 : decode cL_law 259 = .ok (.iconst 1, 1) := by decide +kernel
theorem dL_law_260 : decode cL_law 260 = .ok (.iadd, 1) := by decide +kernel
theorem dL_law_261 : decode cL_law 261 = .ok (.iaload, 1) := by decide +kernel
theorem dL_law_262 : decode cL_law 262 = .ok (.aload_n 0, 1) := by decide +kernel
theorem dL_law_263 : decode cL_law 263 = .ok (.iload_n 3, 1) := by decide +kernel
theorem dL_law_264 : decode cL_law 264 = .ok (.iconst 2, 1) := by decide +kernel
theorem dL_law_265 : decode cL_law 265 = .ok (.iadd, 1) := by decide +kernel
theorem dL_law_266 : decode cL_law 266 = .ok (.iaload, 1) := by decide +kernel
theorem dL_law_267 : decode cL_law 267 = .ok (.aload_n 0, 1) := by decide +kernel
theorem dL_law_268 : decode cL_law 268 = .ok (.iload_n 3, 1) := by decide +kernel
theorem dL_law_269 : decode cL_law 269 = .ok (.iconst 3, 1) := by decide +kernel
theorem dL_law_270 : decode cL_law 270 = .ok (.iadd, 1) := by decide +kernel
theorem dL_law_271 : decode cL_law 271 = .ok (.iaload, 1) := by decide +kernel
theorem dL_law_272 : decode cL_law 272 = .ok (.aload_n 0, 1) := by decide +kernel
theorem dL_law_273 : decode cL_law 273 = .ok (.iload_n 3, 1) := by decide +kernel
theorem dL_law_274 : decode cL_law 274 = .ok (.iconst 4, 1) := by decide +kernel
theorem dL_law_275 : decode cL_law 275 = .ok (.iadd, 1) := by decide +kernel
theorem dL_law_276 : decode cL_law 276 = .ok (.iaload, 1) := by decide +kernel
theorem dL_law_277 : decode cL_law 277 = .ok (.aload_n 0, 1) := by decide +kernel
theorem dL_law_278 : decode cL_law 278 = .ok (.iload_n 3, 1) := by decide +kernel
theorem dL_law_279 : decode cL_law 279 = .ok (.iconst 5, 1) := by decide +kernel
theorem dL_law_280 : decode cL_law 280 = .ok (.iadd, 1) := by decide +kernel
theorem dL_law_281 : decode cL_law 281 = .ok (.iaload, 1) := by decide +kernel
theorem dL_law_282 : decode cL_law 282 = .ok (.invokevirtual 13, 3) := by decide +kernel
theorem dL_law_285 : decode cL_law 285 = .ok (.aload_n 2, 1) := by decide +kernel
theorem dL_law_286 : decode cL_law 286 = .ok (.aload_n 0, 1) := by decide +kernel
theorem dL_law_287 : decode cL_law 287 = .ok (.iload_n 3, 1) := by decide +kernel
theorem dL_law_288 : decode cL_law 288 = .ok (.iconst 1, 1) := by decide +kernel
theorem dL_law_289 : decode cL_law 289 = .ok (.iadd, 1) := by decide +kernel
theorem dL_law_290 : decode cL_law 290 = .ok (.iaload, 1) := by decide +kernel
theorem dL_law_291 : decode cL_law 291 = .ok (.aload_n 0, 1) := by decide +kernel
theorem dL_law_292 : decode cL_law 292 = .ok (.iload_n 3, 1) := by decide +kernel
theorem dL_law_293 : decode cL_law 293 = .ok (.iconst 2, 1) := by decide +kernel
theorem dL_law_294 : decode cL_law 294 = .ok (.iadd, 1) := by decide +kernel
theorem dL_law_295 : decode cL_law 295 = .ok (.iaload, 1) := by decide +kernel
theorem dL_law_296 : decode cL_law 296 = .ok (.aload_n 0, 1) := by decide +kernel
theorem dL_law_297 : decode cL_law 297 = .ok (.iload_n 3, 1) := by decide +kernel
theorem dL_law_298 : decode cL_law 298 = .ok (.iconst 3, 1) := by decide +kernel
theorem dL_law_299 : decode cL_law 299 = .ok (.iadd, 1) := by decide +kernel
theorem dL_law_300 : decode cL_law 300 = .ok (.iaload, 1) := by decide +kernel
theorem dL_law_301 : decode cL_law 301 = .ok (.aload_n 0, 1) := by decide +kernel
theorem dL_law_302 : decode cL_law 302 = .ok (.iload_n 3, 1) := by decide +kernel
theorem dL_law_303 : decode cL_law 303 = .ok (.iconst 4, 1) := by decide +kernel
theorem dL_law_304 : decode cL_law 304 = .ok (.iadd, 1) := by decide +kernel
theorem dL_law_305 : decode cL_law 305 = .ok (.iaload, 1) := by decide +kernel
theorem dL_law_306 : decode cL_law 306 = .ok (.aload_n 0, 1) := by decide +kernel
theorem dL_law_307 : decode cL_law 307 = .ok (.iload_n 3, 1) := by decide +kernel
theorem dL_law_308 : decode cL_law 308 = .ok (.iconst 5, 1) := by decide +kernel
theorem dL_law_309 : decode cL_law 309 = .ok (.iadd, 1) := by decide +kernel
theorem dL_law_310 : decode cL_law 310 = .ok (.iaload, 1) := by decide +kernel
theorem dL_law_311 : decode cL_law 311 = .ok (.invokevirtual 17, 3) := by decide +kernel
theorem dL_law_314 : decode cL_law 314 = .ok (.if_icmp .eq 1294, 3) := by decide +kernel
theorem dL_law_317 : decode cL_law 317 = .ok (.iconst 0, 1) := by decide +kernel
theorem dL_law_318 : decode cL_law 318 = .ok (.ireturn, 1) := by decide +kernel
theorem dL_law_319 : decode cL_law 319 = .ok (.aload_n 1, 1) := by decide +kernel
theorem dL_law_320 : decode cL_law 320 = .ok (.aload_n 0, 1) := by decide +kernel
theorem dL_law_321 : decode cL_law 321 = .ok (.iload_n 3, 1) := by decide +kernel
theorem dL_law_322 : decode cL_law 322 = .ok (.iconst 1, 1) := by decide +kernel
theorem dL_law_323 : decode cL_law 323 = .ok (.iadd, 1) := by decide +kernel
theorem dL_law_324 : decode cL_law 324 = .ok (.iaload, 1) := by decide +kernel
theorem dL_law_325 : decode cL_law 325 = .ok (.invokevirtual 18, 3) := by decide +kernel
theorem dL_law_328 : decode cL_law 328 = .ok (.aload_n 2, 1) := by decide +kernel
theorem dL_law_329 : decode cL_law 329 = .ok (.aload_n 0, 1) := by decide +kernel
theorem dL_law_330 : decode cL_law 330 = .ok (.iload_n 3, 1) := by decide +kernel
theorem dL_law_331 : decode cL_law 331 = .ok (.iconst 1, 1) := by decide +kernel
theorem dL_law_332 : decode cL_law 332 = .ok (.iadd, 1) := by decide +kernel
theorem dL_law_333 : decode cL_law 333 = .ok (.iaload, 1) := by decide +kernel
theorem dL_law_334 : decode cL_law 334 = .ok (.invokevirtual 22, 3) := by decide +kernel
theorem dL_law_337 : decode cL_law 337 = .ok (.if_icmp .eq 1271, 3) := by decide +kernel
theorem dL_law_340 : decode cL_law 340 = .ok (.iconst 0, 1) := by decide +kernel
theorem dL_law_341 : decode cL_law 341 = .ok (.ireturn, 1) := by decide +kernel
theorem dL_law_342 : decode cL_law 342 = .ok (.aload_n 1, 1) := by decide +kernel
theorem dL_law_343 : decode cL_law 343 = .ok (.invokevirtual 23, 3) := by decide +kernel
theorem dL_law_346 : decode cL_law 346 = .ok (.aload_n 2, 1) := by decide +kernel
theorem dL_law_347 : decode cL_law 347 = .ok (.invokevirtual 27, 3) := by decide +kernel
theorem dL_law_350 : decode cL_law 350 = .ok (.if_icmp .eq 1258, 3) := by decide +kernel
theorem dL_law_353 : decode cL_law 353 = .ok (.iconst 0, 1) := by decide +kernel
theorem dL_law_354 : decode cL_law 354 = .ok (.ireturn, 1) := by decide +kernel
theorem dL_law_355 : decode cL_law 355 = .ok (.aload_n 1, 1) := by decide +kernel
theorem dL_law_356 : decode cL_law 356 = .ok (.aload_n 0, 1) := by decide +kernel
theorem dL_law_357 : decode cL_law 357 = .ok (.iload_n 3, 1) := by decide +kernel
theorem dL_law_358 : decode cL_law 358 = .ok (.iconst 1, 1) := by decide +kernel
theorem dL_law_359 : decode cL_law 359 = .ok (.iadd, 1) := by decide +kernel
theorem dL_law_360 : decode cL_law 360 = .ok (.iaload, 1) := by decide +kernel
theorem dL_law_361 : decode cL_law 361 = .ok (.invokevirtual 28, 3) := by decide +kernel
theorem dL_law_364 : decode cL_law 364 = .ok (.aload_n 2, 1) := by decide +kernel
theorem dL_law_365 : decode cL_law 365 = .ok (.aload_n 0, 1) := by decide +kernel
theorem dL_law_366 : decode cL_law 366 = .ok (.iload_n 3, 1) := by decide +kernel
theorem dL_law_367 : decode cL_law 367 = .ok (.iconst 1, 1) := by decide +kernel
theorem dL_law_368 : decode cL_law 368 = .ok (.iadd, 1) := by decide +kernel
theorem dL_law_369 : decode cL_law 369 = .ok (.iaload, 1) := by decide +kernel
theorem dL_law_370 : decode cL_law 370 = .ok (.invokevirtual 31, 3) := by decide +kernel
theorem dL_law_373 : decode cL_law 373 = .ok (.if_icmp .eq 1235, 3) := by decide +kernel
theorem dL_law_376 : decode cL_law 376 = .ok (.iconst 0, 1) := by decide +kernel
theorem dL_law_377 : decode cL_law 377 = .ok (.ireturn, 1) := by decide +kernel
theorem dL_law_378 : decode cL_law 378 = .ok (.aload_n 1, 1) := by decide +kernel
theorem dL_law_379 : decode cL_law 379 = .ok (.aload_n 0, 1) := by decide +kernel
theorem dL_law_380 : decode cL_law 380 = .ok (.iload_n 3, 1) := by decide +kernel
theorem dL_law_381 : decode cL_law 381 = .ok (.iconst 1, 1) := by decide +kernel
theorem dL_law_382 : decode cL_law 382 = .ok (.iadd, 1) := by decide +kernel
theorem dL_law_383 : decode cL_law 383 = .ok (.iaload, 1) := by decide +kernel
theorem dL_law_384 : decode cL_law 384 = .ok (.invokevirtual 32, 3) := by decide +kernel
theorem dL_law_387 : decode cL_law 387 = .ok (.aload_n 2, 1) := by decide +kernel
theorem dL_law_388 : decode cL_law 388 = .ok (.aload_n 0, 1) := by decide +kernel
theorem dL_law_389 : decode cL_law 389 = .ok (.iload_n 3, 1) := by decide +kernel
theorem dL_law_390 : decode cL_law 390 = .ok (.iconst 1, 1) := by decide +kernel
theorem dL_law_391 : decode cL_law 391 = .ok (.iadd, 1) := by decide +kernel
theorem dL_law_392 : decode cL_law 392 = .ok (.iaload, 1) := by decide +kernel
theorem dL_law_393 : decode cL_law 393 = .ok (.invokevirtual 35, 3) := by decide +kernel
theorem dL_law_396 : decode cL_law 396 = .ok (.if_icmp .eq 1212, 3) := by decide +kernel
theorem dL_law_399 : decode cL_law 399 = .ok (.iconst 0, 1) := by decide +kernel
theorem dL_law_400 : decode cL_law 400 = .ok (.ireturn, 1) := by decide +kernel
theorem dL_law_401 : decode cL_law 401 = .ok (.aload_n 1, 1) := by decide +kernel
theorem dL_law_402 : decode cL_law 402 = .ok (.invokevirtual 36, 3) := by decide +kernel
theorem dL_law_405 : decode cL_law 405 = .ok (.aload_n 2, 1) := by decide +kernel
theorem dL_law_406 : decode cL_law 406 = .ok (.invokevirtual 39, 3) := by decide +kernel
theorem dL_law_409 : decode cL_law 409 = .ok (.if_icmp .eq 1199, 3) := by decide +kernel
theorem dL_law_412 : decode cL_law 412 = .ok (.iconst 0, 1) := by decide +kernel
theorem dL_law_413 : decode cL_law 413 = .ok (.ireturn, 1) := by decide +kernel
theorem dL_law_414 : decode cL_law 414 = .ok (.aload_n 1, 1) := by decide +kernel
theorem dL_law_415 : decode cL_law 415 = .ok (.aload_n 0, 1) := by decide +kernel
theorem dL_law_416 : decode cL_law 416 = .ok (.iload_n 3, 1) := by decide +kernel
theorem dL_law_417 : decode cL_law 417 = .ok (.iconst 1, 1) := by decide +kernel
theorem dL_law_418 : decode cL_law 418 = .ok (.iadd, 1) := by decide +kernel
theorem dL_law_419 : decode cL_law 419 = .ok (.iaload, 1) := by decide +kernel
theorem dL_law_420 : decode cL_law 420 = .ok (.invokevirtual 40, 3) := by decide +kernel
theorem dL_law_423 : decode cL_law 423 = .ok (.aload_n 2, 1) := by decide +kernel
theorem dL_law_424 : decode cL_law 424 = .ok (.aload_n 0, 1) := by decide +kernel
theorem dL_law_425 : decode cL_law 425 = .ok (.iload_n 3, 1) := by decide +kernel
theorem dL_law_426 : decode cL_law 426 = .ok (.iconst 1, 1) := by decide +kernel
theorem dL_law_427 : decode cL_law 427 = .ok (.iadd, 1) := by decide +kernel
theorem dL_law_428 : decode cL_law 428 = .ok (.iaload, 1) := by decide +kernel
theorem dL_law_429 : decode cL_law 429 = .ok (.invokevirtual 43, 3) := by decide +kernel
theorem dL_law_432 : decode cL_law 432 = .ok (.if_icmp .eq 1176, 3) := by decide +kernel
theorem dL_law_435 : decode cL_law 435 = .ok (.iconst 0, 1) := by decide +kernel
theorem dL_law_436 : decode cL_law 436 = .ok (.ireturn, 1) := by decide +kernel
theorem dL_law_437 : decode cL_law 437 = .ok (.aload_n 1, 1) := by decide +kernel
theorem dL_law_438 : decode cL_law 438 = .ok (.aload_n 0, 1) := by decide +kernel
theorem dL_law_439 : decode cL_law 439 = .ok (.iload_n 3, 1) := by decide +kernel
theorem dL_law_440 : decode cL_law 440 = .ok (.iconst 1, 1) := by decide +kernel
theorem dL_law_441 : decode cL_law 441 = .ok (.iadd, 1) := by decide +kernel
theorem dL_law_442 : decode cL_law 442 = .ok (.iaload, 1) := by decide +kernel
theorem dL_law_443 : decode cL_law 443 = .ok (.invokevirtual 44, 3) := by decide +kernel
theorem dL_law_446 : decode cL_law 446 = .ok (.aload_n 2, 1) := by decide +kernel
theorem dL_law_447 : decode cL_law 447 = .ok (.aload_n 0, 1) := by decide +kernel
theorem dL_law_448 : decode cL_law 448 = .ok (.iload_n 3, 1) := by decide +kernel
theorem dL_law_449 : decode cL_law 449 = .ok (.iconst 1, 1) := by decide +kernel
theorem dL_law_450 : decode cL_law 450 = .ok (.iadd, 1) := by decide +kernel
theorem dL_law_451 : decode cL_law 451 = .ok (.iaload, 1) := by decide +kernel
theorem dL_law_452 : decode cL_law 452 = .ok (.invokevirtual 47, 3) := by decide +kernel
theorem dL_law_455 : decode cL_law 455 = .ok (.if_icmp .eq 1153, 3) := by decide +kernel
theorem dL_law_458 : decode cL_law 458 = .ok (.iconst 0, 1) := by decide +kernel
theorem dL_law_459 : decode cL_law 459 = .ok (.ireturn, 1) := by decide +kernel
theorem dL_law_460 : decode cL_law 460 = .ok (.aload_n 1, 1) := by decide +kernel
theorem dL_law_461 : decode cL_law 461 = .ok (.aload_n 0, 1) := by decide +kernel
theorem dL_law_462 : decode cL_law 462 = .ok (.iload_n 3, 1) := by decide +kernel
theorem dL_law_463 : decode cL_law 463 = .ok (.iconst 1, 1) := by decide +kernel
theorem dL_law_464 : decode cL_law 464 = .ok (.iadd, 1) := by decide +kernel
theorem dL_law_465 : decode cL_law 465 = .ok (.iaload, 1) := by decide +kernel
theorem dL_law_466 : decode cL_law 466 = .ok (.aload_n 0, 1) := by decide +kernel
theorem dL_law_467 : decode cL_law 467 = .ok (.iload_n 3, 1) := by decide +kernel
theorem dL_law_468 : decode cL_law 468 = .ok (.iconst 2, 1) := by decide +kernel
theorem dL_law_469 : decode cL_law 469 = .ok (.iadd, 1) := by decide +kernel
theorem dL_law_470 : decode cL_law 470 = .ok (.iaload, 1) := by decide +kernel
theorem dL_law_471 : decode cL_law 471 = .ok (.ifCond .eq 7, 3) := by decide +kernel
theorem dL_law_474 : decode cL_law 474 = .ok (.iconst 1, 1) := by decide +kernel
theorem dL_law_475 : decode cL_law 475 = .ok (.goto 4, 3) := by decide +kernel
theorem dL_law_478 : decode cL_law 478 = .ok (.iconst 0, 1) := by decide +kernel
theorem dL_law_479 : decode cL_law 479 = .ok (.invokevirtual 48, 3) := by decide +kernel
theorem dL_law_482 : decode cL_law 482 = .ok (.aload_n 2, 1) := by decide +kernel
theorem dL_law_483 : decode cL_law 483 = .ok (.aload_n 0, 1) := by decide +kernel
theorem dL_law_484 : decode cL_law 484 = .ok (.iload_n 3, 1) := by decide +kernel
theorem dL_law_485 : decode cL_law 485 = .ok (.iconst 1, 1) := by decide +kernel
theorem dL_law_486 : decode cL_law 486 = .ok (.iadd, 1) := by decide +kernel
theorem dL_law_487 : decode cL_law 487 = .ok (.iaload, 1) := by decide +kernel
theorem dL_law_488 : decode cL_law 488 = .ok (.aload_n 0, 1) := by decide +kernel
theorem dL_law_489 : decode cL_law 489 = .ok (.iload_n 3, 1) := by decide +kernel
theorem dL_law_490 : decode cL_law 490 = .ok (.iconst 2, 1) := by decide +kernel
theorem dL_law_491 : decode cL_law 491 = .ok (.iadd, 1) := by decide +kernel
theorem dL_law_492 : decode cL_law 492 = .ok (.iaload, 1) := by decide +kernel
theorem dL_law_493 : decode cL_law 493 = .ok (.ifCond .eq 7, 3) := by decide +kernel
theorem dL_law_496 : decode cL_law 496 = .ok (.iconst 1, 1) := by decide +kernel
theorem dL_law_497 : decode cL_law 497 = .ok (.goto 4, 3) := by decide +kernel
theorem dL_law_500 : decode cL_law 500 = .ok (.iconst 0, 1) := by decide +kernel
theorem dL_law_501 : decode cL_law 501 = .ok (.invokevirtual 52, 3) := by decide +kernel
theorem dL_law_504 : decode cL_law 504 = .ok (.if_icmp .eq 1104, 3) := by decide +kernel
theorem dL_law_507 : decode cL_law 507 = .ok (.iconst 0, 1) := by decide +kernel
theorem dL_law_508 : decode cL_law 508 = .ok (.ireturn, 1) := by decide +kernel
theorem dL_law_509 : decode cL_law 509 = .ok (.aload_n 1, 1) := by decide +kernel
theorem dL_law_510 : decode cL_law 510 = .ok (.aload_n 0, 1) := by decide +kernel
theorem dL_law_511 : decode cL_law 511 = .ok (.iload_n 3, 1) := by decide +kernel
theorem dL_law_512 : decode cL_law 512 = .ok (.iconst 1, 1) := by decide +kernel
theorem dL_law_513 : decode cL_law 513 = .ok (.iadd, 1) := by decide +kernel
theorem dL_law_514 : decode cL_law 514 = .ok (.iaload, 1) := by decide +kernel
theorem dL_law_515 : decode cL_law 515 = .ok (.invokevirtual 53, 3) := by decide +kernel
theorem dL_law_518 : decode cL_law 518 = .ok (.aload_n 2, 1) := by decide +kernel
theorem dL_law_519 : decode cL_law 519 = .ok (.aload_n 0, 1) := by decide +kernel
theorem dL_law_520 : decode cL_law 520 = .ok (.iload_n 3, 1) := by decide +kernel
theorem dL_law_521 : decode cL_law 521 = .ok (.iconst 1, 1) := by decide +kernel
theorem dL_law_522 : decode cL_law 522 = .ok (.iadd, 1) := by decide +kernel
theorem dL_law_523 : decode cL_law 523 = .ok (.iaload, 1) := by decide +kernel
theorem dL_law_524 : decode cL_law 524 = .ok (.invokevirtual 56, 3) := by decide +kernel
theorem dL_law_527 : decode cL_law 527 = .ok (.if_icmp .eq 1081, 3) := by decide +kernel
theorem dL_law_530 : decode cL_law 530 = .ok (.iconst 0, 1) := by decide +kernel
theorem dL_law_531 : decode cL_law 531 = .ok (.ireturn, 1) := by decide +kernel
theorem dL_law_532 : decode cL_law 532 = .ok (.aload_n 1, 1) := by decide +kernel
theorem dL_law_533 : decode cL_law 533 = .ok (.aload_n 0, 1) := by decide +kernel
theorem dL_law_534 : decode cL_law 534 = .ok (.iload_n 3, 1) := by decide +kernel
theorem dL_law_535 : decode cL_law 535 = .ok (.iconst 1, 1) := by decide +kernel
theorem dL_law_536 : decode cL_law 536 = .ok (.iadd, 1) := by decide +kernel
theorem dL_law_537 : decode cL_law 537 = .ok (.iaload, 1) := by decide +kernel
theorem dL_law_538 : decode cL_law 538 = .ok (.invokevirtual 57, 3) := by decide +kernel
theorem dL_law_541 : decode cL_law 541 = .ok (.aload_n 2, 1) := by decide +kernel
theorem dL_law_542 : decode cL_law 542 = .ok (.aload_n 0, 1) := by decide +kernel
theorem dL_law_543 : decode cL_law 543 = .ok (.iload_n 3, 1) := by decide +kernel
theorem dL_law_544 : decode cL_law 544 = .ok (.iconst 1, 1) := by decide +kernel
theorem dL_law_545 : decode cL_law 545 = .ok (.iadd, 1) := by decide +kernel
theorem dL_law_546 : decode cL_law 546 = .ok (.iaload, 1) := by decide +kernel
theorem dL_law_547 : decode cL_law 547 = .ok (.invokevirtual 60, 3) := by decide +kernel
theorem dL_law_550 : decode cL_law 550 = .ok (.if_icmp .eq 1058, 3) := by decide +kernel
theorem dL_law_553 : decode cL_law 553 = .ok (.iconst 0, 1) := by decide +kernel
theorem dL_law_554 : decode cL_law 554 = .ok (.ireturn, 1) := by decide +kernel
theorem dL_law_555 : decode cL_law 555 = .ok (.aload_n 1, 1) := by decide +kernel
theorem dL_law_556 : decode cL_law 556 = .ok (.aload_n 0, 1) := by decide +kernel
theorem dL_law_557 : decode cL_law 557 = .ok (.iload_n 3, 1) := by decide +kernel
theorem dL_law_558 : decode cL_law 558 = .ok (.iconst 1, 1) := by decide +kernel
theorem dL_law_559 : decode cL_law 559 = .ok (.iadd, 1) := by decide +kernel
theorem dL_law_560 : decode cL_law 560 = .ok (.iaload, 1) := by decide +kernel
theorem dL_law_561 : decode cL_law 561 = .ok (.aload_n 0, 1) := by decide +kernel
theorem dL_law_562 : decode cL_law 562 = .ok (.iload_n 3, 1) := by decide +kernel
theorem dL_law_563 : decode cL_law 563 = .ok (.iconst 2, 1) := by decide +kernel
theorem dL_law_564 : decode cL_law 564 = .ok (.iadd, 1) := by decide +kernel
theorem dL_law_565 : decode cL_law 565 = .ok (.iaload, 1) := by decide +kernel
theorem dL_law_566 : decode cL_law 566 = .ok (.invokevirtual 61, 3) := by decide +kernel
theorem dL_law_569 : decode cL_law 569 = .ok (.aload_n 2, 1) := by decide +kernel
theorem dL_law_570 : decode cL_law 570 = .ok (.aload_n 0, 1) := by decide +kernel
theorem dL_law_571 : decode cL_law 571 = .ok (.iload_n 3, 1) := by decide +kernel
theorem dL_law_572 : decode cL_law 572 = .ok (.iconst 1, 1) := by decide +kernel
theorem dL_law_573 : decode cL_law 573 = .ok (.iadd, 1) := by decide +kernel
theorem dL_law_574 : decode cL_law 574 = .ok (.iaload, 1) := by decide +kernel
theorem dL_law_575 : decode cL_law 575 = .ok (.aload_n 0, 1) := by decide +kernel
theorem dL_law_576 : decode cL_law 576 = .ok (.iload_n 3, 1) := by decide +kernel
theorem dL_law_577 : decode cL_law 577 = .ok (.iconst 2, 1) := by decide +kernel
theorem dL_law_578 : decode cL_law 578 = .ok (.iadd, 1) := by decide +kernel
theorem dL_law_579 : decode cL_law 579 = .ok (.iaload, 1) := by decide +kernel
theorem dL_law_580 : decode cL_law 580 = .ok (.invokevirtual 65, 3) := by decide +kernel
theorem dL_law_583 : decode cL_law 583 = .ok (.if_icmp .eq 1025, 3) := by decide +kernel
theorem dL_law_586 : decode cL_law 586 = .ok (.iconst 0, 1) := by decide +kernel
theorem dL_law_587 : decode cL_law 587 = .ok (.ireturn, 1) := by decide +kernel
theorem dL_law_588 : decode cL_law 588 = .ok (.aload_n 1, 1) := by decide +kernel
theorem dL_law_589 : decode cL_law 589 = .ok (.aload_n 0, 1) := by decide +kernel
theorem dL_law_590 : decode cL_law 590 = .ok (.iload_n 3, 1) := by decide +kernel
theorem dL_law_591 : decode cL_law 591 = .ok (.iconst 1, 1) := by decide +kernel
theorem dL_law_592 : decode cL_law 592 = .ok (.iadd, 1) := by decide +kernel
theorem dL_law_593 : decode cL_law 593 = .ok (.iaload, 1) := by decide +kernel
theorem dL_law_594 : decode cL_law 594 = .ok (.aload_n 0, 1) := by decide +kernel
theorem dL_law_595 : decode cL_law 595 = .ok (.iload_n 3, 1) := by decide +kernel
theorem dL_law_596 : decode cL_law 596 = .ok (.iconst 2, 1) := by decide +kernel
theorem dL_law_597 : decode cL_law 597 = .ok (.iadd, 1) := by decide +kernel
theorem dL_law_598 : decode cL_law 598 = .ok (.iaload, 1) := by decide +kernel
theorem dL_law_599 : decode cL_law 599 = .ok (.invokevirtual 66, 3) := by decide +kernel
theorem dL_law_602 : decode cL_law 602 = .ok (.aload_n 2, 1) := by decide +kernel
theorem dL_law_603 : decode cL_law 603 = .ok (.aload_n 0, 1) := by decide +kernel
theorem dL_law_604 : decode cL_law 604 = .ok (.iload_n 3, 1) := by decide +kernel
theorem dL_law_605 : decode cL_law 605 = .ok (.iconst 1, 1) := by decide +kernel
theorem dL_law_606 : decode cL_law 606 = .ok (.iadd, 1) := by decide +kernel
theorem dL_law_607 : decode cL_law 607 = .ok (.iaload, 1) := by decide +kernel
theorem dL_law_608 : decode cL_law 608 = .ok (.aload_n 0, 1) := by decide +kernel
theorem dL_law_609 : decode cL_law 609 = .ok (.iload_n 3, 1) := by decide +kernel
theorem dL_law_610 : decode cL_law 610 = .ok (.iconst 2, 1) := by decide +kernel
theorem dL_law_611 : decode cL_law 611 = .ok (.iadd, 1) := by decide +kernel
theorem dL_law_612 : decode cL_law 612 = .ok (.iaload, 1) := by decide +kernel
theorem dL_law_613 : decode cL_law 613 = .ok (.invokevirtual 69, 3) := by decide +kernel
theorem dL_law_616 : decode cL_law 616 = .ok (.if_icmp .eq 992, 3) := by decide +kernel
theorem dL_law_619 : decode cL_law 619 = .ok (.iconst 0, 1) := by decide +kernel
theorem dL_law_620 : decode cL_law 620 = .ok (.ireturn, 1) := by decide +kernel
theorem dL_law_621 : decode cL_law 621 = .ok (.aload_n 1, 1) := by decide +kernel
theorem dL_law_622 : decode cL_law 622 = .ok (.invokevirtual 70, 3) := by decide +kernel
theorem dL_law_625 : decode cL_law 625 = .ok (.aload_n 2, 1) := by decide +kernel
theorem dL_law_626 : decode cL_law 626 = .ok (.invokevirtual 73, 3) := by decide +kernel
theorem dL_law_629 : decode cL_law 629 = .ok (.if_icmp .eq 979, 3) := by decide +kernel
theorem dL_law_632 : decode cL_law 632 = .ok (.iconst 0, 1) := by decide +kernel
theorem dL_law_633 : decode cL_law 633 = .ok (.ireturn, 1) := by decide +kernel
theorem dL_law_634 : decode cL_law 634 = .ok (.aload_n 1, 1) := by decide +kernel
theorem dL_law_635 : decode cL_law 635 = .ok (.aload_n 0, 1) := by decide +kernel
theorem dL_law_636 : decode cL_law 636 = .ok (.iload_n 3, 1) := by decide +kernel
theorem dL_law_637 : decode cL_law 637 = .ok (.iconst 1, 1) := by decide +kernel
theorem dL_law_638 : decode cL_law 638 = .ok (.iadd, 1) := by decide +kernel
theorem dL_law_639 : decode cL_law 639 = .ok (.iaload, 1) := by decide +kernel
theorem dL_law_640 : decode cL_law 640 = .ok (.aload_n 0, 1) := by decide +kernel
theorem dL_law_641 : decode cL_law 641 = .ok (.iload_n 3, 1) := by decide +kernel
theorem dL_law_642 : decode cL_law 642 = .ok (.iconst 2, 1) := by decide +kernel
theorem dL_law_643 : decode cL_law 643 = .ok (.iadd, 1) := by decide +kernel
theorem dL_law_644 : decode cL_law 644 = .ok (.iaload, 1) := by decide +kernel
theorem dL_law_645 : decode cL_law 645 = .ok (.invokevirtual 74, 3) := by decide +kernel
theorem dL_law_648 : decode cL_law 648 = .ok (.aload_n 2, 1) := by decide +kernel
theorem dL_law_649 : decode cL_law 649 = .ok (.aload_n 0, 1) := by decide +kernel
theorem dL_law_650 : decode cL_law 650 = .ok (.iload_n 3, 1) := by decide +kernel
theorem dL_law_651 : decode cL_law 651 = .ok (.iconst 1, 1) := by decide +kernel
theorem dL_law_652 : decode cL_law 652 = .ok (.iadd, 1) := by decide +kernel
theorem dL_law_653 : decode cL_law 653 = .ok (.iaload, 1) := by decide +kernel
theorem dL_law_654 : decode cL_law 654 = .ok (.aload_n 0, 1) := by decide +kernel
theorem dL_law_655 : decode cL_law 655 = .ok (.iload_n 3, 1) := by decide +kernel
theorem dL_law_656 : decode cL_law 656 = .ok (.iconst 2, 1) := by decide +kernel
theorem dL_law_657 : decode cL_law 657 = .ok (.iadd, 1) := by decide +kernel
theorem dL_law_658 : decode cL_law 658 = .ok (.iaload, 1) := by decide +kernel
theorem dL_law_659 : decode cL_law 659 = .ok (.invokevirtual 77, 3) := by decide +kernel
theorem dL_law_662 : decode cL_law 662 = .ok (.if_icmp .eq 946, 3) := by decide +kernel
theorem dL_law_665 : decode cL_law 665 = .ok (.iconst 0, 1) := by decide +kernel
theorem dL_law_666 : decode cL_law 666 = .ok (.ireturn, 1) := by decide +kernel
theorem dL_law_667 : decode cL_law 667 = .ok (.aload_n 1, 1) := by decide +kernel
theorem dL_law_668 : decode cL_law 668 = .ok (.aload_n 0, 1) := by decide +kernel
theorem dL_law_669 : decode cL_law 669 = .ok (.iload_n 3, 1) := by decide +kernel
theorem dL_law_670 : decode cL_law 670 = .ok (.iconst 1, 1) := by decide +kernel
theorem dL_law_671 : decode cL_law 671 = .ok (.iadd, 1) := by decide +kernel
theorem dL_law_672 : decode cL_law 672 = .ok (.iaload, 1) := by decide +kernel
theorem dL_law_673 : decode cL_law 673 = .ok (.aload_n 0, 1) := by decide +kernel
theorem dL_law_674 : decode cL_law 674 = .ok (.iload_n 3, 1) := by decide +kernel
theorem dL_law_675 : decode cL_law 675 = .ok (.iconst 2, 1) := by decide +kernel
theorem dL_law_676 : decode cL_law 676 = .ok (.iadd, 1) := by decide +kernel
theorem dL_law_677 : decode cL_law 677 = .ok (.iaload, 1) := by decide +kernel
theorem dL_law_678 : decode cL_law 678 = .ok (.invokevirtual 78, 3) := by decide +kernel
theorem dL_law_681 : decode cL_law 681 = .ok (.aload_n 2, 1) := by decide +kernel
theorem dL_law_682 : decode cL_law 682 = .ok (.aload_n 0, 1) := by decide +kernel
theorem dL_law_683 : decode cL_law 683 = .ok (.iload_n 3, 1) := by decide +kernel
theorem dL_law_684 : decode cL_law 684 = .ok (.iconst 1, 1) := by decide +kernel
theorem dL_law_685 : decode cL_law 685 = .ok (.iadd, 1) := by decide +kernel
theorem dL_law_686 : decode cL_law 686 = .ok (.iaload, 1) := by decide +kernel
theorem dL_law_687 : decode cL_law 687 = .ok (.aload_n 0, 1) := by decide +kernel
theorem dL_law_688 : decode cL_law 688 = .ok (.iload_n 3, 1) := by decide +kernel
theorem dL_law_689 : decode cL_law 689 = .ok (.iconst 2, 1) := by decide +kernel
theorem dL_law_690 : decode cL_law 690 = .ok (.iadd, 1) := by decide +kernel
theorem dL_law_691 : decode cL_law 691 = .ok (.iaload, 1) := by decide +kernel
theorem dL_law_692 : decode cL_law 692 = .ok (.invokevirtual 81, 3) := by decide +kernel
theorem dL_law_695 : decode cL_law 695 = .ok (.if_icmp .eq 913, 3) := by decide +kernel
theorem dL_law_698 : decode cL_law 698 = .ok (.iconst 0, 1) := by decide +kernel
theorem dL_law_699 : decode cL_law 699 = .ok (.ireturn, 1) := by decide +kernel
theorem dL_law_700 : decode cL_law 700 = .ok (.aload_n 1, 1) := by decide +kernel
theorem dL_law_701 : decode cL_law 701 = .ok (.aload_n 0, 1) := by decide +kernel
theorem dL_law_702 : decode cL_law 702 = .ok (.iload_n 3, 1) := by decide +kernel
theorem dL_law_703 : decode cL_law 703 = .ok (.iconst 1, 1) := by decide +kernel
theorem dL_law_704 : decode cL_law 704 = .ok (.iadd, 1) := by decide +kernel
theorem dL_law_705 : decode cL_law 705 = .ok (.iaload, 1) := by decide +kernel
theorem dL_law_706 : decode cL_law 706 = .ok (.aload_n 0, 1) := by decide +kernel
theorem dL_law_707 : decode cL_law 707 = .ok (.iload_n 3, 1) := by decide +kernel
theorem dL_law_708 : decode cL_law 708 = .ok (.iconst 2, 1) := by decide +kernel
theorem dL_law_709 : decode cL_law 709 = .ok (.iadd, 1) := by decide +kernel
theorem dL_law_710 : decode cL_law 710 = .ok (.iaload, 1) := by decide +kernel
theorem dL_law_711 : decode cL_law 711 = .ok (.invokevirtual 82, 3) := by decide +kernel
theorem dL_law_714 : decode cL_law 714 = .ok (.aload_n 2, 1) := by decide +kernel
theorem dL_law_715 : decode cL_law 715 = .ok (.aload_n 0, 1) := by decide +kernel
theorem dL_law_716 : decode cL_law 716 = .ok (.iload_n 3, 1) := by decide +kernel
theorem dL_law_717 : decode cL_law 717 = .ok (.iconst 1, 1) := by decide +kernel
theorem dL_law_718 : decode cL_law 718 = .ok (.iadd, 1) := by decide +kernel
theorem dL_law_719 : decode cL_law 719 = .ok (.iaload, 1) := by decide +kernel
theorem dL_law_720 : decode cL_law 720 = .ok (.aload_n 0, 1) := by decide +kernel
theorem dL_law_721 : decode cL_law 721 = .ok (.iload_n 3, 1) := by decide +kernel
theorem dL_law_722 : decode cL_law 722 = .ok (.iconst 2, 1) := by decide +kernel
theorem dL_law_723 : decode cL_law 723 = .ok (.iadd, 1) := by decide +kernel
theorem dL_law_724 : decode cL_law 724 = .ok (.iaload, 1) := by decide +kernel
theorem dL_law_725 : decode cL_law 725 = .ok (.invokevirtual 85, 3) := by decide +kernel
theorem dL_law_728 : decode cL_law 728 = .ok (.if_icmp .eq 880, 3) := by decide +kernel
theorem dL_law_731 : decode cL_law 731 = .ok (.iconst 0, 1) := by decide +kernel
theorem dL_law_732 : decode cL_law 732 = .ok (.ireturn, 1) := by decide +kernel
theorem dL_law_733 : decode cL_law 733 = .ok (.aload_n 1, 1) := by decide +kernel
theorem dL_law_734 : decode cL_law 734 = .ok (.aload_n 0, 1) := by decide +kernel
theorem dL_law_735 : decode cL_law 735 = .ok (.iload_n 3, 1) := by decide +kernel
theorem dL_law_736 : decode cL_law 736 = .ok (.iconst 1, 1) := by decide +kernel
theorem dL_law_737 : decode cL_law 737 = .ok (.iadd, 1) := by decide +kernel
theorem dL_law_738 : decode cL_law 738 = .ok (.iaload, 1) := by decide +kernel
theorem dL_law_739 : decode cL_law 739 = .ok (.invokevirtual 86, 3) := by decide +kernel
theorem dL_law_742 : decode cL_law 742 = .ok (.aload_n 2, 1) := by decide +kernel
theorem dL_law_743 : decode cL_law 743 = .ok (.aload_n 0, 1) := by decide +kernel
theorem dL_law_744 : decode cL_law 744 = .ok (.iload_n 3, 1) := by decide +kernel
theorem dL_law_745 : decode cL_law 745 = .ok (.iconst 1, 1) := by decide +kernel
theorem dL_law_746 : decode cL_law 746 = .ok (.iadd, 1) := by decide +kernel
theorem dL_law_747 : decode cL_law 747 = .ok (.iaload, 1) := by decide +kernel
theorem dL_law_748 : decode cL_law 748 = .ok (.invokevirtual 89, 3) := by decide +kernel
theorem dL_law_751 : decode cL_law 751 = .ok (.if_icmp .eq 857, 3) := by decide +kernel
theorem dL_law_754 : decode cL_law 754 = .ok (.iconst 0, 1) := by decide +kernel
theorem dL_law_755 : decode cL_law 755 = .ok (.ireturn, 1) := by decide +kernel
theorem dL_law_756 : decode cL_law 756 = .ok (.aload_n 1, 1) := by decide +kernel
theorem dL_law_757 : decode cL_law 757 = .ok (.aload_n 0, 1) := by decide +kernel
theorem dL_law_758 : decode cL_law 758 = .ok (.iload_n 3, 1) := by decide +kernel
theorem dL_law_759 : decode cL_law 759 = .ok (.iconst 1, 1) := by decide +kernel
theorem dL_law_760 : decode cL_law 760 = .ok (.iadd, 1) := by decide +kernel
theorem dL_law_761 : decode cL_law 761 = .ok (.iaload, 1) := by decide +kernel
theorem dL_law_762 : decode cL_law 762 = .ok (.aload_n 0, 1) := by decide +kernel
theorem dL_law_763 : decode cL_law 763 = .ok (.iload_n 3, 1) := by decide +kernel
theorem dL_law_764 : decode cL_law 764 = .ok (.iconst 2, 1) := by decide +kernel
theorem dL_law_765 : decode cL_law 765 = .ok (.iadd, 1) := by decide +kernel
theorem dL_law_766 : decode cL_law 766 = .ok (.iaload, 1) := by decide +kernel
theorem dL_law_767 : decode cL_law 767 = .ok (.invokevirtual 90, 3) := by decide +kernel
theorem dL_law_770 : decode cL_law 770 = .ok (.aload_n 2, 1) := by decide +kernel
theorem dL_law_771 : decode cL_law 771 = .ok (.aload_n 0, 1) := by decide +kernel
theorem dL_law_772 : decode cL_law 772 = .ok (.iload_n 3, 1) := by decide +kernel
theorem dL_law_773 : decode cL_law 773 = .ok (.iconst 1, 1) := by decide +kernel
theorem dL_law_774 : decode cL_law 774 = .ok (.iadd, 1) := by decide +kernel
theorem dL_law_775 : decode cL_law 775 = .ok (.iaload, 1) := by decide +kernel
theorem dL_law_776 : decode cL_law 776 = .ok (.aload_n 0, 1) := by decide +kernel
theorem dL_law_777 : decode cL_law 777 = .ok (.iload_n 3, 1) := by decide +kernel
theorem dL_law_778 : decode cL_law 778 = .ok (.iconst 2, 1) := by decide +kernel
theorem dL_law_779 : decode cL_law 779 = .ok (.iadd, 1) := by decide +kernel
theorem dL_law_780 : decode cL_law 780 = .ok (.iaload, 1) := by decide +kernel
theorem dL_law_781 : decode cL_law 781 = .ok (.invokevirtual 93, 3) := by decide +kernel
theorem dL_law_784 : decode cL_law 784 = .ok (.if_icmp .eq 824, 3) := by decide +kernel
theorem dL_law_787 : decode cL_law 787 = .ok (.iconst 0, 1) := by decide +kernel
theorem dL_law_788 : decode cL_law 788 = .ok (.ireturn, 1) := by decide +kernel
theorem dL_law_789 : decode cL_law 789 = .ok (.aload_n 1, 1) := by decide +kernel
theorem dL_law_790 : decode cL_law 790 = .ok (.aload_n 0, 1) := by decide +kernel
theorem dL_law_791 : decode cL_law 791 = .ok (.iload_n 3, 1) := by decide +kernel
theorem dL_law_792 : decode cL_law 792 = .ok (.iconst 1, 1) := by decide +kernel
theorem dL_law_793 : decode cL_law 793 = .ok (.iadd, 1) := by decide +kernel
theorem dL_law_794 : decode cL_law 794 = .ok (.iaload, 1) := by decide +kernel
theorem dL_law_795 : decode cL_law 795 = .ok (.invokevirtual 94, 3) := by decide +kernel
theorem dL_law_798 : decode cL_law 798 = .ok (.aload_n 2, 1) := by decide +kernel
theorem dL_law_799 : decode cL_law 799 = .ok (.aload_n 0, 1) := by decide +kernel
theorem dL_law_800 : decode cL_law 800 = .ok (.iload_n 3, 1) := by decide +kernel
theorem dL_law_801 : decode cL_law 801 = .ok (.iconst 1, 1) := by decide +kernel
theorem dL_law_802 : decode cL_law 802 = .ok (.iadd, 1) := by decide +kernel
theorem dL_law_803 : decode cL_law 803 = .ok (.iaload, 1) := by decide +kernel
theorem dL_law_804 : decode cL_law 804 = .ok (.invokevirtual 97, 3) := by decide +kernel
theorem dL_law_807 : decode cL_law 807 = .ok (.if_icmp .eq 801, 3) := by decide +kernel
theorem dL_law_810 : decode cL_law 810 = .ok (.iconst 0, 1) := by decide +kernel
theorem dL_law_811 : decode cL_law 811 = .ok (.ireturn, 1) := by decide +kernel
theorem dL_law_812 : decode cL_law 812 = .ok (.aload_n 1, 1) := by decide +kernel
theorem dL_law_813 : decode cL_law 813 = .ok (.invokevirtual 98, 3) := by decide +kernel
theorem dL_law_816 : decode cL_law 816 = .ok (.aload_n 2, 1) := by decide +kernel
theorem dL_law_817 : decode cL_law 817 = .ok (.invokevirtual 101, 3) := by decide +kernel
theorem dL_law_820 : decode cL_law 820 = .ok (.if_icmp .eq 788, 3) := by decide +kernel
theorem dL_law_823 : decode cL_law 823 = .ok (.iconst 0, 1) := by decide +kernel
theorem dL_law_824 : decode cL_law 824 = .ok (.ireturn, 1) := by decide +kernel
theorem dL_law_825 : decode cL_law 825 = .ok (.aload_n 1, 1) := by decide +kernel
theorem dL_law_826 : decode cL_law 826 = .ok (.aload_n 0, 1) := by decide +kernel
theorem dL_law_827 : decode cL_law 827 = .ok (.iload_n 3, 1) := by decide +kernel
theorem dL_law_828 : decode cL_law 828 = .ok (.iconst 1, 1) := by decide +kernel
theorem dL_law_829 : decode cL_law 829 = .ok (.iadd, 1) := by decide +kernel
theorem dL_law_830 : decode cL_law 830 = .ok (.iaload, 1) := by decide +kernel
theorem dL_law_831 : decode cL_law 831 = .ok (.invokevirtual 102, 3) := by decide +kernel
theorem dL_law_834 : decode cL_law 834 = .ok (.aload_n 2, 1) := by decide +kernel
theorem dL_law_835 : decode cL_law 835 = .ok (.aload_n 0, 1) := by decide +kernel
theorem dL_law_836 : decode cL_law 836 = .ok (.iload_n 3, 1) := by decide +kernel
theorem dL_law_837 : decode cL_law 837 = .ok (.iconst 1, 1) := by decide +kernel
theorem dL_law_838 : decode cL_law 838 = .ok (.iadd, 1) := by decide +kernel
theorem dL_law_839 : decode cL_law 839 = .ok (.iaload, 1) := by decide +kernel
theorem dL_law_840 : decode cL_law 840 = .ok (.invokevirtual 105, 3) := by decide +kernel
theorem dL_law_843 : decode cL_law 843 = .ok (.if_icmp .eq 765, 3) := by decide +kernel
theorem dL_law_846 : decode cL_law 846 = .ok (.iconst 0, 1) := by decide +kernel
theorem dL_law_847 : decode cL_law 847 = .ok (.ireturn, 1) := by decide +kernel
theorem dL_law_848 : decode cL_law 848 = .ok (.aload_n 1, 1) := by decide +kernel
theorem dL_law_849 : decode cL_law 849 = .ok (.aload_n 0, 1) := by decide +kernel
theorem dL_law_850 : decode cL_law 850 = .ok (.iload_n 3, 1) := by decide +kernel
theorem dL_law_851 : decode cL_law 851 = .ok (.iconst 1, 1) := by decide +kernel
theorem dL_law_852 : decode cL_law 852 = .ok (.iadd, 1) := by decide +kernel
theorem dL_law_853 : decode cL_law 853 = .ok (.iaload, 1) := by decide +kernel
theorem dL_law_854 : decode cL_law 854 = .ok (.invokevirtual 106, 3) := by decide +kernel
theorem dL_law_857 : decode cL_law 857 = .ok (.aload_n 2, 1) := by decide +kernel
theorem dL_law_858 : decode cL_law 858 = .ok (.aload_n 0, 1) := by decide +kernel
theorem dL_law_859 : decode cL_law 859 = .ok (.iload_n 3, 1) := by decide +kernel
theorem dL_law_860 : decode cL_law 860 = .ok (.iconst 1, 1) := by decide +kernel
theorem dL_law_861 : decode cL_law 861 = .ok (.iadd, 1) := by decide +kernel
theorem dL_law_862 : decode cL_law 862 = .ok (.iaload, 1) := by decide +kernel
theorem dL_law_863 : decode cL_law 863 = .ok (.invokevirtual 109, 3) := by decide +kernel
theorem dL_law_866 : decode cL_law 866 = .ok (.if_icmp .eq 742, 3) := by decide +kernel
theorem dL_law_869 : decode cL_law 869 = .ok (.iconst 0, 1) := by decide +kernel
theorem dL_law_870 : decode cL_law 870 = .ok (.ireturn, 1) := by decide +kernel
theorem dL_law_871 : decode cL_law 871 = .ok (.aload_n 1, 1) := by decide +kernel
theorem dL_law_872 : decode cL_law 872 = .ok (.aload_n 0, 1) := by decide +kernel
theorem dL_law_873 : decode cL_law 873 = .ok (.iload_n 3, 1) := by decide +kernel
theorem dL_law_874 : decode cL_law 874 = .ok (.iconst 1, 1) := by decide +kernel
theorem dL_law_875 : decode cL_law 875 = .ok (.iadd, 1) := by decide +kernel
theorem dL_law_876 : decode cL_law 876 = .ok (.iaload, 1) := by decide +kernel
theorem dL_law_877 : decode cL_law 877 = .ok (.invokevirtual 110, 3) := by decide +kernel
theorem dL_law_880 : decode cL_law 880 = .ok (.aload_n 2, 1) := by decide +kernel
theorem dL_law_881 : decode cL_law 881 = .ok (.aload_n 0, 1) := by decide +kernel
theorem dL_law_882 : decode cL_law 882 = .ok (.iload_n 3, 1) := by decide +kernel
theorem dL_law_883 : decode cL_law 883 = .ok (.iconst 1, 1) := by decide +kernel
theorem dL_law_884 : decode cL_law 884 = .ok (.iadd, 1) := by decide +kernel
theorem dL_law_885 : decode cL_law 885 = .ok (.iaload, 1) := by decide +kernel
theorem dL_law_886 : decode cL_law 886 = .ok (.invokevirtual 113, 3) := by decide +kernel
theorem dL_law_889 : decode cL_law 889 = .ok (.if_icmp .eq 719, 3) := by decide +kernel
theorem dL_law_892 : decode cL_law 892 = .ok (.iconst 0, 1) := by decide +kernel
theorem dL_law_893 : decode cL_law 893 = .ok (.ireturn, 1) := by decide +kernel
theorem dL_law_894 : decode cL_law 894 = .ok (.aload_n 1, 1) := by decide +kernel
theorem dL_law_895 : decode cL_law 895 = .ok (.invokevirtual 114, 3) := by decide +kernel
theorem dL_law_898 : decode cL_law 898 = .ok (.aload_n 2, 1) := by decide +kernel
theorem dL_law_899 : decode cL_law 899 = .ok (.invokevirtual 117, 3) := by decide +kernel
theorem dL_law_902 : decode cL_law 902 = .ok (.if_icmp .eq 706, 3) := by decide +kernel
theorem dL_law_905 : decode cL_law 905 = .ok (.iconst 0, 1) := by decide +kernel
theorem dL_law_906 : decode cL_law 906 = .ok (.ireturn, 1) := by decide +kernel
theorem dL_law_907 : decode cL_law 907 = .ok (.aload_n 1, 1) := by decide +kernel
theorem dL_law_908 : decode cL_law 908 = .ok (.invokevirtual 118, 3) := by decide +kernel
theorem dL_law_911 : decode cL_law 911 = .ok (.aload_n 2, 1) := by decide +kernel
theorem dL_law_912 : decode cL_law 912 = .ok (.invokevirtual 121, 3) := by decide +kernel
theorem dL_law_915 : decode cL_law 915 = .ok (.if_icmp .eq 693, 3) := by decide +kernel
theorem dL_law_918 : decode cL_law 918 = .ok (.iconst 0, 1) := by decide +kernel
theorem dL_law_919 : decode cL_law 919 = .ok (.ireturn, 1) := by decide +kernel
theorem dL_law_920 : decode cL_law 920 = .ok (.aload_n 1, 1) := by decide +kernel
theorem dL_law_921 : decode cL_law 921 = .ok (.aload_n 0, 1) := by decide +kernel
theorem dL_law_922 : decode cL_law 922 = .ok (.iload_n 3, 1) := by decide +kernel
theorem dL_law_923 : decode cL_law 923 = .ok (.iconst 1, 1) := by decide +kernel
theorem dL_law_924 : decode cL_law 924 = .ok (.iadd, 1) := by decide +kernel
theorem dL_law_925 : decode cL_law 925 = .ok (.iaload, 1) := by decide +kernel
theorem dL_law_926 : decode cL_law 926 = .ok (.invokevirtual 122, 3) := by decide +kernel
theorem dL_law_929 : decode cL_law 929 = .ok (.aload_n 2, 1) := by decide +kernel
theorem dL_law_930 : decode cL_law 930 = .ok (.aload_n 0, 1) := by decide +kernel
theorem dL_law_931 : decode cL_law 931 = .ok (.iload_n 3, 1) := by decide +kernel
theorem dL_law_932 : decode cL_law 932 = .ok (.iconst 1, 1) := by decide +kernel
theorem dL_law_933 : decode cL_law 933 = .ok (.iadd, 1) := by decide +kernel
theorem dL_law_934 : decode cL_law 934 = .ok (.iaload, 1) := by decide +kernel
theorem dL_law_935 : decode cL_law 935 = .ok (.invokevirtual 125, 3) := by decide +kernel
theorem dL_law_938 : decode cL_law 938 = .ok (.if_icmp .eq 670, 3) := by decide +kernel
theorem dL_law_941 : decode cL_law 941 = .ok (.iconst 0, 1) := by decide +kernel
theorem dL_law_942 : decode cL_law 942 = .ok (.ireturn, 1) := by decide +kernel
theorem dL_law_943 : decode cL_law 943 = .ok (.aload_n 1, 1) := by decide +kernel
theorem dL_law_944 : decode cL_law 944 = .ok (.aload_n 0, 1) := by decide +kernel
theorem dL_law_945 : decode cL_law 945 = .ok (.iload_n 3, 1) := by decide +kernel
theorem dL_law_946 : decode cL_law 946 = .ok (.iconst 1, 1) := by decide +kernel
theorem dL_law_947 : decode cL_law 947 = .ok (.iadd, 1) := by decide +kernel
theorem dL_law_948 : decode cL_law 948 = .ok (.iaload, 1) := by decide +kernel
theorem dL_law_949 : decode cL_law 949 = .ok (.invokevirtual 126, 3) := by decide +kernel
theorem dL_law_952 : decode cL_law 952 = .ok (.aload_n 2, 1) := by decide +kernel
theorem dL_law_953 : decode cL_law 953 = .ok (.aload_n 0, 1) := by decide +kernel
theorem dL_law_954 : decode cL_law 954 = .ok (.iload_n 3, 1) := by decide +kernel
theorem dL_law_955 : decode cL_law 955 = .ok (.iconst 1, 1) := by decide +kernel
theorem dL_law_956 : decode cL_law 956 = .ok (.iadd, 1) := by decide +kernel
theorem dL_law_957 : decode cL_law 957 = .ok (.iaload, 1) := by decide +kernel
theorem dL_law_958 : decode cL_law 958 = .ok (.invokevirtual 129, 3) := by decide +kernel
theorem dL_law_961 : decode cL_law 961 = .ok (.if_icmp .eq 647, 3) := by decide +kernel
theorem dL_law_964 : decode cL_law 964 = .ok (.iconst 0, 1) := by decide +kernel
theorem dL_law_965 : decode cL_law 965 = .ok (.ireturn, 1) := by decide +kernel
theorem dL_law_966 : decode cL_law 966 = .ok (.aload_n 1, 1) := by decide +kernel
theorem dL_law_967 : decode cL_law 967 = .ok (.aload_n 0, 1) := by decide +kernel
theorem dL_law_968 : decode cL_law 968 = .ok (.iload_n 3, 1) := by decide +kernel
theorem dL_law_969 : decode cL_law 969 = .ok (.iconst 1, 1) := by decide +kernel
theorem dL_law_970 : decode cL_law 970 = .ok (.iadd, 1) := by decide +kernel
theorem dL_law_971 : decode cL_law 971 = .ok (.iaload, 1) := by decide +kernel
theorem dL_law_972 : decode cL_law 972 = .ok (.aload_n 0, 1) := by decide +kernel
theorem dL_law_973 : decode cL_law 973 = .ok (.iload_n 3, 1) := by decide +kernel
theorem dL_law_974 : decode cL_law 974 = .ok (.iconst 2, 1) := by decide +kernel
theorem dL_law_975 : decode cL_law 975 = .ok (.iadd, 1) := by decide +kernel
theorem dL_law_976 : decode cL_law 976 = .ok (.iaload, 1) := by decide +kernel
theorem dL_law_977 : decode cL_law 977 = .ok (.invokevirtual 130, 3) := by decide +kernel
theorem dL_law_980 : decode cL_law 980 = .ok (.aload_n 2, 1) := by decide +kernel
theorem dL_law_981 : decode cL_law 981 = .ok (.aload_n 0, 1) := by decide +kernel
theorem dL_law_982 : decode cL_law 982 = .ok (.iload_n 3, 1) := by decide +kernel
theorem dL_law_983 : decode cL_law 983 = .ok (.iconst 1, 1) := by decide +kernel
theorem dL_law_984 : decode cL_law 984 = .ok (.iadd, 1) := by decide +kernel
theorem dL_law_985 : decode cL_law 985 = .ok (.iaload, 1) := by decide +kernel
theorem dL_law_986 : decode cL_law 986 = .ok (.aload_n 0, 1) := by decide +kernel
theorem dL_law_987 : decode cL_law 987 = .ok (.iload_n 3, 1) := by decide +kernel
theorem dL_law_988 : decode cL_law 988 = .ok (.iconst 2, 1) := by decide +kernel
theorem dL_law_989 : decode cL_law 989 = .ok (.iadd, 1) := by decide +kernel
theorem dL_law_990 : decode cL_law 990 = .ok (.iaload, 1) := by decide +kernel
theorem dL_law_991 : decode cL_law 991 = .ok (.invokevirtual 133, 3) := by decide +kernel
theorem dL_law_994 : decode cL_law 994 = .ok (.if_icmp .eq 614, 3) := by decide +kernel
theorem dL_law_997 : decode cL_law 997 = .ok (.iconst 0, 1) := by decide +kernel
theorem dL_law_998 : decode cL_law 998 = .ok (.ireturn, 1) := by decide +kernel
theorem dL_law_999 : decode cL_law 999 = .ok (.aload_n 1, 1) := by decide +kernel
theorem dL_law_1000 : decode cL_law 1000 = .ok (.aload_n 0, 1) := by decide +kernel
theorem dL_law_1001 : decode cL_law 1001 = .ok (.iload_n 3, 1) := by decide +kernel
theorem dL_law_1002 : decode cL_law 1002 = .ok (.iconst 1, 1) := by decide +kernel
theorem dL_law_1003 : decode cL_law 1003 = .ok (.iadd, 1) := by decide +kernel
theorem dL_law_1004 : decode cL_law 1004 = .ok (.iaload, 1) := by decide +kernel
theorem dL_law_1005 : decode cL_law 1005 = .ok (.aload_n 0, 1) := by decide +kernel
theorem dL_law_1006 : decode cL_law 1006 = .ok (.iload_n 3, 1) := by decide +kernel
theorem dL_law_1007 : decode cL_law 1007 = .ok (.iconst 2, 1) := by decide +kernel
theorem dL_law_1008 : decode cL_law 1008 = .ok (.iadd, 1) := by decide +kernel
theorem dL_law_1009 : decode cL_law 1009 = .ok (.iaload, 1) := by decide +kernel
theorem dL_law_1010 : decode cL_law 1010 = .ok (.invokevirtual 134, 3) := by decide +kernel
theorem dL_law_1013 : decode cL_law 1013 = .ok (.aload_n 2, 1) := by decide +kernel
theorem dL_law_1014 : decode cL_law 1014 = .ok (.aload_n 0, 1) := by decide +kernel
theorem dL_law_1015 : decode cL_law 1015 = .ok (.iload_n 3, 1) := by decide +kernel
theorem dL_law_1016 : decode cL_law 1016 = .ok (.iconst 1, 1) := by decide +kernel
theorem dL_law_1017 : decode cL_law 1017 = .ok (.iadd, 1) := by decide +kernel
theorem dL_law_1018 : decode cL_law 1018 = .ok (.iaload, 1) := by decide +kernel
theorem dL_law_1019 : decode cL_law 1019 = .ok (.aload_n 0, 1) := by decide +kernel
theorem dL_law_1020 : decode cL_law 1020 = .ok (.iload_n 3, 1) := by decide +kernel
theorem dL_law_1021 : decode cL_law 1021 = .ok (.iconst 2, 1) := by decide +kernel
theorem dL_law_1022 : decode cL_law 1022 = .ok (.iadd, 1) := by decide +kernel
theorem dL_law_1023 : decode cL_law 1023 = .ok (.iaload, 1) := by decide +kernel
theorem dL_law_1024 : decode cL_law 1024 = .ok (.invokevirtual 137, 3) := by decide +kernel
theorem dL_law_1027 : decode cL_law 1027 = .ok (.if_icmp .eq 581, 3) := by decide +kernel
theorem dL_law_1030 : decode cL_law 1030 = .ok (.iconst 0, 1) := by decide +kernel
theorem dL_law_1031 : decode cL_law 1031 = .ok (.ireturn, 1) := by decide +kernel
theorem dL_law_1032 : decode cL_law 1032 = .ok (.aload_n 1, 1) := by decide +kernel
theorem dL_law_1033 : decode cL_law 1033 = .ok (.aload_n 0, 1) := by decide +kernel
theorem dL_law_1034 : decode cL_law 1034 = .ok (.iload_n 3, 1) := by decide +kernel
theorem dL_law_1035 : decode cL_law 1035 = .ok (.iconst 1, 1) := by decide +kernel
theorem dL_law_1036 : decode cL_law 1036 = .ok (.iadd, 1) := by decide +kernel
theorem dL_law_1037 : decode cL_law 1037 = .ok (.iaload, 1) := by decide +kernel
theorem dL_law_1038 : decode cL_law 1038 = .ok (.invokevirtual 138, 3) := by decide +kernel
theorem dL_law_1041 : decode cL_law 1041 = .ok (.aload_n 2, 1) := by decide +kernel
theorem dL_law_1042 : decode cL_law 1042 = .ok (.aload_n 0, 1) := by decide +kernel
theorem dL_law_1043 : decode cL_law 1043 = .ok (.iload_n 3, 1) := by decide +kernel
theorem dL_law_1044 : decode cL_law 1044 = .ok (.iconst 1, 1) := by decide +kernel
theorem dL_law_1045 : decode cL_law 1045 = .ok (.iadd, 1) := by decide +kernel
theorem dL_law_1046 : decode cL_law 1046 = .ok (.iaload, 1) := by decide +kernel
theorem dL_law_1047 : decode cL_law 1047 = .ok (.invokevirtual 141, 3) := by decide +kernel
theorem dL_law_1050 : decode cL_law 1050 = .ok (.if_icmp .eq 558, 3) := by decide +kernel
theorem dL_law_1053 : decode cL_law 1053 = .ok (.iconst 0, 1) := by decide +kernel
theorem dL_law_1054 : decode cL_law 1054 = .ok (.ireturn, 1) := by decide +kernel
theorem dL_law_1055 : decode cL_law 1055 = .ok (.aload_n 1, 1) := by decide +kernel
theorem dL_law_1056 : decode cL_law 1056 = .ok (.aload_n 0, 1) := by decide +kernel
theorem dL_law_1057 : decode cL_law 1057 = .ok (.iload_n 3, 1) := by decide +kernel
theorem dL_law_1058 : decode cL_law 1058 = .ok (.iconst 1, 1) := by decide +kernel
theorem dL_law_1059 : decode cL_law 1059 = .ok (.iadd, 1) := by decide +kernel
theorem dL_law_1060 : decode cL_law 1060 = .ok (.iaload, 1) := by decide +kernel
theorem dL_law_1061 : decode cL_law 1061 = .ok (.invokevirtual 142, 3) := by decide +kernel
theorem dL_law_1064 : decode cL_law 1064 = .ok (.aload_n 2, 1) := by decide +kernel
theorem dL_law_1065 : decode cL_law 1065 = .ok (.aload_n 0, 1) := by decide +kernel
theorem dL_law_1066 : decode cL_law 1066 = .ok (.iload_n 3, 1) := by decide +kernel
theorem dL_law_1067 : decode cL_law 1067 = .ok (.iconst 1, 1) := by decide +kernel
theorem dL_law_1068 : decode cL_law 1068 = .ok (.iadd, 1) := by decide +kernel
theorem dL_law_1069 : decode cL_law 1069 = .ok (.iaload, 1) := by decide +kernel
theorem dL_law_1070 : decode cL_law 1070 = .ok (.invokevirtual 145, 3) := by decide +kernel
theorem dL_law_1073 : decode cL_law 1073 = .ok (.if_icmp .eq 535, 3) := by decide +kernel
theorem dL_law_1076 : decode cL_law 1076 = .ok (.iconst 0, 1) := by decide +kernel
theorem dL_law_1077 : decode cL_law 1077 = .ok (.ireturn, 1) := by decide +kernel
theorem dL_law_1078 : decode cL_law 1078 = .ok (.aload_n 1, 1) := by decide +kernel
theorem dL_law_1079 : decode cL_law 1079 = .ok (.aload_n 0, 1) := by decide +kernel
theorem dL_law_1080 : decode cL_law 1080 = .ok (.iload_n 3, 1) := by decide +kernel
theorem dL_law_1081 : decode cL_law 1081 = .ok (.iconst 1, 1) := by decide +kernel
theorem dL_law_1082 : decode cL_law 1082 = .ok (.iadd, 1) := by decide +kernel
theorem dL_law_1083 : decode cL_law 1083 = .ok (.iaload, 1) := by decide +kernel
theorem dL_law_1084 : decode cL_law 1084 = .ok (.invokevirtual 146, 3) := by decide +kernel
theorem dL_law_1087 : decode cL_law 1087 = .ok (.aload_n 2, 1) := by decide +kernel
theorem dL_law_1088 : decode cL_law 1088 = .ok (.aload_n 0, 1) := by decide +kernel
theorem dL_law_1089 : decode cL_law 1089 = .ok (.iload_n 3, 1) := by decide +kernel
theorem dL_law_1090 : decode cL_law 1090 = .ok (.iconst 1, 1) := by decide +kernel
theorem dL_law_1091 : decode cL_law 1091 = .ok (.iadd, 1) := by decide +kernel
theorem dL_law_1092 : decode cL_law 1092 = .ok (.iaload, 1) := by decide +kernel
theorem dL_law_1093 : decode cL_law 1093 = .ok (.invokevirtual 149, 3) := by decide +kernel
theorem dL_law_1096 : decode cL_law 1096 = .ok (.if_icmp .eq 512, 3) := by decide +kernel
theorem dL_law_1099 : decode cL_law 1099 = .ok (.iconst 0, 1) := by decide +kernel
theorem dL_law_1100 : decode cL_law 1100 = .ok (.ireturn, 1) := by decide +kernel
theorem dL_law_1101 : decode cL_law 1101 = .ok (.aload_n 1, 1) := by decide +kernel
theorem dL_law_1102 : decode cL_law 1102 = .ok (.aload_n 0, 1) := by decide +kernel
theorem dL_law_1103 : decode cL_law 1103 = .ok (.iload_n 3, 1) := by decide +kernel
theorem dL_law_1104 : decode cL_law 1104 = .ok (.iconst 1, 1) := by decide +kernel
theorem dL_law_1105 : decode cL_law 1105 = .ok (.iadd, 1) := by decide +kernel
theorem dL_law_1106 : decode cL_law 1106 = .ok (.iaload, 1) := by decide +kernel
theorem dL_law_1107 : decode cL_law 1107 = .ok (.invokevirtual 150, 3) := by decide +kernel
theorem dL_law_1110 : decode cL_law 1110 = .ok (.aload_n 2, 1) := by decide +kernel
theorem dL_law_1111 : decode cL_law 1111 = .ok (.aload_n 0, 1) := by decide +kernel
theorem dL_law_1112 : decode cL_law 1112 = .ok (.iload_n 3, 1) := by decide +kernel
theorem dL_law_1113 : decode cL_law 1113 = .ok (.iconst 1, 1) := by decide +kernel
theorem dL_law_1114 : decode cL_law 1114 = .ok (.iadd, 1) := by decide +kernel
theorem dL_law_1115 : decode cL_law 1115 = .ok (.iaload, 1) := by decide +kernel
theorem dL_law_1116 : decode cL_law 1116 = .ok (.invokevirtual 153, 3) := by decide +kernel
theorem dL_law_1119 : decode cL_law 1119 = .ok (.if_icmp .eq 489, 3) := by decide +kernel
theorem dL_law_1122 : decode cL_law 1122 = .ok (.iconst 0, 1) := by decide +kernel
theorem dL_law_1123 : decode cL_law 1123 = .ok (.ireturn, 1) := by decide +kernel
theorem dL_law_1124 : decode cL_law 1124 = .ok (.aload_n 1, 1) := by decide +kernel
theorem dL_law_1125 : decode cL_law 1125 = .ok (.aload_n 0, 1) := by decide +kernel
theorem dL_law_1126 : decode cL_law 1126 = .ok (.iload_n 3, 1) := by decide +kernel
theorem dL_law_1127 : decode cL_law 1127 = .ok (.iconst 1, 1) := by decide +kernel
theorem dL_law_1128 : decode cL_law 1128 = .ok (.iadd, 1) := by decide +kernel
theorem dL_law_1129 : decode cL_law 1129 = .ok (.iaload, 1) := by decide +kernel
theorem dL_law_1130 : decode cL_law 1130 = .ok (.aload_n 0, 1) := by decide +kernel
theorem dL_law_1131 : decode cL_law 1131 = .ok (.iload_n 3, 1) := by decide +kernel
theorem dL_law_1132 : decode cL_law 1132 = .ok (.iconst 2, 1) := by decide +kernel
theorem dL_law_1133 : decode cL_law 1133 = .ok (.iadd, 1) := by decide +kernel
theorem dL_law_1134 : decode cL_law 1134 = .ok (.iaload, 1) := by decide +kernel
theorem dL_law_1135 : decode cL_law 1135 = .ok (.invokevirtual 154, 3) := by decide +kernel
theorem dL_law_1138 : decode cL_law 1138 = .ok (.aload_n 2, 1) := by decide +kernel
theorem dL_law_1139 : decode cL_law 1139 = .ok (.aload_n 0, 1) := by decide +kernel
theorem dL_law_1140 : decode cL_law 1140 = .ok (.iload_n 3, 1) := by decide +kernel
theorem dL_law_1141 : decode cL_law 1141 = .ok (.iconst 1, 1) := by decide +kernel
theorem dL_law_1142 : decode cL_law 1142 = .ok (.iadd, 1) := by decide +kernel
theorem dL_law_1143 : decode cL_law 1143 = .ok (.iaload, 1) := by decide +kernel
theorem dL_law_1144 : decode cL_law 1144 = .ok (.aload_n 0, 1) := by decide +kernel
theorem dL_law_1145 : decode cL_law 1145 = .ok (.iload_n 3, 1) := by decide +kernel
theorem dL_law_1146 : decode cL_law 1146 = .ok (.iconst 2, 1) := by decide +kernel
theorem dL_law_1147 : decode cL_law 1147 = .ok (.iadd, 1) := by decide +kernel
theorem dL_law_1148 : decode cL_law 1148 = .ok (.iaload, 1) := by decide +kernel
theorem dL_law_1149 : decode cL_law 1149 = .ok (.invokevirtual 157, 3) := by decide +kernel
theorem dL_law_1152 : decode cL_law 1152 = .ok (.if_icmp .eq 456, 3) := by decide +kernel
theorem dL_law_1155 : decode cL_law 1155 = .ok (.iconst 0, 1) := by decide +kernel
theorem dL_law_1156 : decode cL_law 1156 = .ok (.ireturn, 1) := by decide +kernel
theorem dL_law_1157 : decode cL_law 1157 = .ok (.aload_n 1, 1) := by decide +kernel
theorem dL_law_1158 : decode cL_law 1158 = .ok (.invokevirtual 158, 3) := by decide +kernel
theorem dL_law_1161 : decode cL_law 1161 = .ok (.aload_n 2, 1) := by decide +kernel
theorem dL_law_1162 : decode cL_law 1162 = .ok (.invokevirtual 161, 3) := by decide +kernel
theorem dL_law_1165 : decode cL_law 1165 = .ok (.if_icmp .eq 443, 3) := by decide +kernel
theorem dL_law_1168 : decode cL_law 1168 = .ok (.iconst 0, 1) := by decide +kernel
theorem dL_law_1169 : decode cL_law 1169 = .ok (.ireturn, 1) := by decide +kernel
theorem dL_law_1170 : decode cL_law 1170 = .ok (.aload_n 1, 1) := by decide +kernel
theorem dL_law_1171 : decode cL_law 1171 = .ok (.aload_n 0, 1) := by decide +kernel
theorem dL_law_1172 : decode cL_law 1172 = .ok (.iload_n 3, 1) := by decide +kernel
theorem dL_law_1173 : decode cL_law 1173 = .ok (.iconst 1, 1) := by decide +kernel
theorem dL_law_1174 : decode cL_law 1174 = .ok (.iadd, 1) := by decide +kernel
theorem dL_law_1175 : decode cL_law 1175 = .ok (.iaload, 1) := by decide +kernel
theorem dL_law_1176 : decode cL_law 1176 = .ok (.invokevirtual 162, 3) := by decide +kernel
theorem dL_law_1179 : decode cL_law 1179 = .ok (.aload_n 2, 1) := by decide +kernel
theorem dL_law_1180 : decode cL_law 1180 = .ok (.aload_n 0, 1) := by decide +kernel
theorem dL_law_1181 : decode cL_law 1181 = .ok (.iload_n 3, 1) := by decide +kernel
theorem dL_law_1182 : decode cL_law 1182 = .ok (.iconst 1, 1) := by decide +kernel
theorem dL_law_1183 : decode cL_law 1183 = .ok (.iadd, 1) := by decide +kernel
theorem dL_law_1184 : decode cL_law 1184 = .ok (.iaload, 1) := by decide +kernel
theorem dL_law_1185 : decode cL_law 1185 = .ok (.invokevirtual 165, 3) := by decide +kernel
theorem dL_law_1188 : decode cL_law 1188 = .ok (.if_icmp .eq 420, 3) := by decide +kernel
theorem dL_law_1191 : decode cL_law 1191 = .ok (.iconst 0, 1) := by decide +kernel
theorem dL_law_1192 : decode cL_law 1192 = .ok (.ireturn, 1) := by decide +kernel
theorem dL_law_1193 : decode cL_law 1193 = .ok (.aload_n 1, 1) := by decide +kernel
theorem dL_law_1194 : decode cL_law 1194 = .ok (.aload_n 0, 1) := by decide +kernel
theorem dL_law_1195 : decode cL_law 1195 = .ok (.iload_n 3, 1) := by decide +kernel
theorem dL_law_1196 : decode cL_law 1196 = .ok (.iconst 1, 1) := by decide +kernel
theorem dL_law_1197 : decode cL_law 1197 = .ok (.iadd, 1) := by decide +kernel
theorem dL_law_1198 : decode cL_law 1198 = .ok (.iaload, 1) := by decide +kernel
theorem dL_law_1199 : decode cL_law 1199 = .ok (.aload_n 0, 1) := by decide +kernel
theorem dL_law_1200 : decode cL_law 1200 = .ok (.iload_n 3, 1) := by decide +kernel
theorem dL_law_1201 : decode cL_law 1201 = .ok (.iconst 2, 1) := by decide +kernel
theorem dL_law_1202 : decode cL_law 1202 = .ok (.iadd, 1) := by decide +kernel
theorem dL_law_1203 : decode cL_law 1203 = .ok (.iaload, 1) := by decide +kernel
theorem dL_law_1204 : decode cL_law 1204 = .ok (.invokevirtual 166, 3) := by decide +kernel
theorem dL_law_1207 : decode cL_law 1207 = .ok (.aload_n 2, 1) := by decide +kernel
theorem dL_law_1208 : decode cL_law 1208 = .ok (.aload_n 0, 1) := by decide +kernel
theorem dL_law_1209 : decode cL_law 1209 = .ok (.iload_n 3, 1) := by decide +kernel
theorem dL_law_1210 : decode cL_law 1210 = .ok (.iconst 1, 1) := by decide +kernel
theorem dL_law_1211 : decode cL_law 1211 = .ok (.iadd, 1) := by decide +kernel
theorem dL_law_1212 : decode cL_law 1212 = .ok (.iaload, 1) := by decide +kernel
theorem dL_law_1213 : decode cL_law 1213 = .ok (.aload_n 0, 1) := by decide +kernel
theorem dL_law_1214 : decode cL_law 1214 = .ok (.iload_n 3, 1) := by decide +kernel
theorem dL_law_1215 : decode cL_law 1215 = .ok (.iconst 2, 1) := by decide +kernel
theorem dL_law_1216 : decode cL_law 1216 = .ok (.iadd, 1) := by decide +kernel
theorem dL_law_1217 : decode cL_law 1217 = .ok (.iaload, 1) := by decide +kernel
theorem dL_law_1218 : decode cL_law 1218 = .ok (.invokevirtual 169, 3) := by decide +kernel
theorem dL_law_1221 : decode cL_law 1221 = .ok (.if_icmp .eq 387, 3) := by decide +kernel
theorem dL_law_1224 : decode cL_law 1224 = .ok (.iconst 0, 1) := by decide +kernel
theorem dL_law_1225 : decode cL_law 1225 = .ok (.ireturn, 1) := by decide +kernel
theorem dL_law_1226 : decode cL_law 1226 = .ok (.aload_n 1, 1) := by decide +kernel
theorem dL_law_1227 : decode cL_law 1227 = .ok (.aload_n 0, 1) := by decide +kernel
theorem dL_law_1228 : decode cL_law 1228 = .ok (.iload_n 3, 1) := by decide +kernel
theorem dL_law_1229 : decode cL_law 1229 = .ok (.iconst 1, 1) := by decide +kernel
theorem dL_law_1230 : decode cL_law 1230 = .ok (.iadd, 1) := by decide +kernel
theorem dL_law_1231 : decode cL_law 1231 = .ok (.iaload, 1) := by decide +kernel
theorem dL_law_1232 : decode cL_law 1232 = .ok (.aload_n 0, 1) := by decide +kernel
theorem dL_law_1233 : decode cL_law 1233 = .ok (.iload_n 3, 1) := by decide +kernel
theorem dL_law_1234 : decode cL_law 1234 = .ok (.iconst 2, 1) := by decide +kernel
theorem dL_law_1235 : decode cL_law 1235 = .ok (.iadd, 1) := by decide +kernel
theorem dL_law_1236 : decode cL_law 1236 = .ok (.iaload, 1) := by decide +kernel
theorem dL_law_1237 : decode cL_law 1237 = .ok (.invokevirtual 170, 3) := by decide +kernel
theorem dL_law_1240 : decode cL_law 1240 = .ok (.aload_n 2, 1) := by decide +kernel
theorem dL_law_1241 : decode cL_law 1241 = .ok (.aload_n 0, 1) := by decide +kernel
theorem dL_law_1242 : decode cL_law 1242 = .ok (.iload_n 3, 1) := by decide +kernel
theorem dL_law_1243 : decode cL_law 1243 = .ok (.iconst 1, 1) := by decide +kernel
theorem dL_law_1244 : decode cL_law 1244 = .ok (.iadd, 1) := by decide +kernel
theorem dL_law_1245 : decode cL_law 1245 = .ok (.iaload, 1) := by decide +kernel
theorem dL_law_1246 : decode cL_law 1246 = .ok (.aload_n 0, 1) := by decide +kernel
theorem dL_law_1247 : decode cL_law 1247 = .ok (.iload_n 3, 1) := by decide +kernel
theorem dL_law_1248 : decode cL_law 1248 = .ok (.iconst 2, 1) := by decide +kernel
theorem dL_law_1249 : decode cL_law 1249 = .ok (.iadd, 1) := by decide +kernel
theorem dL_law_1250 : decode cL_law 1250 = .ok (.iaload, 1) := by decide +kernel
theorem dL_law_1251 : decode cL_law 1251 = .ok (.invokevirtual 173, 3) := by decide +kernel
theorem dL_law_1254 : decode cL_law 1254 = .ok (.if_icmp .eq 354, 3) := by decide +kernel
theorem dL_law_1257 : decode cL_law 1257 = .ok (.iconst 0, 1) := by decide +kernel
theorem dL_law_1258 : decode cL_law 1258 = .ok (.ireturn, 1) := by decide +kernel
theorem dL_law_1259 : decode cL_law 1259 = .ok (.aload_n 1, 1) := by decide +kernel
theorem dL_law_1260 : decode cL_law 1260 = .ok (.aload_n 0, 1) := by decide +kernel
theorem dL_law_1261 : decode cL_law 1261 = .ok (.iload_n 3, 1) := by decide +kernel
theorem dL_law_1262 : decode cL_law 1262 = .ok (.iconst 1, 1) := by decide +kernel
theorem dL_law_1263 : decode cL_law 1263 = .ok (.iadd, 1) := by decide +kernel
theorem dL_law_1264 : decode cL_law 1264 = .ok (.iaload, 1) := by decide +kernel
theorem dL_law_1265 : decode cL_law 1265 = .ok (.aload_n 0, 1) := by decide +kernel
theorem dL_law_1266 : decode cL_law 1266 = .ok (.iload_n 3, 1) := by decide +kernel
theorem dL_law_1267 : decode cL_law 1267 = .ok (.iconst 2, 1) := by decide +kernel
theorem dL_law_1268 : decode cL_law 1268 = .ok (.iadd, 1) := by decide +kernel
theorem dL_law_1269 : decode cL_law 1269 = .ok (.iaload, 1) := by decide +kernel
theorem dL_law_1270 : decode cL_law 1270 = .ok (.invokevirtual 174, 3) := by decide +kernel
theorem dL_law_1273 : decode cL_law 1273 = .ok (.aload_n 2, 1) := by decide +kernel
theorem dL_law_1274 : decode cL_law 1274 = .ok (.aload_n 0, 1) := by decide +kernel
theorem dL_law_1275 : decode cL_law 1275 = .ok (.iload_n 3, 1) := by decide +kernel
theorem dL_law_1276 : decode cL_law 1276 = .ok (.iconst 1, 1) := by decide +kernel
theorem dL_law_1277 : decode cL_law 1277 = .ok (.iadd, 1) := by decide +kernel
theorem dL_law_1278 : decode cL_law 1278 = .ok (.iaload, 1) := by decide +kernel
theorem dL_law_1279 : decode cL_law 1279 = .ok (.aload_n 0, 1) := by decide +kernel
theorem dL_law_1280 : decode cL_law 1280 = .ok (.iload_n 3, 1) := by decide +kernel
theorem dL_law_1281 : decode cL_law 1281 = .ok (.iconst 2, 1) := by decide +kernel
theorem dL_law_1282 : decode cL_law 1282 = .ok (.iadd, 1) := by decide +kernel
theorem dL_law_1283 : decode cL_law 1283 = .ok (.iaload, 1) := by decide +kernel
theorem dL_law_1284 : decode cL_law 1284 = .ok (.invokevirtual 177, 3) := by decide +kernel
theorem dL_law_1287 : decode cL_law 1287 = .ok (.if_icmp .eq 321, 3) := by decide +kernel
theorem dL_law_1290 : decode cL_law 1290 = .ok (.iconst 0, 1) := by decide +kernel
theorem dL_law_1291 : decode cL_law 1291 = .ok (.ireturn, 1) := by decide +kernel
theorem dL_law_1292 : decode cL_law 1292 = .ok (.aload_n 1, 1) := by decide +kernel
theorem dL_law_1293 : decode cL_law 1293 = .ok (.aload_n 0, 1) := by decide +kernel
theorem dL_law_1294 : decode cL_law 1294 = .ok (.iload_n 3, 1) := by decide +kernel
theorem dL_law_1295 : decode cL_law 1295 = .ok (.iconst 1, 1) := by decide +kernel
theorem dL_law_1296 : decode cL_law 1296 = .ok (.iadd, 1) := by decide +kernel
theorem dL_law_1297 : decode cL_law 1297 = .ok (.iaload, 1) := by decide +kernel
theorem dL_law_1298 : decode cL_law 1298 = .ok (.invokevirtual 178, 3) := by decide +kernel
theorem dL_law_1301 : decode cL_law 1301 = .ok (.aload_n 2, 1) := by decide +kernel
theorem dL_law_1302 : decode cL_law 1302 = .ok (.aload_n 0, 1) := by decide +kernel
theorem dL_law_1303 : decode cL_law 1303 = .ok (.iload_n 3, 1) := by decide +kernel
theorem dL_law_1304 : decode cL_law 1304 = .ok (.iconst 1, 1) := by decide +kernel
theorem dL_law_1305 : decode cL_law 1305 = .ok (.iadd, 1) := by decide +kernel
theorem dL_law_1306 : decode cL_law 1306 = .ok (.iaload, 1) := by decide +kernel
theorem dL_law_1307 : decode cL_law 1307 = .ok (.invokevirtual 181, 3) := by decide +kernel
theorem dL_law_1310 : decode cL_law 1310 = .ok (.if_icmp .eq 298, 3) := by decide +kernel
theorem dL_law_1313 : decode cL_law 1313 = .ok (.iconst 0, 1) := by decide +kernel
theorem dL_law_1314 : decode cL_law 1314 = .ok (.ireturn, 1) := by decide +kernel
theorem dL_law_1315 : decode cL_law 1315 = .ok (.aload_n 1, 1) := by decide +kernel
theorem dL_law_1316 : decode cL_law 1316 = .ok (.aload_n 0, 1) := by decide +kernel
theorem dL_law_1317 : decode cL_law 1317 = .ok (.iload_n 3, 1) := by decide +kernel
theorem dL_law_1318 : decode cL_law 1318 = .ok (.iconst 1, 1) := by decide +kernel
theorem dL_law_1319 : decode cL_law 1319 = .ok (.iadd, 1) := by decide +kernel
theorem dL_law_1320 : decode cL_law 1320 = .ok (.iaload, 1) := by decide +kernel
theorem dL_law_1321 : decode cL_law 1321 = .ok (.invokevirtual 182, 3) := by decide +kernel
theorem dL_law_1324 : decode cL_law 1324 = .ok (.aload_n 2, 1) := by decide +kernel
theorem dL_law_1325 : decode cL_law 1325 = .ok (.aload_n 0, 1) := by decide +kernel
theorem dL_law_1326 : decode cL_law 1326 = .ok (.iload_n 3, 1) := by decide +kernel
theorem dL_law_1327 : decode cL_law 1327 = .ok (.iconst 1, 1) := by decide +kernel
theorem dL_law_1328 : decode cL_law 1328 = .ok (.iadd, 1) := by decide +kernel
theorem dL_law_1329 : decode cL_law 1329 = .ok (.iaload, 1) := by decide +kernel
theorem dL_law_1330 : decode cL_law 1330 = .ok (.invokevirtual 185, 3) := by decide +kernel
theorem dL_law_1333 : decode cL_law 1333 = .ok (.if_icmp .eq 275, 3) := by decide +kernel
theorem dL_law_1336 : decode cL_law 1336 = .ok (.iconst 0, 1) := by decide +kernel
theorem dL_law_1337 : decode cL_law 1337 = .ok (.ireturn, 1) := by decide +kernel
theorem dL_law_1338 : decode cL_law 1338 = .ok (.aload_n 1, 1) := by decide +kernel
theorem dL_law_1339 : decode cL_law 1339 = .ok (.aload_n 0, 1) := by decide +kernel
theorem dL_law_1340 : decode cL_law 1340 = .ok (.iload_n 3, 1) := by decide +kernel
theorem dL_law_1341 : decode cL_law 1341 = .ok (.iconst 1, 1) := by decide +kernel
theorem dL_law_1342 : decode cL_law 1342 = .ok (.iadd, 1) := by decide +kernel
theorem dL_law_1343 : decode cL_law 1343 = .ok (.iaload, 1) := by decide +kernel
theorem dL_law_1344 : decode cL_law 1344 = .ok (.invokevirtual 186, 3) := by decide +kernel
theorem dL_law_1347 : decode cL_law 1347 = .ok (.aload_n 2, 1) := by decide +kernel
theorem dL_law_1348 : decode cL_law 1348 = .ok (.aload_n 0, 1) := by decide +kernel
theorem dL_law_1349 : decode cL_law 1349 = .ok (.iload_n 3, 1) := by decide +kernel
theorem dL_law_1350 : decode cL_law 1350 = .ok (.iconst 1, 1) := by decide +kernel
theorem dL_law_1351 : decode cL_law 1351 = .ok (.iadd, 1) := by decide +kernel
theorem dL_law_1352 : decode cL_law 1352 = .ok (.iaload, 1) := by decide +kernel
theorem dL_law_1353 : decode cL_law 1353 = .ok (.invokevirtual 189, 3) := by decide +kernel
theorem dL_law_1356 : decode cL_law 1356 = .ok (.if_icmp .eq 252, 3) := by decide +kernel
theorem dL_law_1359 : decode cL_law 1359 = .ok (.iconst 0, 1) := by decide +kernel
theorem dL_law_1360 : decode cL_law 1360 = .ok (.ireturn, 1) := by decide +kernel
theorem dL_law_1361 : decode cL_law 1361 = .ok (.aload_n 1, 1) := by decide +kernel
theorem dL_law_1362 : decode cL_law 1362 = .ok (.invokevirtual 190, 3) := by decide +kernel
theorem dL_law_1365 : decode cL_law 1365 = .ok (.aload_n 2, 1) := by decide +kernel
theorem dL_law_1366 : decode cL_law 1366 = .ok (.invokevirtual 193, 3) := by decide +kernel
theorem dL_law_1369 : decode cL_law 1369 = .ok (.if_icmp .eq 239, 3) := by decide +kernel
theorem dL_law_1372 : decode cL_law 1372 = .ok (.iconst 0, 1) := by decide +kernel
theorem dL_law_1373 : decode cL_law 1373 = .ok (.ireturn, 1) := by decide +kernel
theorem dL_law_1374 : decode cL_law 1374 = .ok (.aload_n 1, 1) := by decide +kernel
theorem dL_law_1375 : decode cL_law 1375 = .ok (.aload_n 0, 1) := by decide +kernel
theorem dL_law_1376 : decode cL_law 1376 = .ok (.iload_n 3, 1) := by decide +kernel
theorem dL_law_1377 : decode cL_law 1377 = .ok (.iconst 1, 1) := by decide +kernel
theorem dL_law_1378 : decode cL_law 1378 = .ok (.iadd, 1) := by decide +kernel
theorem dL_law_1379 : decode cL_law 1379 = .ok (.iaload, 1) := by decide +kernel
theorem dL_law_1380 : decode cL_law 1380 = .ok (.aload_n 0, 1) := by decide +kernel
theorem dL_law_1381 : decode cL_law 1381 = .ok (.iload_n 3, 1) := by decide +kernel
theorem dL_law_1382 : decode cL_law 1382 = .ok (.iconst 2, 1) := by decide +kernel
theorem dL_law_1383 : decode cL_law 1383 = .ok (.iadd, 1) := by decide +kernel
theorem dL_law_1384 : decode cL_law 1384 = .ok (.iaload, 1) := by decide +kernel
theorem dL_law_1385 : decode cL_law 1385 = .ok (.aload_n 0, 1) := by decide +kernel
theorem dL_law_1386 : decode cL_law 1386 = .ok (.iload_n 3, 1) := by decide +kernel
theorem dL_law_1387 : decode cL_law 1387 = .ok (.iconst 3, 1) := by decide +kernel
theorem dL_law_1388 : decode cL_law 1388 = .ok (.iadd, 1) := by decide +kernel
theorem dL_law_1389 : decode cL_law 1389 = .ok (.iaload, 1) := by decide +kernel
theorem dL_law_1390 : decode cL_law 1390 = .ok (.invokevirtual 194, 3) := by decide +kernel
theorem dL_law_1393 : decode cL_law 1393 = .ok (.aload_n 2, 1) := by decide +kernel
theorem dL_law_1394 : decode cL_law 1394 = .ok (.aload_n 0, 1) := by decide +kernel
theorem dL_law_1395 : decode cL_law 1395 = .ok (.iload_n 3, 1) := by decide +kernel
theorem dL_law_1396 : decode cL_law 1396 = .ok (.iconst 1, 1) := by decide +kernel
theorem dL_law_1397 : decode cL_law 1397 = .ok (.iadd, 1) := by decide +kernel
theorem dL_law_1398 : decode cL_law 1398 = .ok (.iaload, 1) := by decide +kernel
theorem dL_law_1399 : decode cL_law 1399 = .ok (.aload_n 0, 1) := by decide +kernel
theorem dL_law_1400 : decode cL_law 1400 = .ok (.iload_n 3, 1) := by decide +kernel
theorem dL_law_1401 : decode cL_law 1401 = .ok (.iconst 2, 1) := by decide +kernel
theorem dL_law_1402 : decode cL_law 1402 = .ok (.iadd, 1) := by decide +kernel
theorem dL_law_1403 : decode cL_law 1403 = .ok (.iaload, 1) := by decide +kernel
theorem dL_law_1404 : decode cL_law 1404 = .ok (.aload_n 0, 1) := by decide +kernel
theorem dL_law_1405 : decode cL_law 1405 = .ok (.iload_n 3, 1) := by decide +kernel
theorem dL_law_1406 : decode cL_law 1406 = .ok (.iconst 3, 1) := by decide +kernel
theorem dL_law_1407 : decode cL_law 1407 = .ok (.iadd, 1) := by decide +kernel
theorem dL_law_1408 : decode cL_law 1408 = .ok (.iaload, 1) := by decide +kernel
theorem dL_law_1409 : decode cL_law 1409 = .ok (.invokevirtual 198, 3) := by decide +kernel
theorem dL_law_1412 : decode cL_law 1412 = .ok (.if_icmp .eq 196, 3) := by decide +kernel
theorem dL_law_1415 : decode cL_law 1415 = .ok (.iconst 0, 1) := by decide +kernel
theorem dL_law_1416 : decode cL_law 1416 = .ok (.ireturn, 1) := by decide +kernel
theorem dL_law_1417 : decode cL_law 1417 = .ok (.aload_n 1, 1) := by decide +kernel
theorem dL_law_1418 : decode cL_law 1418 = .ok (.aload_n 0, 1) := by decide +kernel
theorem dL_law_1419 : decode cL_law 1419 = .ok (.iload_n 3, 1) := by decide +kernel
theorem dL_law_1420 : decode cL_law 1420 = .ok (.iconst 1, 1) := by decide +kernel
theorem dL_law_1421 : decode cL_law 1421 = .ok (.iadd, 1) := by decide +kernel
theorem dL_law_1422 : decode cL_law 1422 = .ok (.iaload, 1) := by decide +kernel
theorem dL_law_1423 : decode cL_law 1423 = .ok (.aload_n 0, 1) := by decide +kernel
theorem dL_law_1424 : decode cL_law 1424 = .ok (.iload_n 3, 1) := by decide +kernel
theorem dL_law_1425 : decode cL_law 1425 = .ok (.iconst 2, 1) := by decide +kernel
theorem dL_law_1426 : decode cL_law 1426 = .ok (.iadd, 1) := by decide +kernel
theorem dL_law_1427 : decode cL_law 1427 = .ok (.iaload, 1) := by decide +kernel
theorem dL_law_1428 : decode cL_law 1428 = .ok (.invokevirtual 199, 3) := by decide +kernel
theorem dL_law_1431 : decode cL_law 1431 = .ok (.aload_n 2, 1) := by decide +kernel
theorem dL_law_1432 : decode cL_law 1432 = .ok (.aload_n 0, 1) := by decide +kernel
theorem dL_law_1433 : decode cL_law 1433 = .ok (.iload_n 3, 1) := by decide +kernel
theorem dL_law_1434 : decode cL_law 1434 = .ok (.iconst 1, 1) := by decide +kernel
theorem dL_law_1435 : decode cL_law 1435 = .ok (.iadd, 1) := by decide +kernel
theorem dL_law_1436 : decode cL_law 1436 = .ok (.iaload, 1) := by decide +kernel
theorem dL_law_1437 : decode cL_law 1437 = .ok (.aload_n 0, 1) := by decide +kernel
theorem dL_law_1438 : decode cL_law 1438 = .ok (.iload_n 3, 1) := by decide +kernel
theorem dL_law_1439 : decode cL_law 1439 = .ok (.iconst 2, 1) := by decide +kernel
theorem dL_law_1440 : decode cL_law 1440 = .ok (.iadd, 1) := by decide +kernel
theorem dL_law_1441 : decode cL_law 1441 = .ok (.iaload, 1) := by decide +kernel
theorem dL_law_1442 : decode cL_law 1442 = .ok (.invokevirtual 202, 3) := by decide +kernel
theorem dL_law_1445 : decode cL_law 1445 = .ok (.if_icmp .eq 163, 3) := by decide +kernel
theorem dL_law_1448 : decode cL_law 1448 = .ok (.iconst 0, 1) := by decide +kernel
theorem dL_law_1449 : decode cL_law 1449 = .ok (.ireturn, 1) := by decide +kernel
theorem dL_law_1450 : decode cL_law 1450 = .ok (.aload_n 1, 1) := by decide +kernel
theorem dL_law_1451 : decode cL_law 1451 = .ok (.aload_n 0, 1) := by decide +kernel
theorem dL_law_1452 : decode cL_law 1452 = .ok (.iload_n 3, 1) := by decide +kernel
theorem dL_law_1453 : decode cL_law 1453 = .ok (.iconst 1, 1) := by decide +kernel
theorem dL_law_1454 : decode cL_law 1454 = .ok (.iadd, 1) := by decide +kernel
theorem dL_law_1455 : decode cL_law 1455 = .ok (.iaload, 1) := by decide +kernel
theorem dL_law_1456 : decode cL_law 1456 = .ok (.invokevirtual 203, 3) := by decide +kernel
theorem dL_law_1459 : decode cL_law 1459 = .ok (.aload_n 2, 1) := by decide +kernel
theorem dL_law_1460 : decode cL_law 1460 = .ok (.aload_n 0, 1) := by decide +kernel
theorem dL_law_1461 : decode cL_law 1461 = .ok (.iload_n 3, 1) := by decide +kernel
theorem dL_law_1462 : decode cL_law 1462 = .ok (.iconst 1, 1) := by decide +kernel
theorem dL_law_1463 : decode cL_law 1463 = .ok (.iadd, 1) := by decide +kernel
theorem dL_law_1464 : decode cL_law 1464 = .ok (.iaload, 1) := by decide +kernel
theorem dL_law_1465 : decode cL_law 1465 = .ok (.invokevirtual 206, 3) := by decide +kernel
theorem dL_law_1468 : decode cL_law 1468 = .ok (.if_icmp .eq 140, 3) := by decide +kernel
theorem dL_law_1471 : decode cL_law 1471 = .ok (.iconst 0, 1) := by decide +kernel
theorem dL_law_1472 : decode cL_law 1472 = .ok (.ireturn, 1) := by decide +kernel
theorem dL_law_1473 : decode cL_law 1473 = .ok (.aload_n 1, 1) := by decide +kernel
theorem dL_law_1474 : decode cL_law 1474 = .ok (.aload_n 0, 1) := by decide +kernel
theorem dL_law_1475 : decode cL_law 1475 = .ok (.iload_n 3, 1) := by decide +kernel
theorem dL_law_1476 : decode cL_law 1476 = .ok (.iconst 1, 1) := by decide +kernel
theorem dL_law_1477 : decode cL_law 1477 = .ok (.iadd, 1) := by decide +kernel
theorem dL_law_1478 : decode cL_law 1478 = .ok (.iaload, 1) := by decide +kernel
theorem dL_law_1479 : decode cL_law 1479 = .ok (.aload_n 0, 1) := by decide +kernel
theorem dL_law_1480 : decode cL_law 1480 = .ok (.iload_n 3, 1) := by decide +kernel
theorem dL_law_1481 : decode cL_law 1481 = .ok (.iconst 2, 1) := by decide +kernel
theorem dL_law_1482 : decode cL_law 1482 = .ok (.iadd, 1) := by decide +kernel
theorem dL_law_1483 : decode cL_law 1483 = .ok (.iaload, 1) := by decide +kernel
theorem dL_law_1484 : decode cL_law 1484 = .ok (.invokevirtual 207, 3) := by decide +kernel
theorem dL_law_1487 : decode cL_law 1487 = .ok (.aload_n 2, 1) := by decide +kernel
theorem dL_law_1488 : decode cL_law 1488 = .ok (.aload_n 0, 1) := by decide +kernel
theorem dL_law_1489 : decode cL_law 1489 = .ok (.iload_n 3, 1) := by decide +kernel
theorem dL_law_1490 : decode cL_law 1490 = .ok (.iconst 1, 1) := by decide +kernel
theorem dL_law_1491 : decode cL_law 1491 = .ok (.iadd, 1) := by decide +kernel
theorem dL_law_1492 : decode cL_law 1492 = .ok (.iaload, 1) := by decide +kernel
theorem dL_law_1493 : decode cL_law 1493 = .ok (.aload_n 0, 1) := by decide +kernel
theorem dL_law_1494 : decode cL_law 1494 = .ok (.iload_n 3, 1) := by decide +kernel
theorem dL_law_1495 : decode cL_law 1495 = .ok (.iconst 2, 1) := by decide +kernel
theorem dL_law_1496 : decode cL_law 1496 = .ok (.iadd, 1) := by decide +kernel
theorem dL_law_1497 : decode cL_law 1497 = .ok (.iaload, 1) := by decide +kernel
theorem dL_law_1498 : decode cL_law 1498 = .ok (.invokevirtual 210, 3) := by decide +kernel
theorem dL_law_1501 : decode cL_law 1501 = .ok (.if_icmp .eq 107, 3) := by decide +kernel
theorem dL_law_1504 : decode cL_law 1504 = .ok (.iconst 0, 1) := by decide +kernel
theorem dL_law_1505 : decode cL_law 1505 = .ok (.ireturn, 1) := by decide +kernel
theorem dL_law_1506 : decode cL_law 1506 = .ok (.aload_n 1, 1) := by decide +kernel
theorem dL_law_1507 : decode cL_law 1507 = .ok (.aload_n 0, 1) := by decide +kernel
theorem dL_law_1508 : decode cL_law 1508 = .ok (.iload_n 3, 1) := by decide +kernel
theorem dL_law_1509 : decode cL_law 1509 = .ok (.iconst 1, 1) := by decide +kernel
theorem dL_law_1510 : decode cL_law 1510 = .ok (.iadd, 1) := by decide +kernel
theorem dL_law_1511 : decode cL_law 1511 = .ok (.iaload, 1) := by decide +kernel
theorem dL_law_1512 : decode cL_law 1512 = .ok (.aload_n 0, 1) := by decide +kernel
theorem dL_law_1513 : decode cL_law 1513 = .ok (.iload_n 3, 1) := by decide +kernel
theorem dL_law_1514 : decode cL_law 1514 = .ok (.iconst 2, 1) := by decide +kernel
theorem dL_law_1515 : decode cL_law 1515 = .ok (.iadd, 1) := by decide +kernel
theorem dL_law_1516 : decode cL_law 1516 = .ok (.iaload, 1) := by decide +kernel
theorem dL_law_1517 : decode cL_law 1517 = .ok (.invokevirtual 211, 3) := by decide +kernel
theorem dL_law_1520 : decode cL_law 1520 = .ok (.aload_n 2, 1) := by decide +kernel
theorem dL_law_1521 : decode cL_law 1521 = .ok (.aload_n 0, 1) := by decide +kernel
theorem dL_law_1522 : decode cL_law 1522 = .ok (.iload_n 3, 1) := by decide +kernel
theorem dL_law_1523 : decode cL_law 1523 = .ok (.iconst 1, 1) := by decide +kernel
theorem dL_law_1524 : decode cL_law 1524 = .ok (.iadd, 1) := by decide +kernel
theorem dL_law_1525 : decode cL_law 1525 = .ok (.iaload, 1) := by decide +kernel
theorem dL_law_1526 : decode cL_law 1526 = .ok (.aload_n 0, 1) := by decide +kernel
theorem dL_law_1527 : decode cL_law 1527 = .ok (.iload_n 3, 1) := by decide +kernel
theorem dL_law_1528 : decode cL_law 1528 = .ok (.iconst 2, 1) := by decide +kernel
theorem dL_law_1529 : decode cL_law 1529 = .ok (.iadd, 1) := by decide +kernel
theorem dL_law_1530 : decode cL_law 1530 = .ok (.iaload, 1) := by decide +kernel
theorem dL_law_1531 : decode cL_law 1531 = .ok (.invokevirtual 214, 3) := by decide +kernel
theorem dL_law_1534 : decode cL_law 1534 = .ok (.if_icmp .eq 74, 3) := by decide +kernel
theorem dL_law_1537 : decode cL_law 1537 = .ok (.iconst 0, 1) := by decide +kernel
theorem dL_law_1538 : decode cL_law 1538 = .ok (.ireturn, 1) := by decide +kernel
theorem dL_law_1539 : decode cL_law 1539 = .ok (.aload_n 1, 1) := by decide +kernel
theorem dL_law_1540 : decode cL_law 1540 = .ok (.aload_n 0, 1) := by decide +kernel
theorem dL_law_1541 : decode cL_law 1541 = .ok (.iload_n 3, 1) := by decide +kernel
theorem dL_law_1542 : decode cL_law 1542 = .ok (.iconst 1, 1) := by decide +kernel
theorem dL_law_1543 : decode cL_law 1543 = .ok (.iadd, 1) := by decide +kernel
theorem dL_law_1544 : decode cL_law 1544 = .ok (.iaload, 1) := by decide +kernel
theorem dL_law_1545 : decode cL_law 1545 = .ok (.invokevirtual 215, 3) := by decide +kernel
theorem dL_law_1548 : decode cL_law 1548 = .ok (.aload_n 2, 1) := by decide +kernel
theorem dL_law_1549 : decode cL_law 1549 = .ok (.aload_n 0, 1) := by decide +kernel
theorem dL_law_1550 : decode cL_law 1550 = .ok (.iload_n 3, 1) := by decide +kernel
theorem dL_law_1551 : decode cL_law 1551 = .ok (.iconst 1, 1) := by decide +kernel
theorem dL_law_1552 : decode cL_law 1552 = .ok (.iadd, 1) := by decide +kernel
theorem dL_law_1553 : decode cL_law 1553 = .ok (.iaload, 1) := by decide +kernel
theorem dL_law_1554 : decode cL_law 1554 = .ok (.invokevirtual 218, 3) := by decide +kernel
theorem dL_law_1557 : decode cL_law 1557 = .ok (.if_icmp .eq 51, 3) := by decide +kernel
theorem dL_law_1560 : decode cL_law 1560 = .ok (.iconst 0, 1) := by decide +kernel
theorem dL_law_1561 : decode cL_law 1561 = .ok (.ireturn, 1) := by decide +kernel
theorem dL_law_1562 : decode cL_law 1562 = .ok (.aload_n 1, 1) := by decide +kernel
theorem dL_law_1563 : decode cL_law 1563 = .ok (.aload_n 0, 1) := by decide +kernel
theorem dL_law_1564 : decode cL_law 1564 = .ok (.iload_n 3, 1) := by decide +kernel
theorem dL_law_1565 : decode cL_law 1565 = .ok (.iconst 1, 1) := by decide +kernel
theorem dL_law_1566 : decode cL_law 1566 = .ok (.iadd, 1) := by decide +kernel
theorem dL_law_1567 : decode cL_law 1567 = .ok (.iaload, 1) := by decide +kernel
theorem dL_law_1568 : decode cL_law 1568 = .ok (.invokevirtual 219, 3) := by decide +kernel
theorem dL_law_1571 : decode cL_law 1571 = .ok (.aload_n 2, 1) := by decide +kernel
theorem dL_law_1572 : decode cL_law 1572 = .ok (.aload_n 0, 1) := by decide +kernel
theorem dL_law_1573 : decode cL_law 1573 = .ok (.iload_n 3, 1) := by decide +kernel
theorem dL_law_1574 : decode cL_law 1574 = .ok (.iconst 1, 1) := by decide +kernel
theorem dL_law_1575 : decode cL_law 1575 = .ok (.iadd, 1) := by decide +kernel
theorem dL_law_1576 : decode cL_law 1576 = .ok (.iaload, 1) := by decide +kernel
theorem dL_law_1577 : decode cL_law 1577 = .ok (.invokevirtual 222, 3) := by decide +kernel
theorem dL_law_1580 : decode cL_law 1580 = .ok (.if_icmp .eq 28, 3) := by decide +kernel
theorem dL_law_1583 : decode cL_law 1583 = .ok (.iconst 0, 1) := by decide +kernel
theorem dL_law_1584 : decode cL_law 1584 = .ok (.ireturn, 1) := by decide +kernel
theorem dL_law_1585 : decode cL_law 1585 = .ok (.aload_n 1, 1) := by decide +kernel
theorem dL_law_1586 : decode cL_law 1586 = .ok (.aload_n 0, 1) := by decide +kernel
theorem dL_law_1587 : decode cL_law 1587 = .ok (.iload_n 3, 1) := by decide +kernel
theorem dL_law_1588 : decode cL_law 1588 = .ok (.iconst 1, 1) := by decide +kernel
theorem dL_law_1589 : decode cL_law 1589 = .ok (.iadd, 1) := by decide +kernel
theorem dL_law_1590 : decode cL_law 1590 = .ok (.iaload, 1) := by decide +kernel
theorem dL_law_1591 : decode cL_law 1591 = .ok (.invokevirtual 223, 3) := by decide +kernel
theorem dL_law_1594 : decode cL_law 1594 = .ok (.aload_n 2, 1) := by decide +kernel
theorem dL_law_1595 : decode cL_law 1595 = .ok (.aload_n 0, 1) := by decide +kernel
theorem dL_law_1596 : decode cL_law 1596 = .ok (.iload_n 3, 1) := by decide +kernel
theorem dL_law_1597 : decode cL_law 1597 = .ok (.iconst 1, 1) := by decide +kernel
theorem dL_law_1598 : decode cL_law 1598 = .ok (.iadd, 1) := by decide +kernel
theorem dL_law_1599 : decode cL_law 1599 = .ok (.iaload, 1) := by decide +kernel
theorem dL_law_1600 : decode cL_law 1600 = .ok (.invokevirtual 226, 3) := by decide +kernel
theorem dL_law_1603 : decode cL_law 1603 = .ok (.if_icmp .eq 5, 3) := by decide +kernel
theorem dL_law_1606 : decode cL_law 1606 = .ok (.iconst 0, 1) := by decide +kernel
theorem dL_law_1607 : decode cL_law 1607 = .ok (.ireturn, 1) := by decide +kernel
theorem dL_law_1608 : decode cL_law 1608 = .ok (.iinc 3 6, 3) := by decide +kernel
theorem dL_law_1611 : decode cL_law 1611 = .ok (.goto (-1593), 3) := by decide +kernel
theorem dL_law_1614 : decode cL_law 1614 = .ok (.iconst 1, 1) := by decide +kernel
theorem dL_law_1615 : decode cL_law 1615 = .ok (.ireturn, 1) := by decide +kernel
def zf_L_law_j1608 (R18 : Int32 → ZMem → Option (Int32)) (v331 : Int32) (M335 : ZMem) : Option (Int32) :=
  (R18 (v331 + (6 : Int32)) M335)
def zf_L_law_j501 (n : Nat) (v393 : Int32) (M392 : ZMem) (v391 : Int32) (R18 : Int32 → ZMem → Option (Int32)) (v331 : Int32) (v395 : Int32) : Option (Int32) :=
  zb2 (zf_X10_lazy n v393 v395 M392) (fun v396 M397 => (if v391 = v396 then (zf_L_law_j1608 R18 v331 M397) else some (0 : Int32)))
def zf_L_law_j479 (v388 : Int32) (M332 : ZMem) (xs : Nat → Int32) (L : Nat) (v331 : Int32) (n : Nat) (R18 : Int32 → ZMem → Option (Int32)) (v390 : Int32) : Option (Int32) :=
  zb2 (zf_X9_lazy v388 v390 M332) (fun v391 M392 => zxl xs L (v331 + (1 : Int32)) (fun v393 => zxl xs L (v331 + (2 : Int32)) (fun v394 => (if v394 = 0 then (zf_L_law_j501 n v393 M392 v391 R18 v331 (0 : Int32)) else (zf_L_law_j501 n v393 M392 v391 R18 v331 (1 : Int32))))))
def zf_L_law_L18 (L : Nat) (xs : Nat → Int32) (n : Nat) (K1614 : ZMem → Option (Int32)) : Nat → Int32 → ZMem → Option (Int32)
  | 0, _, _ => none
  | n18 + 1, v331, M332 =>
  (if ((nI L) - (6 : Int32)) < v331 then (K1614 M332) else zxl xs L v331 (fun v334 => (if (v334 &&& (63 : Int32)) = (0 : Int32) then zxl xs L (v331 + (1 : Int32)) (fun v336 => zxl xs L (v331 + (2 : Int32)) (fun v337 => zxl xs L (v331 + (3 : Int32)) (fun v338 => zxl xs L (v331 + (4 : Int32)) (fun v339 => zxl xs L (v331 + (5 : Int32)) (fun v340 => zb2 (zf_X9_feed n v336 v337 v338 v339 v340 M332) (fun v341 M342 => zxl xs L (v331 + (1 : Int32)) (fun v343 => zxl xs L (v331 + (2 : Int32)) (fun v344 => zxl xs L (v331 + (3 : Int32)) (fun v345 => zxl xs L (v331 + (4 : Int32)) (fun v346 => zxl xs L (v331 + (5 : Int32)) (fun v347 => zb2 (zf_X10_feed n v343 v344 v345 v346 v347 M342) (fun v348 M349 => (if v341 = v348 then (zf_L_law_j1608 (fun x0 x1 => zf_L_law_L18 L xs n K1614 n18 x0 x1) v331 M349) else some (0 : Int32)))))))))))))) else (if (v334 &&& (63 : Int32)) = (1 : Int32) then zxl xs L (v331 + (1 : Int32)) (fun v350 => zb2 (zf_X9_back v350 M332) (fun v351 M352 => zxl xs L (v331 + (1 : Int32)) (fun v353 => zb2 (zf_X10_back v353 M352) (fun v354 M355 => (if v351 = v354 then (zf_L_law_j1608 (fun x0 x1 => zf_L_law_L18 L xs n K1614 n18 x0 x1) v331 M355) else some (0 : Int32)))))) else (if (v334 &&& (63 : Int32)) = (2 : Int32) then zb2 (zf_X9_text n M332) (fun v356 M357 => zb2 (zf_X10_text n M357) (fun v358 M359 => (if v356 = v358 then (zf_L_law_j1608 (fun x0 x1 => zf_L_law_L18 L xs n K1614 n18 x0 x1) v331 M359) else some (0 : Int32)))) else (if (v334 &&& (63 : Int32)) = (3 : Int32) then zxl xs L (v331 + (1 : Int32)) (fun v360 => zb2 (zf_X9_days v360 M332) (fun v361 M362 => zxl xs L (v331 + (1 : Int32)) (fun v363 => zb2 (zf_X10_days n v363 M362) (fun v364 M365 => (if v361 = v364 then (zf_L_law_j1608 (fun x0 x1 => zf_L_law_L18 L xs n K1614 n18 x0 x1) v331 M365) else some (0 : Int32)))))) else (if (v334 &&& (63 : Int32)) = (4 : Int32) then zxl xs L (v331 + (1 : Int32)) (fun v366 => zb2 (zf_X9_order n v366 M332) (fun v367 M368 => zxl xs L (v331 + (1 : Int32)) (fun v369 => zb2 (zf_X10_order n v369 M368) (fun v370 M371 => (if v367 = v370 then (zf_L_law_j1608 (fun x0 x1 => zf_L_law_L18 L xs n K1614 n18 x0 x1) v331 M371) else some (0 : Int32)))))) else (if (v334 &&& (63 : Int32)) = (5 : Int32) then zb2 (zf_X9_send n M332) (fun v372 M373 => zb2 (zf_X10_send n M373) (fun v374 M375 => (if v372 = v374 then (zf_L_law_j1608 (fun x0 x1 => zf_L_law_L18 L xs n K1614 n18 x0 x1) v331 M375) else some (0 : Int32)))) else (if (v334 &&& (63 : Int32)) = (6 : Int32) then zxl xs L (v331 + (1 : Int32)) (fun v376 => zb2 (zf_X9_out n v376 M332) (fun v377 M378 => zxl xs L (v331 + (1 : Int32)) (fun v379 => zb2 (zf_X10_out n v379 M378) (fun v380 M381 => (if v377 = v380 then (zf_L_law_j1608 (fun x0 x1 => zf_L_law_L18 L xs n K1614 n18 x0 x1) v331 M381) else some (0 : Int32)))))) else (if (v334 &&& (63 : Int32)) = (7 : Int32) then zxl xs L (v331 + (1 : Int32)) (fun v382 => zb2 (zf_X9_file n v382 M332) (fun v383 M384 => zxl xs L (v331 + (1 : Int32)) (fun v385 => zb2 (zf_X10_file n v385 M384) (fun v386 M387 => (if v383 = v386 then (zf_L_law_j1608 (fun x0 x1 => zf_L_law_L18 L xs n K1614 n18 x0 x1) v331 M387) else some (0 : Int32)))))) else (if (v334 &&& (63 : Int32)) = (8 : Int32) then zxl xs L (v331 + (1 : Int32)) (fun v388 => zxl xs L (v331 + (2 : Int32)) (fun v389 => (if v389 = 0 then (zf_L_law_j479 v388 M332 xs L v331 n (fun x0 x1 => zf_L_law_L18 L xs n K1614 n18 x0 x1) (0 : Int32)) else (zf_L_law_j479 v388 M332 xs L v331 n (fun x0 x1 => zf_L_law_L18 L xs n K1614 n18 x0 x1) (1 : Int32))))) else (if (v334 &&& (63 : Int32)) = (9 : Int32) then zxl xs L (v331 + (1 : Int32)) (fun v398 => zb2 (zf_X9_fund v398 M332) (fun v399 M400 => zxl xs L (v331 + (1 : Int32)) (fun v401 => zb2 (zf_X10_fund n v401 M400) (fun v402 M403 => (if v399 = v402 then (zf_L_law_j1608 (fun x0 x1 => zf_L_law_L18 L xs n K1614 n18 x0 x1) v331 M403) else some (0 : Int32)))))) else (if (v334 &&& (63 : Int32)) = (10 : Int32) then zxl xs L (v331 + (1 : Int32)) (fun v404 => zb2 (zf_X9_rule v404 M332) (fun v405 M406 => zxl xs L (v331 + (1 : Int32)) (fun v407 => zb2 (zf_X10_rule n v407 M406) (fun v408 M409 => (if v405 = v408 then (zf_L_law_j1608 (fun x0 x1 => zf_L_law_L18 L xs n K1614 n18 x0 x1) v331 M409) else some (0 : Int32)))))) else (if (v334 &&& (63 : Int32)) = (11 : Int32) then zxl xs L (v331 + (1 : Int32)) (fun v410 => zxl xs L (v331 + (2 : Int32)) (fun v411 => zb2 (zf_X9_period n v410 v411 M332) (fun v412 M413 => zxl xs L (v331 + (1 : Int32)) (fun v414 => zxl xs L (v331 + (2 : Int32)) (fun v415 => zb2 (zf_X10_period n v414 v415 M413) (fun v416 M417 => (if v412 = v416 then (zf_L_law_j1608 (fun x0 x1 => zf_L_law_L18 L xs n K1614 n18 x0 x1) v331 M417) else some (0 : Int32)))))))) else (if (v334 &&& (63 : Int32)) = (12 : Int32) then zxl xs L (v331 + (1 : Int32)) (fun v418 => zxl xs L (v331 + (2 : Int32)) (fun v419 => zb2 (zf_X9_quarrel v418 v419 M332) (fun v420 M421 => zxl xs L (v331 + (1 : Int32)) (fun v422 => zxl xs L (v331 + (2 : Int32)) (fun v423 => zb2 (zf_X10_quarrel n v422 v423 M421) (fun v424 M425 => (if v420 = v424 then (zf_L_law_j1608 (fun x0 x1 => zf_L_law_L18 L xs n K1614 n18 x0 x1) v331 M425) else some (0 : Int32)))))))) else (if (v334 &&& (63 : Int32)) = (13 : Int32) then zb2 (zf_X9_undo M332) (fun v426 M427 => zb2 (zf_X10_undo n M427) (fun v428 M429 => (if v426 = v428 then (zf_L_law_j1608 (fun x0 x1 => zf_L_law_L18 L xs n K1614 n18 x0 x1) v331 M429) else some (0 : Int32)))) else (if (v334 &&& (63 : Int32)) = (14 : Int32) then zxl xs L (v331 + (1 : Int32)) (fun v430 => zxl xs L (v331 + (2 : Int32)) (fun v431 => zb1 (zf_X9_member n v430 v431 M332) (fun v432 => zxl xs L (v331 + (1 : Int32)) (fun v433 => zxl xs L (v331 + (2 : Int32)) (fun v434 => zb1 (zf_X10_member n v433 v434 M332) (fun v435 => (if v432 = v435 then (zf_L_law_j1608 (fun x0 x1 => zf_L_law_L18 L xs n K1614 n18 x0 x1) v331 M332) else some (0 : Int32)))))))) else (if (v334 &&& (63 : Int32)) = (15 : Int32) then zxl xs L (v331 + (1 : Int32)) (fun v436 => zxl xs L (v331 + (2 : Int32)) (fun v437 => zb1 (zf_X9_channel n v436 v437 M332) (fun v438 => zxl xs L (v331 + (1 : Int32)) (fun v439 => zxl xs L (v331 + (2 : Int32)) (fun v440 => zb1 (zf_X10_channel n v439 v440 M332) (fun v441 => (if v438 = v441 then (zf_L_law_j1608 (fun x0 x1 => zf_L_law_L18 L xs n K1614 n18 x0 x1) v331 M332) else some (0 : Int32)))))))) else (if (v334 &&& (63 : Int32)) = (16 : Int32) then zxl xs L (v331 + (1 : Int32)) (fun v442 => zxl xs L (v331 + (2 : Int32)) (fun v443 => zb1 (zf_X9_line v442 v443 M332) (fun v444 => zxl xs L (v331 + (1 : Int32)) (fun v445 => zxl xs L (v331 + (2 : Int32)) (fun v446 => zb1 (zf_X10_line v445 v446 M332) (fun v447 => (if v444 = v447 then (zf_L_law_j1608 (fun x0 x1 => zf_L_law_L18 L xs n K1614 n18 x0 x1) v331 M332) else some (0 : Int32)))))))) else (if (v334 &&& (63 : Int32)) = (17 : Int32) then zxl xs L (v331 + (1 : Int32)) (fun v448 => zb1 (zf_X9_ranked n v448 M332) (fun v449 => zxl xs L (v331 + (1 : Int32)) (fun v450 => zb1 (zf_X10_ranked n v450 M332) (fun v451 => (if v449 = v451 then (zf_L_law_j1608 (fun x0 x1 => zf_L_law_L18 L xs n K1614 n18 x0 x1) v331 M332) else some (0 : Int32)))))) else (if (v334 &&& (63 : Int32)) = (18 : Int32) then zxl xs L (v331 + (1 : Int32)) (fun v452 => zxl xs L (v331 + (2 : Int32)) (fun v453 => zb1 (zf_X9_together v452 v453 M332) (fun v454 => zxl xs L (v331 + (1 : Int32)) (fun v455 => zxl xs L (v331 + (2 : Int32)) (fun v456 => zb1 (zf_X10_together n v455 v456 M332) (fun v457 => (if v454 = v457 then (zf_L_law_j1608 (fun x0 x1 => zf_L_law_L18 L xs n K1614 n18 x0 x1) v331 M332) else some (0 : Int32)))))))) else (if (v334 &&& (63 : Int32)) = (19 : Int32) then zxl xs L (v331 + (1 : Int32)) (fun v458 => zb1 (zf_X9_busiest n v458 M332) (fun v459 => zxl xs L (v331 + (1 : Int32)) (fun v460 => zb1 (zf_X10_busiest n v460 M332) (fun v461 => (if v459 = v461 then (zf_L_law_j1608 (fun x0 x1 => zf_L_law_L18 L xs n K1614 n18 x0 x1) v331 M332) else some (0 : Int32)))))) else (if (v334 &&& (63 : Int32)) = (20 : Int32) then zb2 (zf_X9_classes n M332) (fun v462 M463 => zb2 (zf_X10_classes n M463) (fun v464 M465 => (if v462 = v464 then (zf_L_law_j1608 (fun x0 x1 => zf_L_law_L18 L xs n K1614 n18 x0 x1) v331 M465) else some (0 : Int32)))) else (if (v334 &&& (63 : Int32)) = (21 : Int32) then zxl xs L (v331 + (1 : Int32)) (fun v466 => zb2 (zf_X9_classOf n v466 M332) (fun v467 M468 => zxl xs L (v331 + (1 : Int32)) (fun v469 => zb2 (zf_X10_classOf n v469 M468) (fun v470 M471 => (if v467 = v470 then (zf_L_law_j1608 (fun x0 x1 => zf_L_law_L18 L xs n K1614 n18 x0 x1) v331 M471) else some (0 : Int32)))))) else (if (v334 &&& (63 : Int32)) = (22 : Int32) then zxl xs L (v331 + (1 : Int32)) (fun v472 => zb2 (zf_X9_classBits n v472 M332) (fun v473 M474 => zxl xs L (v331 + (1 : Int32)) (fun v475 => zb2 (zf_X10_classBits n v475 M474) (fun v476 M477 => (if v473 = v476 then (zf_L_law_j1608 (fun x0 x1 => zf_L_law_L18 L xs n K1614 n18 x0 x1) v331 M477) else some (0 : Int32)))))) else (if (v334 &&& (63 : Int32)) = (23 : Int32) then zxl xs L (v331 + (1 : Int32)) (fun v478 => zb2 (zf_X9_splits n v478 M332) (fun v479 M480 => zxl xs L (v331 + (1 : Int32)) (fun v481 => zb2 (zf_X10_splits n v481 M480) (fun v482 M483 => (if v479 = v482 then (zf_L_law_j1608 (fun x0 x1 => zf_L_law_L18 L xs n K1614 n18 x0 x1) v331 M483) else some (0 : Int32)))))) else (if (v334 &&& (63 : Int32)) = (24 : Int32) then zb2 (zf_X9_feud n M332) (fun v484 M485 => zb1 (zf_X10_feud n M485) (fun v486 => (if v484 = v486 then (zf_L_law_j1608 (fun x0 x1 => zf_L_law_L18 L xs n K1614 n18 x0 x1) v331 M485) else some (0 : Int32)))) else (if (v334 &&& (63 : Int32)) = (25 : Int32) then zb2 (zf_X9_settles n M332) (fun v487 M488 => zb2 (zf_X10_settles n M488) (fun v489 M490 => (if v487 = v489 then (zf_L_law_j1608 (fun x0 x1 => zf_L_law_L18 L xs n K1614 n18 x0 x1) v331 M490) else some (0 : Int32)))) else (if (v334 &&& (63 : Int32)) = (26 : Int32) then zxl xs L (v331 + (1 : Int32)) (fun v491 => zb2 (zf_X9_lead n v491 M332) (fun v492 M493 => zxl xs L (v331 + (1 : Int32)) (fun v494 => zb2 (zf_X10_lead n v494 M493) (fun v495 M496 => (if v492 = v495 then (zf_L_law_j1608 (fun x0 x1 => zf_L_law_L18 L xs n K1614 n18 x0 x1) v331 M496) else some (0 : Int32)))))) else (if (v334 &&& (63 : Int32)) = (27 : Int32) then zxl xs L (v331 + (1 : Int32)) (fun v497 => zb1 (zf_X9_costFor n v497 M332) (fun v498 => zxl xs L (v331 + (1 : Int32)) (fun v499 => zb1 (zf_X10_costFor n v499 M332) (fun v500 => (if v498 = v500 then (zf_L_law_j1608 (fun x0 x1 => zf_L_law_L18 L xs n K1614 n18 x0 x1) v331 M332) else some (0 : Int32)))))) else (if (v334 &&& (63 : Int32)) = (28 : Int32) then zxl xs L (v331 + (1 : Int32)) (fun v501 => zxl xs L (v331 + (2 : Int32)) (fun v502 => zb1 (zf_X9_reachFor n v501 v502 M332) (fun v503 => zxl xs L (v331 + (1 : Int32)) (fun v504 => zxl xs L (v331 + (2 : Int32)) (fun v505 => zb1 (zf_X10_reachFor n v504 v505 M332) (fun v506 => (if v503 = v506 then (zf_L_law_j1608 (fun x0 x1 => zf_L_law_L18 L xs n K1614 n18 x0 x1) v331 M332) else some (0 : Int32)))))))) else (if (v334 &&& (63 : Int32)) = (29 : Int32) then zxl xs L (v331 + (1 : Int32)) (fun v507 => zxl xs L (v331 + (2 : Int32)) (fun v508 => zb1 (zf_X9_cheapest n v507 v508 M332) (fun v509 => zxl xs L (v331 + (1 : Int32)) (fun v510 => zxl xs L (v331 + (2 : Int32)) (fun v511 => zb1 (zf_X10_cheapest n v510 v511 M332) (fun v512 => (if v509 = v512 then (zf_L_law_j1608 (fun x0 x1 => zf_L_law_L18 L xs n K1614 n18 x0 x1) v331 M332) else some (0 : Int32)))))))) else (if (v334 &&& (63 : Int32)) = (30 : Int32) then zxl xs L (v331 + (1 : Int32)) (fun v513 => zb1 (zf_X9_reachedBy n v513 M332) (fun v514 => zxl xs L (v331 + (1 : Int32)) (fun v515 => zb1 (zf_X10_reachedBy n v515 M332) (fun v516 => (if v514 = v516 then (zf_L_law_j1608 (fun x0 x1 => zf_L_law_L18 L xs n K1614 n18 x0 x1) v331 M332) else some (0 : Int32)))))) else (if (v334 &&& (63 : Int32)) = (31 : Int32) then zxl xs L (v331 + (1 : Int32)) (fun v517 => zb2 (zf_X9_fundOf n v517 M332) (fun v518 M519 => zxl xs L (v331 + (1 : Int32)) (fun v520 => zb2 (zf_X10_fundOf n v520 M519) (fun v521 M522 => (if v518 = v521 then (zf_L_law_j1608 (fun x0 x1 => zf_L_law_L18 L xs n K1614 n18 x0 x1) v331 M522) else some (0 : Int32)))))) else (if (v334 &&& (63 : Int32)) = (32 : Int32) then zxl xs L (v331 + (1 : Int32)) (fun v523 => zb2 (zf_X9_pot n v523 M332) (fun v524 M525 => zxl xs L (v331 + (1 : Int32)) (fun v526 => zb2 (zf_X10_pot n v526 M525) (fun v527 M528 => (if v524 = v527 then (zf_L_law_j1608 (fun x0 x1 => zf_L_law_L18 L xs n K1614 n18 x0 x1) v331 M528) else some (0 : Int32)))))) else (if (v334 &&& (63 : Int32)) = (33 : Int32) then zxl xs L (v331 + (1 : Int32)) (fun v529 => zb2 (zf_X9_paid n v529 M332) (fun v530 M531 => zxl xs L (v331 + (1 : Int32)) (fun v532 => zb2 (zf_X10_paid n v532 M531) (fun v533 M534 => (if v530 = v533 then (zf_L_law_j1608 (fun x0 x1 => zf_L_law_L18 L xs n K1614 n18 x0 x1) v331 M534) else some (0 : Int32)))))) else (if (v334 &&& (63 : Int32)) = (34 : Int32) then zxl xs L (v331 + (1 : Int32)) (fun v535 => zxl xs L (v331 + (2 : Int32)) (fun v536 => zb2 (zf_X9_had n v535 v536 M332) (fun v537 M538 => zxl xs L (v331 + (1 : Int32)) (fun v539 => zxl xs L (v331 + (2 : Int32)) (fun v540 => zb2 (zf_X10_had n v539 v540 M538) (fun v541 M542 => (if v537 = v541 then (zf_L_law_j1608 (fun x0 x1 => zf_L_law_L18 L xs n K1614 n18 x0 x1) v331 M542) else some (0 : Int32)))))))) else (if (v334 &&& (63 : Int32)) = (35 : Int32) then zb2 (zf_X9_share n M332) (fun v543 M544 => zb2 (zf_X10_share n M544) (fun v545 M546 => (if v543 = v545 then (zf_L_law_j1608 (fun x0 x1 => zf_L_law_L18 L xs n K1614 n18 x0 x1) v331 M546) else some (0 : Int32)))) else (if (v334 &&& (63 : Int32)) = (36 : Int32) then zxl xs L (v331 + (1 : Int32)) (fun v547 => zb2 (zf_X9_votes n v547 M332) (fun v548 M549 => zxl xs L (v331 + (1 : Int32)) (fun v550 => zb2 (zf_X10_votes n v550 M549) (fun v551 M552 => (if v548 = v551 then (zf_L_law_j1608 (fun x0 x1 => zf_L_law_L18 L xs n K1614 n18 x0 x1) v331 M552) else some (0 : Int32)))))) else (if (v334 &&& (63 : Int32)) = (37 : Int32) then zxl xs L (v331 + (1 : Int32)) (fun v553 => zxl xs L (v331 + (2 : Int32)) (fun v554 => zb2 (zf_X9_wereOut n v553 v554 M332) (fun v555 M556 => zxl xs L (v331 + (1 : Int32)) (fun v557 => zxl xs L (v331 + (2 : Int32)) (fun v558 => zb2 (zf_X10_wereOut n v557 v558 M556) (fun v559 M560 => (if v555 = v559 then (zf_L_law_j1608 (fun x0 x1 => zf_L_law_L18 L xs n K1614 n18 x0 x1) v331 M560) else some (0 : Int32)))))))) else (if (v334 &&& (63 : Int32)) = (38 : Int32) then zxl xs L (v331 + (1 : Int32)) (fun v561 => zxl xs L (v331 + (2 : Int32)) (fun v562 => zb2 (zf_X9_wereFund n v561 v562 M332) (fun v563 M564 => zxl xs L (v331 + (1 : Int32)) (fun v565 => zxl xs L (v331 + (2 : Int32)) (fun v566 => zb2 (zf_X10_wereFund n v565 v566 M564) (fun v567 M568 => (if v563 = v567 then (zf_L_law_j1608 (fun x0 x1 => zf_L_law_L18 L xs n K1614 n18 x0 x1) v331 M568) else some (0 : Int32)))))))) else (if (v334 &&& (63 : Int32)) = (39 : Int32) then zxl xs L (v331 + (1 : Int32)) (fun v569 => zxl xs L (v331 + (2 : Int32)) (fun v570 => zb2 (zf_X9_wereRule n v569 v570 M332) (fun v571 M572 => zxl xs L (v331 + (1 : Int32)) (fun v573 => zxl xs L (v331 + (2 : Int32)) (fun v574 => zb2 (zf_X10_wereRule n v573 v574 M572) (fun v575 M576 => (if v571 = v575 then (zf_L_law_j1608 (fun x0 x1 => zf_L_law_L18 L xs n K1614 n18 x0 x1) v331 M576) else some (0 : Int32)))))))) else (if (v334 &&& (63 : Int32)) = (40 : Int32) then zxl xs L (v331 + (1 : Int32)) (fun v577 => zb2 (zf_X9_ruleFor n v577 M332) (fun v578 M579 => zxl xs L (v331 + (1 : Int32)) (fun v580 => zb2 (zf_X10_ruleFor n v580 M579) (fun v581 M582 => (if v578 = v581 then (zf_L_law_j1608 (fun x0 x1 => zf_L_law_L18 L xs n K1614 n18 x0 x1) v331 M582) else some (0 : Int32)))))) else (if (v334 &&& (63 : Int32)) = (41 : Int32) then zxl xs L (v331 + (1 : Int32)) (fun v583 => zb2 (zf_X9_leaver n v583 M332) (fun v584 M585 => zxl xs L (v331 + (1 : Int32)) (fun v586 => zb2 (zf_X10_leaver n v586 M585) (fun v587 M588 => (if v584 = v587 then (zf_L_law_j1608 (fun x0 x1 => zf_L_law_L18 L xs n K1614 n18 x0 x1) v331 M588) else some (0 : Int32)))))) else (if (v334 &&& (63 : Int32)) = (42 : Int32) then zxl xs L (v331 + (1 : Int32)) (fun v589 => zb2 (zf_X9_alone n v589 M332) (fun v590 M591 => zxl xs L (v331 + (1 : Int32)) (fun v592 => zb2 (zf_X10_alone n v592 M591) (fun v593 M594 => (if v590 = v593 then (zf_L_law_j1608 (fun x0 x1 => zf_L_law_L18 L xs n K1614 n18 x0 x1) v331 M594) else some (0 : Int32)))))) else (if (v334 &&& (63 : Int32)) = (43 : Int32) then zb2 (zf_X9_needs n M332) (fun v595 M596 => zb2 (zf_X10_needs n M596) (fun v597 M598 => (if v595 = v597 then (zf_L_law_j1608 (fun x0 x1 => zf_L_law_L18 L xs n K1614 n18 x0 x1) v331 M598) else some (0 : Int32)))) else (if (v334 &&& (63 : Int32)) = (44 : Int32) then zxl xs L (v331 + (1 : Int32)) (fun v599 => zxl xs L (v331 + (2 : Int32)) (fun v600 => zxl xs L (v331 + (3 : Int32)) (fun v601 => zb2 (zf_X9_rests n v599 v600 v601 M332) (fun v602 M603 => zxl xs L (v331 + (1 : Int32)) (fun v604 => zxl xs L (v331 + (2 : Int32)) (fun v605 => zxl xs L (v331 + (3 : Int32)) (fun v606 => zb2 (zf_X10_rests n v604 v605 v606 M603) (fun v607 M608 => (if v602 = v607 then (zf_L_law_j1608 (fun x0 x1 => zf_L_law_L18 L xs n K1614 n18 x0 x1) v331 M608) else some (0 : Int32)))))))))) else (if (v334 &&& (63 : Int32)) = (45 : Int32) then zxl xs L (v331 + (1 : Int32)) (fun v609 => zxl xs L (v331 + (2 : Int32)) (fun v610 => zb1 (zf_X9_sample n v609 v610 M332) (fun v611 => zxl xs L (v331 + (1 : Int32)) (fun v612 => zxl xs L (v331 + (2 : Int32)) (fun v613 => zb1 (zf_X10_sample n v612 v613 M332) (fun v614 => (if v611 = v614 then (zf_L_law_j1608 (fun x0 x1 => zf_L_law_L18 L xs n K1614 n18 x0 x1) v331 M332) else some (0 : Int32)))))))) else (if (v334 &&& (63 : Int32)) = (46 : Int32) then zxl xs L (v331 + (1 : Int32)) (fun v615 => zb1 (zf_X9_estimate n v615 M332) (fun v616 => zxl xs L (v331 + (1 : Int32)) (fun v617 => zb1 (zf_X10_estimate n v617 M332) (fun v618 => (if v616 = v618 then (zf_L_law_j1608 (fun x0 x1 => zf_L_law_L18 L xs n K1614 n18 x0 x1) v331 M332) else some (0 : Int32)))))) else (if (v334 &&& (63 : Int32)) = (47 : Int32) then zxl xs L (v331 + (1 : Int32)) (fun v619 => zxl xs L (v331 + (2 : Int32)) (fun v620 => zb1 (zf_X9_nearest n v619 v620 M332) (fun v621 => zxl xs L (v331 + (1 : Int32)) (fun v622 => zxl xs L (v331 + (2 : Int32)) (fun v623 => zb1 (zf_X10_nearest n v622 v623 M332) (fun v624 => (if v621 = v624 then (zf_L_law_j1608 (fun x0 x1 => zf_L_law_L18 L xs n K1614 n18 x0 x1) v331 M332) else some (0 : Int32)))))))) else (if (v334 &&& (63 : Int32)) = (48 : Int32) then zxl xs L (v331 + (1 : Int32)) (fun v625 => zxl xs L (v331 + (2 : Int32)) (fun v626 => zb1 (zf_X9_within n v625 v626 M332) (fun v627 => zxl xs L (v331 + (1 : Int32)) (fun v628 => zxl xs L (v331 + (2 : Int32)) (fun v629 => zb1 (zf_X10_within n v628 v629 M332) (fun v630 => (if v627 = v630 then (zf_L_law_j1608 (fun x0 x1 => zf_L_law_L18 L xs n K1614 n18 x0 x1) v331 M332) else some (0 : Int32)))))))) else (if (v334 &&& (63 : Int32)) = (49 : Int32) then zxl xs L (v331 + (1 : Int32)) (fun v631 => zb2 (zf_X9_spell n v631 M332) (fun v632 M633 => zxl xs L (v331 + (1 : Int32)) (fun v634 => zb2 (zf_X10_spell n v634 M633) (fun v635 M636 => (if v632 = v635 then (zf_L_law_j1608 (fun x0 x1 => zf_L_law_L18 L xs n K1614 n18 x0 x1) v331 M636) else some (0 : Int32)))))) else (if (v334 &&& (63 : Int32)) = (50 : Int32) then zxl xs L (v331 + (1 : Int32)) (fun v637 => zb2 (zf_X9_report n v637 M332) (fun v638 M639 => zxl xs L (v331 + (1 : Int32)) (fun v640 => zb2 (zf_X10_report n v640 M639) (fun v641 M642 => (if v638 = v641 then (zf_L_law_j1608 (fun x0 x1 => zf_L_law_L18 L xs n K1614 n18 x0 x1) v331 M642) else some (0 : Int32)))))) else (if (v334 &&& (63 : Int32)) = (51 : Int32) then zxl xs L (v331 + (1 : Int32)) (fun v643 => zb1 (zf_X9_count n v643 M332) (fun v644 => zxl xs L (v331 + (1 : Int32)) (fun v645 => zb1 (zf_X10_count n v645 M332) (fun v646 => (if v644 = v646 then (zf_L_law_j1608 (fun x0 x1 => zf_L_law_L18 L xs n K1614 n18 x0 x1) v331 M332) else some (0 : Int32)))))) else (zf_L_law_j1608 (fun x0 x1 => zf_L_law_L18 L xs n K1614 n18 x0 x1) v331 M332)))))))))))))))))))))))))))))))))))))))))))))))))))))))
def zf_law (n L : Nat) (xs : Nat → Int32) (M : ZMem) : Option Int32 :=
  (zf_L_law_L18 L xs n (fun M647 => some (1 : Int32)) n (0 : Int32) M)
set_option maxHeartbeats 40000000 in
set_option maxRecDepth 100000 in
theorem zc_law {E : ZEnv} {b n L : Nat} {xs : Nat → Int32} {M : ZMem} (hN : E.2.2.2.2.2.2.2.2.2.2.2.2.2.2.2.2 = 4) (hC : ZCx E cL_law R_law 40) (hX : ZXs E b L xs) (hR : ∀ (pc : Nat) (lv : List (Nat × Value)) (M : ZMem), decode cL_law pc = .ok (.ireturn, 1) → ZW E pc lv [.int 1] M) (hf : zf_law n L xs M = some 1) : ZW E 16 [(2, .ref (zad E 77)), (1, .ref (zad E 0)), (0, .ref b)] [] M := by
  unfold zf_law at hf
  refine zw_iconst hC (v := (0 : Int32)) dL_law_16 (by decide) ?_
  refine zw_istore_n hC (lv' := [(3, .int (0 : Int32)), (2, .ref (zad E 77)), (1, .ref (zad E 0)), (0, .ref b)]) dL_law_17 rfl hN (by decide) rfl ?_
  have hL18 : ∀ (K1614 : ZMem → Option (Int32)), (∀ (M333 : ZMem), K1614 M333 = some 1 → ZW E 1614 [] [] M333) → ∀ (n18 : Nat), ∀ (v331 : Int32), ∀ (M332 : ZMem), zf_L_law_L18 L xs n K1614 n18 v331 M332 = some 1 → ZW E 18 [(0, .ref b), (1, .ref (zad E 0)), (2, .ref (zad E 77)), (3, .int v331)] [] M332 := by
    intro K1614 hK1614
    intro n18
    induction n18 with
    | zero => intro v331 M332 hf; rw [zf_L_law_L18] at hf; cases hf
    | succ n18 ih18 =>
      intro v331 M332 hf
      rw [zf_L_law_L18] at hf
      refine zw_iload_n hC dL_law_18 rfl 3 rfl ?_
      refine zw_aload_n hC dL_law_19 rfl 0 rfl ?_
      refine zw_xlen hC hX dL_law_20 ?_
      refine zw_bipush hC (v := (6 : Int32)) dL_law_21 (by decide) ?_
      refine zw_isub hC dL_law_23 ?_
      refine zw_icmp_gt hC 1614 hf dL_law_24 (by decide) (fun hf => ?_) (fun hf => ?_)
      · exact zw_sub [] rfl (hK1614 M332 hf)
      · refine zw_aload_n hC dL_law_27 rfl 0 rfl ?_
        refine zw_iload_n hC dL_law_28 rfl 3 rfl ?_
        refine zw_xld hC hX hf dL_law_29 (fun v334 hf => ?_)
        refine zw_bipush hC (v := (63 : Int32)) dL_law_30 (by decide) ?_
        refine zw_iand hC dL_law_32 ?_
        have hj1608 : ∀ (M335 : ZMem), zf_L_law_j1608 (fun x0 x1 => zf_L_law_L18 L xs n K1614 n18 x0 x1) v331 M335 = some 1 → ZW E 1608 [(0, .ref b), (1, .ref (zad E 0)), (2, .ref (zad E 77)), (3, .int v331)] [] M335 := by
          intro M335 hf
          unfold zf_L_law_j1608 at hf
          refine zw_iinc hC (v := (6 : Int32)) (lv' := [(3, .int (v331 + (6 : Int32))), (0, .ref b), (1, .ref (zad E 0)), (2, .ref (zad E 77))]) dL_law_1608 3 rfl (by decide) hN (by decide) rfl ?_
          refine zw_goto hC 18 dL_law_1611 (by decide) ?_
          exact zw_sub [1, 2, 3, 0] rfl (ih18 (v331 + (6 : Int32)) M335 hf)
        by_cases hx33_0 : (v334 &&& (63 : Int32)) = (0 : Int32)
        · rw [if_pos hx33_0] at hf
          refine zw_tin hC hx33_0 (tgt := 256) dL_law_33 (by decide) (by decide) rfl (by decide) ?_
          refine zw_aload_n hC dL_law_256 rfl 1 rfl ?_
          refine zw_aload_n hC dL_law_257 rfl 0 rfl ?_
          refine zw_iload_n hC dL_law_258 rfl 3 rfl ?_
          refine zw_iconst hC (v := (1 : Int32)) dL_law_259 (by decide) ?_
          refine zw_iadd hC dL_law_260 ?_
          refine zw_xld hC hX hf dL_law_261 (fun v336 hf => ?_)
          refine zw_aload_n hC dL_law_262 rfl 0 rfl ?_
          refine zw_iload_n hC dL_law_263 rfl 3 rfl ?_
          refine zw_iconst hC (v := (2 : Int32)) dL_law_264 (by decide) ?_
          refine zw_iadd hC dL_law_265 ?_
          refine zw_xld hC hX hf dL_law_266 (fun v337 hf => ?_)
          refine zw_aload_n hC dL_law_267 rfl 0 rfl ?_
          refine zw_iload_n hC dL_law_268 rfl 3 rfl ?_
          refine zw_iconst hC (v := (3 : Int32)) dL_law_269 (by decide) ?_
          refine zw_iadd hC dL_law_270 ?_
          refine zw_xld hC hX hf dL_law_271 (fun v338 hf => ?_)
          refine zw_aload_n hC dL_law_272 rfl 0 rfl ?_
          refine zw_iload_n hC dL_law_273 rfl 3 rfl ?_
          refine zw_iconst hC (v := (4 : Int32)) dL_law_274 (by decide) ?_
          refine zw_iadd hC dL_law_275 ?_
          refine zw_xld hC hX hf dL_law_276 (fun v339 hf => ?_)
          refine zw_aload_n hC dL_law_277 rfl 0 rfl ?_
          refine zw_iload_n hC dL_law_278 rfl 3 rfl ?_
          refine zw_iconst hC (v := (5 : Int32)) dL_law_279 (by decide) ?_
          refine zw_iadd hC dL_law_280 ?_
          refine zw_xld hC hX hf dL_law_281 (fun v340 hf => ?_)
          obtain ⟨v341, M342, hcM342, hf⟩ := zb2_some hf
          refine zw_cV hC [.int v336, .int v337, .int v338, .int v339, .int v340] [] (st1 := [.int v341]) zm_X9_feed (zc_X9_feed hcM342) zk_0 rfl kw_2_196 dL_law_282 rfl (by decide) (Nat.le_of_ble_eq_true rfl) rfl rfl ?_
          refine zw_aload_n hC dL_law_285 rfl 2 rfl ?_
          refine zw_aload_n hC dL_law_286 rfl 0 rfl ?_
          refine zw_iload_n hC dL_law_287 rfl 3 rfl ?_
          refine zw_iconst hC (v := (1 : Int32)) dL_law_288 (by decide) ?_
          refine zw_iadd hC dL_law_289 ?_
          refine zw_xld hC hX hf dL_law_290 (fun v343 hf => ?_)
          refine zw_aload_n hC dL_law_291 rfl 0 rfl ?_
          refine zw_iload_n hC dL_law_292 rfl 3 rfl ?_
          refine zw_iconst hC (v := (2 : Int32)) dL_law_293 (by decide) ?_
          refine zw_iadd hC dL_law_294 ?_
          refine zw_xld hC hX hf dL_law_295 (fun v344 hf => ?_)
          refine zw_aload_n hC dL_law_296 rfl 0 rfl ?_
          refine zw_iload_n hC dL_law_297 rfl 3 rfl ?_
          refine zw_iconst hC (v := (3 : Int32)) dL_law_298 (by decide) ?_
          refine zw_iadd hC dL_law_299 ?_
          refine zw_xld hC hX hf dL_law_300 (fun v345 hf => ?_)
          refine zw_aload_n hC dL_law_301 rfl 0 rfl ?_
          refine zw_iload_n hC dL_law_302 rfl 3 rfl ?_
          refine zw_iconst hC (v := (4 : Int32)) dL_law_303 (by decide) ?_
          refine zw_iadd hC dL_law_304 ?_
          refine zw_xld hC hX hf dL_law_305 (fun v346 hf => ?_)
          refine zw_aload_n hC dL_law_306 rfl 0 rfl ?_
          refine zw_iload_n hC dL_law_307 rfl 3 rfl ?_
          refine zw_iconst hC (v := (5 : Int32)) dL_law_308 (by decide) ?_
          refine zw_iadd hC dL_law_309 ?_
          refine zw_xld hC hX hf dL_law_310 (fun v347 hf => ?_)
          obtain ⟨v348, M349, hcM349, hf⟩ := zb2_some hf
          refine zw_cV hC [.int v343, .int v344, .int v345, .int v346, .int v347] [.int v341] (st1 := [.int v348, .int v341]) zm_X10_feed (zc_X10_feed hcM349) zk_77 rfl kw_6_98 dL_law_311 rfl (by decide) (Nat.le_of_ble_eq_true rfl) rfl rfl ?_
          refine zw_icmp_eq hC 1608 hf dL_law_314 (by decide) (fun hf => ?_) (fun hf => ?_)
          · exact hj1608 M349 hf
          · refine zw_iconst hC (v := (0 : Int32)) dL_law_317 (by decide) ?_
            first | (exact absurd (Option.some.inj hf) (by decide)) | exact hR _ _ _ dL_law_318
        rw [if_neg hx33_0] at hf
        by_cases hx33_1 : (v334 &&& (63 : Int32)) = (1 : Int32)
        · rw [if_pos hx33_1] at hf
          refine zw_tin hC hx33_1 (tgt := 319) dL_law_33 (by decide) (by decide) rfl (by decide) ?_
          refine zw_aload_n hC dL_law_319 rfl 1 rfl ?_
          refine zw_aload_n hC dL_law_320 rfl 0 rfl ?_
          refine zw_iload_n hC dL_law_321 rfl 3 rfl ?_
          refine zw_iconst hC (v := (1 : Int32)) dL_law_322 (by decide) ?_
          refine zw_iadd hC dL_law_323 ?_
          refine zw_xld hC hX hf dL_law_324 (fun v350 hf => ?_)
          obtain ⟨v351, M352, hcM352, hf⟩ := zb2_some hf
          refine zw_cV hC [.int v350] [] (st1 := [.int v351]) zm_X9_back (zc_X9_back hcM352) zk_0 rfl kw_2_204 dL_law_325 rfl (by decide) (Nat.le_of_ble_eq_true rfl) rfl rfl ?_
          refine zw_aload_n hC dL_law_328 rfl 2 rfl ?_
          refine zw_aload_n hC dL_law_329 rfl 0 rfl ?_
          refine zw_iload_n hC dL_law_330 rfl 3 rfl ?_
          refine zw_iconst hC (v := (1 : Int32)) dL_law_331 (by decide) ?_
          refine zw_iadd hC dL_law_332 ?_
          refine zw_xld hC hX hf dL_law_333 (fun v353 hf => ?_)
          obtain ⟨v354, M355, hcM355, hf⟩ := zb2_some hf
          refine zw_cV hC [.int v353] [.int v351] (st1 := [.int v354, .int v351]) zm_X10_back (zc_X10_back hcM355) zk_77 rfl kw_6_102 dL_law_334 rfl (by decide) (Nat.le_of_ble_eq_true rfl) rfl rfl ?_
          refine zw_icmp_eq hC 1608 hf dL_law_337 (by decide) (fun hf => ?_) (fun hf => ?_)
          · exact hj1608 M355 hf
          · refine zw_iconst hC (v := (0 : Int32)) dL_law_340 (by decide) ?_
            first | (exact absurd (Option.some.inj hf) (by decide)) | exact hR _ _ _ dL_law_341
        rw [if_neg hx33_1] at hf
        by_cases hx33_2 : (v334 &&& (63 : Int32)) = (2 : Int32)
        · rw [if_pos hx33_2] at hf
          refine zw_tin hC hx33_2 (tgt := 342) dL_law_33 (by decide) (by decide) rfl (by decide) ?_
          refine zw_aload_n hC dL_law_342 rfl 1 rfl ?_
          obtain ⟨v356, M357, hcM357, hf⟩ := zb2_some hf
          refine zw_cV hC [] [] (st1 := [.int v356]) zm_X9_text (zc_X9_text hcM357) zk_0 rfl kw_2_208 dL_law_343 rfl (by decide) (Nat.le_of_ble_eq_true rfl) rfl rfl ?_
          refine zw_aload_n hC dL_law_346 rfl 2 rfl ?_
          obtain ⟨v358, M359, hcM359, hf⟩ := zb2_some hf
          refine zw_cV hC [] [.int v356] (st1 := [.int v358, .int v356]) zm_X10_text (zc_X10_text hcM359) zk_77 rfl kw_6_109 dL_law_347 rfl (by decide) (Nat.le_of_ble_eq_true rfl) rfl rfl ?_
          refine zw_icmp_eq hC 1608 hf dL_law_350 (by decide) (fun hf => ?_) (fun hf => ?_)
          · exact hj1608 M359 hf
          · refine zw_iconst hC (v := (0 : Int32)) dL_law_353 (by decide) ?_
            first | (exact absurd (Option.some.inj hf) (by decide)) | exact hR _ _ _ dL_law_354
        rw [if_neg hx33_2] at hf
        by_cases hx33_3 : (v334 &&& (63 : Int32)) = (3 : Int32)
        · rw [if_pos hx33_3] at hf
          refine zw_tin hC hx33_3 (tgt := 355) dL_law_33 (by decide) (by decide) rfl (by decide) ?_
          refine zw_aload_n hC dL_law_355 rfl 1 rfl ?_
          refine zw_aload_n hC dL_law_356 rfl 0 rfl ?_
          refine zw_iload_n hC dL_law_357 rfl 3 rfl ?_
          refine zw_iconst hC (v := (1 : Int32)) dL_law_358 (by decide) ?_
          refine zw_iadd hC dL_law_359 ?_
          refine zw_xld hC hX hf dL_law_360 (fun v360 hf => ?_)
          obtain ⟨v361, M362, hcM362, hf⟩ := zb2_some hf
          refine zw_cV hC [.int v360] [] (st1 := [.int v361]) zm_X9_days (zc_X9_days hcM362) zk_0 rfl kw_3_149 dL_law_361 rfl (by decide) (Nat.le_of_ble_eq_true rfl) rfl rfl ?_
          refine zw_aload_n hC dL_law_364 rfl 2 rfl ?_
          refine zw_aload_n hC dL_law_365 rfl 0 rfl ?_
          refine zw_iload_n hC dL_law_366 rfl 3 rfl ?_
          refine zw_iconst hC (v := (1 : Int32)) dL_law_367 (by decide) ?_
          refine zw_iadd hC dL_law_368 ?_
          refine zw_xld hC hX hf dL_law_369 (fun v363 hf => ?_)
          obtain ⟨v364, M365, hcM365, hf⟩ := zb2_some hf
          refine zw_cV hC [.int v363] [.int v361] (st1 := [.int v364, .int v361]) zm_X10_days (zc_X10_days hcM365) zk_77 rfl kw_6_201 dL_law_370 rfl (by decide) (Nat.le_of_ble_eq_true rfl) rfl rfl ?_
          refine zw_icmp_eq hC 1608 hf dL_law_373 (by decide) (fun hf => ?_) (fun hf => ?_)
          · exact hj1608 M365 hf
          · refine zw_iconst hC (v := (0 : Int32)) dL_law_376 (by decide) ?_
            first | (exact absurd (Option.some.inj hf) (by decide)) | exact hR _ _ _ dL_law_377
        rw [if_neg hx33_3] at hf
        by_cases hx33_4 : (v334 &&& (63 : Int32)) = (4 : Int32)
        · rw [if_pos hx33_4] at hf
          refine zw_tin hC hx33_4 (tgt := 378) dL_law_33 (by decide) (by decide) rfl (by decide) ?_
          refine zw_aload_n hC dL_law_378 rfl 1 rfl ?_
          refine zw_aload_n hC dL_law_379 rfl 0 rfl ?_
          refine zw_iload_n hC dL_law_380 rfl 3 rfl ?_
          refine zw_iconst hC (v := (1 : Int32)) dL_law_381 (by decide) ?_
          refine zw_iadd hC dL_law_382 ?_
          refine zw_xld hC hX hf dL_law_383 (fun v366 hf => ?_)
          obtain ⟨v367, M368, hcM368, hf⟩ := zb2_some hf
          refine zw_cV hC [.int v366] [] (st1 := [.int v367]) zm_X9_order (zc_X9_order hcM368) zk_0 rfl kw_3_165 dL_law_384 rfl (by decide) (Nat.le_of_ble_eq_true rfl) rfl rfl ?_
          refine zw_aload_n hC dL_law_387 rfl 2 rfl ?_
          refine zw_aload_n hC dL_law_388 rfl 0 rfl ?_
          refine zw_iload_n hC dL_law_389 rfl 3 rfl ?_
          refine zw_iconst hC (v := (1 : Int32)) dL_law_390 (by decide) ?_
          refine zw_iadd hC dL_law_391 ?_
          refine zw_xld hC hX hf dL_law_392 (fun v369 hf => ?_)
          obtain ⟨v370, M371, hcM371, hf⟩ := zb2_some hf
          refine zw_cV hC [.int v369] [.int v367] (st1 := [.int v370, .int v367]) zm_X10_order (zc_X10_order hcM371) zk_77 rfl kw_6_213 dL_law_393 rfl (by decide) (Nat.le_of_ble_eq_true rfl) rfl rfl ?_
          refine zw_icmp_eq hC 1608 hf dL_law_396 (by decide) (fun hf => ?_) (fun hf => ?_)
          · exact hj1608 M371 hf
          · refine zw_iconst hC (v := (0 : Int32)) dL_law_399 (by decide) ?_
            first | (exact absurd (Option.some.inj hf) (by decide)) | exact hR _ _ _ dL_law_400
        rw [if_neg hx33_4] at hf
        by_cases hx33_5 : (v334 &&& (63 : Int32)) = (5 : Int32)
        · rw [if_pos hx33_5] at hf
          refine zw_tin hC hx33_5 (tgt := 401) dL_law_33 (by decide) (by decide) rfl (by decide) ?_
          refine zw_aload_n hC dL_law_401 rfl 1 rfl ?_
          obtain ⟨v372, M373, hcM373, hf⟩ := zb2_some hf
          refine zw_cV hC [] [] (st1 := [.int v372]) zm_X9_send (zc_X9_send hcM373) zk_0 rfl kw_3_182 dL_law_402 rfl (by decide) (Nat.le_of_ble_eq_true rfl) rfl rfl ?_
          refine zw_aload_n hC dL_law_405 rfl 2 rfl ?_
          obtain ⟨v374, M375, hcM375, hf⟩ := zb2_some hf
          refine zw_cV hC [] [.int v372] (st1 := [.int v374, .int v372]) zm_X10_send (zc_X10_send hcM375) zk_77 rfl kw_6_229 dL_law_406 rfl (by decide) (Nat.le_of_ble_eq_true rfl) rfl rfl ?_
          refine zw_icmp_eq hC 1608 hf dL_law_409 (by decide) (fun hf => ?_) (fun hf => ?_)
          · exact hj1608 M375 hf
          · refine zw_iconst hC (v := (0 : Int32)) dL_law_412 (by decide) ?_
            first | (exact absurd (Option.some.inj hf) (by decide)) | exact hR _ _ _ dL_law_413
        rw [if_neg hx33_5] at hf
        by_cases hx33_6 : (v334 &&& (63 : Int32)) = (6 : Int32)
        · rw [if_pos hx33_6] at hf
          refine zw_tin hC hx33_6 (tgt := 414) dL_law_33 (by decide) (by decide) rfl (by decide) ?_
          refine zw_aload_n hC dL_law_414 rfl 1 rfl ?_
          refine zw_aload_n hC dL_law_415 rfl 0 rfl ?_
          refine zw_iload_n hC dL_law_416 rfl 3 rfl ?_
          refine zw_iconst hC (v := (1 : Int32)) dL_law_417 (by decide) ?_
          refine zw_iadd hC dL_law_418 ?_
          refine zw_xld hC hX hf dL_law_419 (fun v376 hf => ?_)
          obtain ⟨v377, M378, hcM378, hf⟩ := zb2_some hf
          refine zw_cV hC [.int v376] [] (st1 := [.int v377]) zm_X9_out (zc_X9_out hcM378) zk_0 rfl kw_3_193 dL_law_420 rfl (by decide) (Nat.le_of_ble_eq_true rfl) rfl rfl ?_
          refine zw_aload_n hC dL_law_423 rfl 2 rfl ?_
          refine zw_aload_n hC dL_law_424 rfl 0 rfl ?_
          refine zw_iload_n hC dL_law_425 rfl 3 rfl ?_
          refine zw_iconst hC (v := (1 : Int32)) dL_law_426 (by decide) ?_
          refine zw_iadd hC dL_law_427 ?_
          refine zw_xld hC hX hf dL_law_428 (fun v379 hf => ?_)
          obtain ⟨v380, M381, hcM381, hf⟩ := zb2_some hf
          refine zw_cV hC [.int v379] [.int v377] (st1 := [.int v380, .int v377]) zm_X10_out (zc_X10_out hcM381) zk_77 rfl kw_7_1 dL_law_429 rfl (by decide) (Nat.le_of_ble_eq_true rfl) rfl rfl ?_
          refine zw_icmp_eq hC 1608 hf dL_law_432 (by decide) (fun hf => ?_) (fun hf => ?_)
          · exact hj1608 M381 hf
          · refine zw_iconst hC (v := (0 : Int32)) dL_law_435 (by decide) ?_
            first | (exact absurd (Option.some.inj hf) (by decide)) | exact hR _ _ _ dL_law_436
        rw [if_neg hx33_6] at hf
        by_cases hx33_7 : (v334 &&& (63 : Int32)) = (7 : Int32)
        · rw [if_pos hx33_7] at hf
          refine zw_tin hC hx33_7 (tgt := 437) dL_law_33 (by decide) (by decide) rfl (by decide) ?_
          refine zw_aload_n hC dL_law_437 rfl 1 rfl ?_
          refine zw_aload_n hC dL_law_438 rfl 0 rfl ?_
          refine zw_iload_n hC dL_law_439 rfl 3 rfl ?_
          refine zw_iconst hC (v := (1 : Int32)) dL_law_440 (by decide) ?_
          refine zw_iadd hC dL_law_441 ?_
          refine zw_xld hC hX hf dL_law_442 (fun v382 hf => ?_)
          obtain ⟨v383, M384, hcM384, hf⟩ := zb2_some hf
          refine zw_cV hC [.int v382] [] (st1 := [.int v383]) zm_X9_file (zc_X9_file hcM384) zk_0 rfl kw_3_219 dL_law_443 rfl (by decide) (Nat.le_of_ble_eq_true rfl) rfl rfl ?_
          refine zw_aload_n hC dL_law_446 rfl 2 rfl ?_
          refine zw_aload_n hC dL_law_447 rfl 0 rfl ?_
          refine zw_iload_n hC dL_law_448 rfl 3 rfl ?_
          refine zw_iconst hC (v := (1 : Int32)) dL_law_449 (by decide) ?_
          refine zw_iadd hC dL_law_450 ?_
          refine zw_xld hC hX hf dL_law_451 (fun v385 hf => ?_)
          obtain ⟨v386, M387, hcM387, hf⟩ := zb2_some hf
          refine zw_cV hC [.int v385] [.int v383] (st1 := [.int v386, .int v383]) zm_X10_file (zc_X10_file hcM387) zk_77 rfl kw_7_24 dL_law_452 rfl (by decide) (Nat.le_of_ble_eq_true rfl) rfl rfl ?_
          refine zw_icmp_eq hC 1608 hf dL_law_455 (by decide) (fun hf => ?_) (fun hf => ?_)
          · exact hj1608 M387 hf
          · refine zw_iconst hC (v := (0 : Int32)) dL_law_458 (by decide) ?_
            first | (exact absurd (Option.some.inj hf) (by decide)) | exact hR _ _ _ dL_law_459
        rw [if_neg hx33_7] at hf
        by_cases hx33_8 : (v334 &&& (63 : Int32)) = (8 : Int32)
        · rw [if_pos hx33_8] at hf
          refine zw_tin hC hx33_8 (tgt := 460) dL_law_33 (by decide) (by decide) rfl (by decide) ?_
          refine zw_aload_n hC dL_law_460 rfl 1 rfl ?_
          refine zw_aload_n hC dL_law_461 rfl 0 rfl ?_
          refine zw_iload_n hC dL_law_462 rfl 3 rfl ?_
          refine zw_iconst hC (v := (1 : Int32)) dL_law_463 (by decide) ?_
          refine zw_iadd hC dL_law_464 ?_
          refine zw_xld hC hX hf dL_law_465 (fun v388 hf => ?_)
          refine zw_aload_n hC dL_law_466 rfl 0 rfl ?_
          refine zw_iload_n hC dL_law_467 rfl 3 rfl ?_
          refine zw_iconst hC (v := (2 : Int32)) dL_law_468 (by decide) ?_
          refine zw_iadd hC dL_law_469 ?_
          refine zw_xld hC hX hf dL_law_470 (fun v389 hf => ?_)
          have hj479 : ∀ (v390 : Int32), zf_L_law_j479 v388 M332 xs L v331 n (fun x0 x1 => zf_L_law_L18 L xs n K1614 n18 x0 x1) v390 = some 1 → ZW E 479 [(0, .ref b), (1, .ref (zad E 0)), (2, .ref (zad E 77)), (3, .int v331)] [.int v390, .int v388, .ref (zad E 0)] M332 := by
            intro v390 hf
            unfold zf_L_law_j479 at hf
            obtain ⟨v391, M392, hcM392, hf⟩ := zb2_some hf
            refine zw_cV hC [.int v388, .int v390] [] (st1 := [.int v391]) zm_X9_lazy (zc_X9_lazy hcM392) zk_0 rfl kw_3_223 dL_law_479 rfl (by decide) (Nat.le_of_ble_eq_true rfl) rfl rfl ?_
            refine zw_aload_n hC dL_law_482 rfl 2 rfl ?_
            refine zw_aload_n hC dL_law_483 rfl 0 rfl ?_
            refine zw_iload_n hC dL_law_484 rfl 3 rfl ?_
            refine zw_iconst hC (v := (1 : Int32)) dL_law_485 (by decide) ?_
            refine zw_iadd hC dL_law_486 ?_
            refine zw_xld hC hX hf dL_law_487 (fun v393 hf => ?_)
            refine zw_aload_n hC dL_law_488 rfl 0 rfl ?_
            refine zw_iload_n hC dL_law_489 rfl 3 rfl ?_
            refine zw_iconst hC (v := (2 : Int32)) dL_law_490 (by decide) ?_
            refine zw_iadd hC dL_law_491 ?_
            refine zw_xld hC hX hf dL_law_492 (fun v394 hf => ?_)
            have hj501 : ∀ (v395 : Int32), zf_L_law_j501 n v393 M392 v391 (fun x0 x1 => zf_L_law_L18 L xs n K1614 n18 x0 x1) v331 v395 = some 1 → ZW E 501 [(0, .ref b), (1, .ref (zad E 0)), (2, .ref (zad E 77)), (3, .int v331)] [.int v395, .int v393, .ref (zad E 77), .int v391] M392 := by
              intro v395 hf
              unfold zf_L_law_j501 at hf
              obtain ⟨v396, M397, hcM397, hf⟩ := zb2_some hf
              refine zw_cV hC [.int v393, .int v395] [.int v391] (st1 := [.int v396, .int v391]) zm_X10_lazy (zc_X10_lazy hcM397) zk_77 rfl kw_7_28 dL_law_501 rfl (by decide) (Nat.le_of_ble_eq_true rfl) rfl rfl ?_
              refine zw_icmp_eq hC 1608 hf dL_law_504 (by decide) (fun hf => ?_) (fun hf => ?_)
              · exact hj1608 M397 hf
              · refine zw_iconst hC (v := (0 : Int32)) dL_law_507 (by decide) ?_
                first | (exact absurd (Option.some.inj hf) (by decide)) | exact hR _ _ _ dL_law_508
            refine zw_if_eq hC 500 hf dL_law_493 (by decide) (fun hf => ?_) (fun hf => ?_)
            · refine zw_iconst hC (v := (0 : Int32)) dL_law_500 (by decide) ?_
              exact hj501 (0 : Int32) hf
            · refine zw_iconst hC (v := (1 : Int32)) dL_law_496 (by decide) ?_
              refine zw_goto hC 501 dL_law_497 (by decide) ?_
              exact hj501 (1 : Int32) hf
          refine zw_if_eq hC 478 hf dL_law_471 (by decide) (fun hf => ?_) (fun hf => ?_)
          · refine zw_iconst hC (v := (0 : Int32)) dL_law_478 (by decide) ?_
            exact hj479 (0 : Int32) hf
          · refine zw_iconst hC (v := (1 : Int32)) dL_law_474 (by decide) ?_
            refine zw_goto hC 479 dL_law_475 (by decide) ?_
            exact hj479 (1 : Int32) hf
        rw [if_neg hx33_8] at hf
        by_cases hx33_9 : (v334 &&& (63 : Int32)) = (9 : Int32)
        · rw [if_pos hx33_9] at hf
          refine zw_tin hC hx33_9 (tgt := 509) dL_law_33 (by decide) (by decide) rfl (by decide) ?_
          refine zw_aload_n hC dL_law_509 rfl 1 rfl ?_
          refine zw_aload_n hC dL_law_510 rfl 0 rfl ?_
          refine zw_iload_n hC dL_law_511 rfl 3 rfl ?_
          refine zw_iconst hC (v := (1 : Int32)) dL_law_512 (by decide) ?_
          refine zw_iadd hC dL_law_513 ?_
          refine zw_xld hC hX hf dL_law_514 (fun v398 hf => ?_)
          obtain ⟨v399, M400, hcM400, hf⟩ := zb2_some hf
          refine zw_cV hC [.int v398] [] (st1 := [.int v399]) zm_X9_fund (zc_X9_fund hcM400) zk_0 rfl kw_3_227 dL_law_515 rfl (by decide) (Nat.le_of_ble_eq_true rfl) rfl rfl ?_
          refine zw_aload_n hC dL_law_518 rfl 2 rfl ?_
          refine zw_aload_n hC dL_law_519 rfl 0 rfl ?_
          refine zw_iload_n hC dL_law_520 rfl 3 rfl ?_
          refine zw_iconst hC (v := (1 : Int32)) dL_law_521 (by decide) ?_
          refine zw_iadd hC dL_law_522 ?_
          refine zw_xld hC hX hf dL_law_523 (fun v401 hf => ?_)
          obtain ⟨v402, M403, hcM403, hf⟩ := zb2_some hf
          refine zw_cV hC [.int v401] [.int v399] (st1 := [.int v402, .int v399]) zm_X10_fund (zc_X10_fund hcM403) zk_77 rfl kw_7_32 dL_law_524 rfl (by decide) (Nat.le_of_ble_eq_true rfl) rfl rfl ?_
          refine zw_icmp_eq hC 1608 hf dL_law_527 (by decide) (fun hf => ?_) (fun hf => ?_)
          · exact hj1608 M403 hf
          · refine zw_iconst hC (v := (0 : Int32)) dL_law_530 (by decide) ?_
            first | (exact absurd (Option.some.inj hf) (by decide)) | exact hR _ _ _ dL_law_531
        rw [if_neg hx33_9] at hf
        by_cases hx33_10 : (v334 &&& (63 : Int32)) = (10 : Int32)
        · rw [if_pos hx33_10] at hf
          refine zw_tin hC hx33_10 (tgt := 532) dL_law_33 (by decide) (by decide) rfl (by decide) ?_
          refine zw_aload_n hC dL_law_532 rfl 1 rfl ?_
          refine zw_aload_n hC dL_law_533 rfl 0 rfl ?_
          refine zw_iload_n hC dL_law_534 rfl 3 rfl ?_
          refine zw_iconst hC (v := (1 : Int32)) dL_law_535 (by decide) ?_
          refine zw_iadd hC dL_law_536 ?_
          refine zw_xld hC hX hf dL_law_537 (fun v404 hf => ?_)
          obtain ⟨v405, M406, hcM406, hf⟩ := zb2_some hf
          refine zw_cV hC [.int v404] [] (st1 := [.int v405]) zm_X9_rule (zc_X9_rule hcM406) zk_0 rfl kw_3_235 dL_law_538 rfl (by decide) (Nat.le_of_ble_eq_true rfl) rfl rfl ?_
          refine zw_aload_n hC dL_law_541 rfl 2 rfl ?_
          refine zw_aload_n hC dL_law_542 rfl 0 rfl ?_
          refine zw_iload_n hC dL_law_543 rfl 3 rfl ?_
          refine zw_iconst hC (v := (1 : Int32)) dL_law_544 (by decide) ?_
          refine zw_iadd hC dL_law_545 ?_
          refine zw_xld hC hX hf dL_law_546 (fun v407 hf => ?_)
          obtain ⟨v408, M409, hcM409, hf⟩ := zb2_some hf
          refine zw_cV hC [.int v407] [.int v405] (st1 := [.int v408, .int v405]) zm_X10_rule (zc_X10_rule hcM409) zk_77 rfl kw_7_36 dL_law_547 rfl (by decide) (Nat.le_of_ble_eq_true rfl) rfl rfl ?_
          refine zw_icmp_eq hC 1608 hf dL_law_550 (by decide) (fun hf => ?_) (fun hf => ?_)
          · exact hj1608 M409 hf
          · refine zw_iconst hC (v := (0 : Int32)) dL_law_553 (by decide) ?_
            first | (exact absurd (Option.some.inj hf) (by decide)) | exact hR _ _ _ dL_law_554
        rw [if_neg hx33_10] at hf
        by_cases hx33_11 : (v334 &&& (63 : Int32)) = (11 : Int32)
        · rw [if_pos hx33_11] at hf
          refine zw_tin hC hx33_11 (tgt := 555) dL_law_33 (by decide) (by decide) rfl (by decide) ?_
          refine zw_aload_n hC dL_law_555 rfl 1 rfl ?_
          refine zw_aload_n hC dL_law_556 rfl 0 rfl ?_
          refine zw_iload_n hC dL_law_557 rfl 3 rfl ?_
          refine zw_iconst hC (v := (1 : Int32)) dL_law_558 (by decide) ?_
          refine zw_iadd hC dL_law_559 ?_
          refine zw_xld hC hX hf dL_law_560 (fun v410 hf => ?_)
          refine zw_aload_n hC dL_law_561 rfl 0 rfl ?_
          refine zw_iload_n hC dL_law_562 rfl 3 rfl ?_
          refine zw_iconst hC (v := (2 : Int32)) dL_law_563 (by decide) ?_
          refine zw_iadd hC dL_law_564 ?_
          refine zw_xld hC hX hf dL_law_565 (fun v411 hf => ?_)
          obtain ⟨v412, M413, hcM413, hf⟩ := zb2_some hf
          refine zw_cV hC [.int v410, .int v411] [] (st1 := [.int v412]) zm_X9_period (zc_X9_period hcM413) zk_0 rfl kw_4_2 dL_law_566 rfl (by decide) (Nat.le_of_ble_eq_true rfl) rfl rfl ?_
          refine zw_aload_n hC dL_law_569 rfl 2 rfl ?_
          refine zw_aload_n hC dL_law_570 rfl 0 rfl ?_
          refine zw_iload_n hC dL_law_571 rfl 3 rfl ?_
          refine zw_iconst hC (v := (1 : Int32)) dL_law_572 (by decide) ?_
          refine zw_iadd hC dL_law_573 ?_
          refine zw_xld hC hX hf dL_law_574 (fun v414 hf => ?_)
          refine zw_aload_n hC dL_law_575 rfl 0 rfl ?_
          refine zw_iload_n hC dL_law_576 rfl 3 rfl ?_
          refine zw_iconst hC (v := (2 : Int32)) dL_law_577 (by decide) ?_
          refine zw_iadd hC dL_law_578 ?_
          refine zw_xld hC hX hf dL_law_579 (fun v415 hf => ?_)
          obtain ⟨v416, M417, hcM417, hf⟩ := zb2_some hf
          refine zw_cV hC [.int v414, .int v415] [.int v412] (st1 := [.int v416, .int v412]) zm_X10_period (zc_X10_period hcM417) zk_77 rfl kw_7_40 dL_law_580 rfl (by decide) (Nat.le_of_ble_eq_true rfl) rfl rfl ?_
          refine zw_icmp_eq hC 1608 hf dL_law_583 (by decide) (fun hf => ?_) (fun hf => ?_)
          · exact hj1608 M417 hf
          · refine zw_iconst hC (v := (0 : Int32)) dL_law_586 (by decide) ?_
            first | (exact absurd (Option.some.inj hf) (by decide)) | exact hR _ _ _ dL_law_587
        rw [if_neg hx33_11] at hf
        by_cases hx33_12 : (v334 &&& (63 : Int32)) = (12 : Int32)
        · rw [if_pos hx33_12] at hf
          refine zw_tin hC hx33_12 (tgt := 588) dL_law_33 (by decide) (by decide) rfl (by decide) ?_
          refine zw_aload_n hC dL_law_588 rfl 1 rfl ?_
          refine zw_aload_n hC dL_law_589 rfl 0 rfl ?_
          refine zw_iload_n hC dL_law_590 rfl 3 rfl ?_
          refine zw_iconst hC (v := (1 : Int32)) dL_law_591 (by decide) ?_
          refine zw_iadd hC dL_law_592 ?_
          refine zw_xld hC hX hf dL_law_593 (fun v418 hf => ?_)
          refine zw_aload_n hC dL_law_594 rfl 0 rfl ?_
          refine zw_iload_n hC dL_law_595 rfl 3 rfl ?_
          refine zw_iconst hC (v := (2 : Int32)) dL_law_596 (by decide) ?_
          refine zw_iadd hC dL_law_597 ?_
          refine zw_xld hC hX hf dL_law_598 (fun v419 hf => ?_)
          obtain ⟨v420, M421, hcM421, hf⟩ := zb2_some hf
          refine zw_cV hC [.int v418, .int v419] [] (st1 := [.int v420]) zm_X9_quarrel (zc_X9_quarrel hcM421) zk_0 rfl kw_4_22 dL_law_599 rfl (by decide) (Nat.le_of_ble_eq_true rfl) rfl rfl ?_
          refine zw_aload_n hC dL_law_602 rfl 2 rfl ?_
          refine zw_aload_n hC dL_law_603 rfl 0 rfl ?_
          refine zw_iload_n hC dL_law_604 rfl 3 rfl ?_
          refine zw_iconst hC (v := (1 : Int32)) dL_law_605 (by decide) ?_
          refine zw_iadd hC dL_law_606 ?_
          refine zw_xld hC hX hf dL_law_607 (fun v422 hf => ?_)
          refine zw_aload_n hC dL_law_608 rfl 0 rfl ?_
          refine zw_iload_n hC dL_law_609 rfl 3 rfl ?_
          refine zw_iconst hC (v := (2 : Int32)) dL_law_610 (by decide) ?_
          refine zw_iadd hC dL_law_611 ?_
          refine zw_xld hC hX hf dL_law_612 (fun v423 hf => ?_)
          obtain ⟨v424, M425, hcM425, hf⟩ := zb2_some hf
          refine zw_cV hC [.int v422, .int v423] [.int v420] (st1 := [.int v424, .int v420]) zm_X10_quarrel (zc_X10_quarrel hcM425) zk_77 rfl kw_7_59 dL_law_613 rfl (by decide) (Nat.le_of_ble_eq_true rfl) rfl rfl ?_
          refine zw_icmp_eq hC 1608 hf dL_law_616 (by decide) (fun hf => ?_) (fun hf => ?_)
          · exact hj1608 M425 hf
          · refine zw_iconst hC (v := (0 : Int32)) dL_law_619 (by decide) ?_
            first | (exact absurd (Option.some.inj hf) (by decide)) | exact hR _ _ _ dL_law_620
        rw [if_neg hx33_12] at hf
        by_cases hx33_13 : (v334 &&& (63 : Int32)) = (13 : Int32)
        · rw [if_pos hx33_13] at hf
          refine zw_tin hC hx33_13 (tgt := 621) dL_law_33 (by decide) (by decide) rfl (by decide) ?_
          refine zw_aload_n hC dL_law_621 rfl 1 rfl ?_
          obtain ⟨v426, M427, hcM427, hf⟩ := zb2_some hf
          refine zw_cV hC [] [] (st1 := [.int v426]) zm_X9_undo (zc_X9_undo hcM427) zk_0 rfl kw_4_31 dL_law_622 rfl (by decide) (Nat.le_of_ble_eq_true rfl) rfl rfl ?_
          refine zw_aload_n hC dL_law_625 rfl 2 rfl ?_
          obtain ⟨v428, M429, hcM429, hf⟩ := zb2_some hf
          refine zw_cV hC [] [.int v426] (st1 := [.int v428, .int v426]) zm_X10_undo (zc_X10_undo hcM429) zk_77 rfl kw_7_67 dL_law_626 rfl (by decide) (Nat.le_of_ble_eq_true rfl) rfl rfl ?_
          refine zw_icmp_eq hC 1608 hf dL_law_629 (by decide) (fun hf => ?_) (fun hf => ?_)
          · exact hj1608 M429 hf
          · refine zw_iconst hC (v := (0 : Int32)) dL_law_632 (by decide) ?_
            first | (exact absurd (Option.some.inj hf) (by decide)) | exact hR _ _ _ dL_law_633
        rw [if_neg hx33_13] at hf
        by_cases hx33_14 : (v334 &&& (63 : Int32)) = (14 : Int32)
        · rw [if_pos hx33_14] at hf
          refine zw_tin hC hx33_14 (tgt := 634) dL_law_33 (by decide) (by decide) rfl (by decide) ?_
          refine zw_aload_n hC dL_law_634 rfl 1 rfl ?_
          refine zw_aload_n hC dL_law_635 rfl 0 rfl ?_
          refine zw_iload_n hC dL_law_636 rfl 3 rfl ?_
          refine zw_iconst hC (v := (1 : Int32)) dL_law_637 (by decide) ?_
          refine zw_iadd hC dL_law_638 ?_
          refine zw_xld hC hX hf dL_law_639 (fun v430 hf => ?_)
          refine zw_aload_n hC dL_law_640 rfl 0 rfl ?_
          refine zw_iload_n hC dL_law_641 rfl 3 rfl ?_
          refine zw_iconst hC (v := (2 : Int32)) dL_law_642 (by decide) ?_
          refine zw_iadd hC dL_law_643 ?_
          refine zw_xld hC hX hf dL_law_644 (fun v431 hf => ?_)
          obtain ⟨v432, hc432, hf⟩ := zb1_some hf
          refine zw_cV hC [.int v430, .int v431] [] (st1 := [.int v432]) zm_X9_member (zc_X9_member hc432) zk_0 rfl kw_4_39 dL_law_645 rfl (by decide) (Nat.le_of_ble_eq_true rfl) rfl rfl ?_
          refine zw_aload_n hC dL_law_648 rfl 2 rfl ?_
          refine zw_aload_n hC dL_law_649 rfl 0 rfl ?_
          refine zw_iload_n hC dL_law_650 rfl 3 rfl ?_
          refine zw_iconst hC (v := (1 : Int32)) dL_law_651 (by decide) ?_
          refine zw_iadd hC dL_law_652 ?_
          refine zw_xld hC hX hf dL_law_653 (fun v433 hf => ?_)
          refine zw_aload_n hC dL_law_654 rfl 0 rfl ?_
          refine zw_iload_n hC dL_law_655 rfl 3 rfl ?_
          refine zw_iconst hC (v := (2 : Int32)) dL_law_656 (by decide) ?_
          refine zw_iadd hC dL_law_657 ?_
          refine zw_xld hC hX hf dL_law_658 (fun v434 hf => ?_)
          obtain ⟨v435, hc435, hf⟩ := zb1_some hf
          refine zw_cV hC [.int v433, .int v434] [.int v432] (st1 := [.int v435, .int v432]) zm_X10_member (zc_X10_member hc435) zk_77 rfl kw_7_71 dL_law_659 rfl (by decide) (Nat.le_of_ble_eq_true rfl) rfl rfl ?_
          refine zw_icmp_eq hC 1608 hf dL_law_662 (by decide) (fun hf => ?_) (fun hf => ?_)
          · exact hj1608 M332 hf
          · refine zw_iconst hC (v := (0 : Int32)) dL_law_665 (by decide) ?_
            first | (exact absurd (Option.some.inj hf) (by decide)) | exact hR _ _ _ dL_law_666
        rw [if_neg hx33_14] at hf
        by_cases hx33_15 : (v334 &&& (63 : Int32)) = (15 : Int32)
        · rw [if_pos hx33_15] at hf
          refine zw_tin hC hx33_15 (tgt := 667) dL_law_33 (by decide) (by decide) rfl (by decide) ?_
          refine zw_aload_n hC dL_law_667 rfl 1 rfl ?_
          refine zw_aload_n hC dL_law_668 rfl 0 rfl ?_
          refine zw_iload_n hC dL_law_669 rfl 3 rfl ?_
          refine zw_iconst hC (v := (1 : Int32)) dL_law_670 (by decide) ?_
          refine zw_iadd hC dL_law_671 ?_
          refine zw_xld hC hX hf dL_law_672 (fun v436 hf => ?_)
          refine zw_aload_n hC dL_law_673 rfl 0 rfl ?_
          refine zw_iload_n hC dL_law_674 rfl 3 rfl ?_
          refine zw_iconst hC (v := (2 : Int32)) dL_law_675 (by decide) ?_
          refine zw_iadd hC dL_law_676 ?_
          refine zw_xld hC hX hf dL_law_677 (fun v437 hf => ?_)
          obtain ⟨v438, hc438, hf⟩ := zb1_some hf
          refine zw_cV hC [.int v436, .int v437] [] (st1 := [.int v438]) zm_X9_channel (zc_X9_channel hc438) zk_0 rfl kw_4_46 dL_law_678 rfl (by decide) (Nat.le_of_ble_eq_true rfl) rfl rfl ?_
          refine zw_aload_n hC dL_law_681 rfl 2 rfl ?_
          refine zw_aload_n hC dL_law_682 rfl 0 rfl ?_
          refine zw_iload_n hC dL_law_683 rfl 3 rfl ?_
          refine zw_iconst hC (v := (1 : Int32)) dL_law_684 (by decide) ?_
          refine zw_iadd hC dL_law_685 ?_
          refine zw_xld hC hX hf dL_law_686 (fun v439 hf => ?_)
          refine zw_aload_n hC dL_law_687 rfl 0 rfl ?_
          refine zw_iload_n hC dL_law_688 rfl 3 rfl ?_
          refine zw_iconst hC (v := (2 : Int32)) dL_law_689 (by decide) ?_
          refine zw_iadd hC dL_law_690 ?_
          refine zw_xld hC hX hf dL_law_691 (fun v440 hf => ?_)
          obtain ⟨v441, hc441, hf⟩ := zb1_some hf
          refine zw_cV hC [.int v439, .int v440] [.int v438] (st1 := [.int v441, .int v438]) zm_X10_channel (zc_X10_channel hc441) zk_77 rfl kw_7_75 dL_law_692 rfl (by decide) (Nat.le_of_ble_eq_true rfl) rfl rfl ?_
          refine zw_icmp_eq hC 1608 hf dL_law_695 (by decide) (fun hf => ?_) (fun hf => ?_)
          · exact hj1608 M332 hf
          · refine zw_iconst hC (v := (0 : Int32)) dL_law_698 (by decide) ?_
            first | (exact absurd (Option.some.inj hf) (by decide)) | exact hR _ _ _ dL_law_699
        rw [if_neg hx33_15] at hf
        by_cases hx33_16 : (v334 &&& (63 : Int32)) = (16 : Int32)
        · rw [if_pos hx33_16] at hf
          refine zw_tin hC hx33_16 (tgt := 700) dL_law_33 (by decide) (by decide) rfl (by decide) ?_
          refine zw_aload_n hC dL_law_700 rfl 1 rfl ?_
          refine zw_aload_n hC dL_law_701 rfl 0 rfl ?_
          refine zw_iload_n hC dL_law_702 rfl 3 rfl ?_
          refine zw_iconst hC (v := (1 : Int32)) dL_law_703 (by decide) ?_
          refine zw_iadd hC dL_law_704 ?_
          refine zw_xld hC hX hf dL_law_705 (fun v442 hf => ?_)
          refine zw_aload_n hC dL_law_706 rfl 0 rfl ?_
          refine zw_iload_n hC dL_law_707 rfl 3 rfl ?_
          refine zw_iconst hC (v := (2 : Int32)) dL_law_708 (by decide) ?_
          refine zw_iadd hC dL_law_709 ?_
          refine zw_xld hC hX hf dL_law_710 (fun v443 hf => ?_)
          obtain ⟨v444, hc444, hf⟩ := zb1_some hf
          refine zw_cV hC [.int v442, .int v443] [] (st1 := [.int v444]) zm_X9_line (zc_X9_line hc444) zk_0 rfl kw_4_54 dL_law_711 rfl (by decide) (Nat.le_of_ble_eq_true rfl) rfl rfl ?_
          refine zw_aload_n hC dL_law_714 rfl 2 rfl ?_
          refine zw_aload_n hC dL_law_715 rfl 0 rfl ?_
          refine zw_iload_n hC dL_law_716 rfl 3 rfl ?_
          refine zw_iconst hC (v := (1 : Int32)) dL_law_717 (by decide) ?_
          refine zw_iadd hC dL_law_718 ?_
          refine zw_xld hC hX hf dL_law_719 (fun v445 hf => ?_)
          refine zw_aload_n hC dL_law_720 rfl 0 rfl ?_
          refine zw_iload_n hC dL_law_721 rfl 3 rfl ?_
          refine zw_iconst hC (v := (2 : Int32)) dL_law_722 (by decide) ?_
          refine zw_iadd hC dL_law_723 ?_
          refine zw_xld hC hX hf dL_law_724 (fun v446 hf => ?_)
          obtain ⟨v447, hc447, hf⟩ := zb1_some hf
          refine zw_cV hC [.int v445, .int v446] [.int v444] (st1 := [.int v447, .int v444]) zm_X10_line (zc_X10_line hc447) zk_77 rfl kw_7_79 dL_law_725 rfl (by decide) (Nat.le_of_ble_eq_true rfl) rfl rfl ?_
          refine zw_icmp_eq hC 1608 hf dL_law_728 (by decide) (fun hf => ?_) (fun hf => ?_)
          · exact hj1608 M332 hf
          · refine zw_iconst hC (v := (0 : Int32)) dL_law_731 (by decide) ?_
            first | (exact absurd (Option.some.inj hf) (by decide)) | exact hR _ _ _ dL_law_732
        rw [if_neg hx33_16] at hf
        by_cases hx33_17 : (v334 &&& (63 : Int32)) = (17 : Int32)
        · rw [if_pos hx33_17] at hf
          refine zw_tin hC hx33_17 (tgt := 733) dL_law_33 (by decide) (by decide) rfl (by decide) ?_
          refine zw_aload_n hC dL_law_733 rfl 1 rfl ?_
          refine zw_aload_n hC dL_law_734 rfl 0 rfl ?_
          refine zw_iload_n hC dL_law_735 rfl 3 rfl ?_
          refine zw_iconst hC (v := (1 : Int32)) dL_law_736 (by decide) ?_
          refine zw_iadd hC dL_law_737 ?_
          refine zw_xld hC hX hf dL_law_738 (fun v448 hf => ?_)
          obtain ⟨v449, hc449, hf⟩ := zb1_some hf
          refine zw_cV hC [.int v448] [] (st1 := [.int v449]) zm_X9_ranked (zc_X9_ranked hc449) zk_0 rfl kw_4_58 dL_law_739 rfl (by decide) (Nat.le_of_ble_eq_true rfl) rfl rfl ?_
          refine zw_aload_n hC dL_law_742 rfl 2 rfl ?_
          refine zw_aload_n hC dL_law_743 rfl 0 rfl ?_
          refine zw_iload_n hC dL_law_744 rfl 3 rfl ?_
          refine zw_iconst hC (v := (1 : Int32)) dL_law_745 (by decide) ?_
          refine zw_iadd hC dL_law_746 ?_
          refine zw_xld hC hX hf dL_law_747 (fun v450 hf => ?_)
          obtain ⟨v451, hc451, hf⟩ := zb1_some hf
          refine zw_cV hC [.int v450] [.int v449] (st1 := [.int v451, .int v449]) zm_X10_ranked (zc_X10_ranked hc451) zk_77 rfl kw_7_83 dL_law_748 rfl (by decide) (Nat.le_of_ble_eq_true rfl) rfl rfl ?_
          refine zw_icmp_eq hC 1608 hf dL_law_751 (by decide) (fun hf => ?_) (fun hf => ?_)
          · exact hj1608 M332 hf
          · refine zw_iconst hC (v := (0 : Int32)) dL_law_754 (by decide) ?_
            first | (exact absurd (Option.some.inj hf) (by decide)) | exact hR _ _ _ dL_law_755
        rw [if_neg hx33_17] at hf
        by_cases hx33_18 : (v334 &&& (63 : Int32)) = (18 : Int32)
        · rw [if_pos hx33_18] at hf
          refine zw_tin hC hx33_18 (tgt := 756) dL_law_33 (by decide) (by decide) rfl (by decide) ?_
          refine zw_aload_n hC dL_law_756 rfl 1 rfl ?_
          refine zw_aload_n hC dL_law_757 rfl 0 rfl ?_
          refine zw_iload_n hC dL_law_758 rfl 3 rfl ?_
          refine zw_iconst hC (v := (1 : Int32)) dL_law_759 (by decide) ?_
          refine zw_iadd hC dL_law_760 ?_
          refine zw_xld hC hX hf dL_law_761 (fun v452 hf => ?_)
          refine zw_aload_n hC dL_law_762 rfl 0 rfl ?_
          refine zw_iload_n hC dL_law_763 rfl 3 rfl ?_
          refine zw_iconst hC (v := (2 : Int32)) dL_law_764 (by decide) ?_
          refine zw_iadd hC dL_law_765 ?_
          refine zw_xld hC hX hf dL_law_766 (fun v453 hf => ?_)
          obtain ⟨v454, hc454, hf⟩ := zb1_some hf
          refine zw_cV hC [.int v452, .int v453] [] (st1 := [.int v454]) zm_X9_together (zc_X9_together hc454) zk_0 rfl kw_4_66 dL_law_767 rfl (by decide) (Nat.le_of_ble_eq_true rfl) rfl rfl ?_
          refine zw_aload_n hC dL_law_770 rfl 2 rfl ?_
          refine zw_aload_n hC dL_law_771 rfl 0 rfl ?_
          refine zw_iload_n hC dL_law_772 rfl 3 rfl ?_
          refine zw_iconst hC (v := (1 : Int32)) dL_law_773 (by decide) ?_
          refine zw_iadd hC dL_law_774 ?_
          refine zw_xld hC hX hf dL_law_775 (fun v455 hf => ?_)
          refine zw_aload_n hC dL_law_776 rfl 0 rfl ?_
          refine zw_iload_n hC dL_law_777 rfl 3 rfl ?_
          refine zw_iconst hC (v := (2 : Int32)) dL_law_778 (by decide) ?_
          refine zw_iadd hC dL_law_779 ?_
          refine zw_xld hC hX hf dL_law_780 (fun v456 hf => ?_)
          obtain ⟨v457, hc457, hf⟩ := zb1_some hf
          refine zw_cV hC [.int v455, .int v456] [.int v454] (st1 := [.int v457, .int v454]) zm_X10_together (zc_X10_together hc457) zk_77 rfl kw_7_87 dL_law_781 rfl (by decide) (Nat.le_of_ble_eq_true rfl) rfl rfl ?_
          refine zw_icmp_eq hC 1608 hf dL_law_784 (by decide) (fun hf => ?_) (fun hf => ?_)
          · exact hj1608 M332 hf
          · refine zw_iconst hC (v := (0 : Int32)) dL_law_787 (by decide) ?_
            first | (exact absurd (Option.some.inj hf) (by decide)) | exact hR _ _ _ dL_law_788
        rw [if_neg hx33_18] at hf
        by_cases hx33_19 : (v334 &&& (63 : Int32)) = (19 : Int32)
        · rw [if_pos hx33_19] at hf
          refine zw_tin hC hx33_19 (tgt := 789) dL_law_33 (by decide) (by decide) rfl (by decide) ?_
          refine zw_aload_n hC dL_law_789 rfl 1 rfl ?_
          refine zw_aload_n hC dL_law_790 rfl 0 rfl ?_
          refine zw_iload_n hC dL_law_791 rfl 3 rfl ?_
          refine zw_iconst hC (v := (1 : Int32)) dL_law_792 (by decide) ?_
          refine zw_iadd hC dL_law_793 ?_
          refine zw_xld hC hX hf dL_law_794 (fun v458 hf => ?_)
          obtain ⟨v459, hc459, hf⟩ := zb1_some hf
          refine zw_cV hC [.int v458] [] (st1 := [.int v459]) zm_X9_busiest (zc_X9_busiest hc459) zk_0 rfl kw_4_72 dL_law_795 rfl (by decide) (Nat.le_of_ble_eq_true rfl) rfl rfl ?_
          refine zw_aload_n hC dL_law_798 rfl 2 rfl ?_
          refine zw_aload_n hC dL_law_799 rfl 0 rfl ?_
          refine zw_iload_n hC dL_law_800 rfl 3 rfl ?_
          refine zw_iconst hC (v := (1 : Int32)) dL_law_801 (by decide) ?_
          refine zw_iadd hC dL_law_802 ?_
          refine zw_xld hC hX hf dL_law_803 (fun v460 hf => ?_)
          obtain ⟨v461, hc461, hf⟩ := zb1_some hf
          refine zw_cV hC [.int v460] [.int v459] (st1 := [.int v461, .int v459]) zm_X10_busiest (zc_X10_busiest hc461) zk_77 rfl kw_7_95 dL_law_804 rfl (by decide) (Nat.le_of_ble_eq_true rfl) rfl rfl ?_
          refine zw_icmp_eq hC 1608 hf dL_law_807 (by decide) (fun hf => ?_) (fun hf => ?_)
          · exact hj1608 M332 hf
          · refine zw_iconst hC (v := (0 : Int32)) dL_law_810 (by decide) ?_
            first | (exact absurd (Option.some.inj hf) (by decide)) | exact hR _ _ _ dL_law_811
        rw [if_neg hx33_19] at hf
        by_cases hx33_20 : (v334 &&& (63 : Int32)) = (20 : Int32)
        · rw [if_pos hx33_20] at hf
          refine zw_tin hC hx33_20 (tgt := 812) dL_law_33 (by decide) (by decide) rfl (by decide) ?_
          refine zw_aload_n hC dL_law_812 rfl 1 rfl ?_
          obtain ⟨v462, M463, hcM463, hf⟩ := zb2_some hf
          refine zw_cV hC [] [] (st1 := [.int v462]) zm_X9_classes (zc_X9_classes hcM463) zk_0 rfl kw_4_80 dL_law_813 rfl (by decide) (Nat.le_of_ble_eq_true rfl) rfl rfl ?_
          refine zw_aload_n hC dL_law_816 rfl 2 rfl ?_
          obtain ⟨v464, M465, hcM465, hf⟩ := zb2_some hf
          refine zw_cV hC [] [.int v462] (st1 := [.int v464, .int v462]) zm_X10_classes (zc_X10_classes hcM465) zk_77 rfl kw_7_99 dL_law_817 rfl (by decide) (Nat.le_of_ble_eq_true rfl) rfl rfl ?_
          refine zw_icmp_eq hC 1608 hf dL_law_820 (by decide) (fun hf => ?_) (fun hf => ?_)
          · exact hj1608 M465 hf
          · refine zw_iconst hC (v := (0 : Int32)) dL_law_823 (by decide) ?_
            first | (exact absurd (Option.some.inj hf) (by decide)) | exact hR _ _ _ dL_law_824
        rw [if_neg hx33_20] at hf
        by_cases hx33_21 : (v334 &&& (63 : Int32)) = (21 : Int32)
        · rw [if_pos hx33_21] at hf
          refine zw_tin hC hx33_21 (tgt := 825) dL_law_33 (by decide) (by decide) rfl (by decide) ?_
          refine zw_aload_n hC dL_law_825 rfl 1 rfl ?_
          refine zw_aload_n hC dL_law_826 rfl 0 rfl ?_
          refine zw_iload_n hC dL_law_827 rfl 3 rfl ?_
          refine zw_iconst hC (v := (1 : Int32)) dL_law_828 (by decide) ?_
          refine zw_iadd hC dL_law_829 ?_
          refine zw_xld hC hX hf dL_law_830 (fun v466 hf => ?_)
          obtain ⟨v467, M468, hcM468, hf⟩ := zb2_some hf
          refine zw_cV hC [.int v466] [] (st1 := [.int v467]) zm_X9_classOf (zc_X9_classOf hcM468) zk_0 rfl kw_4_108 dL_law_831 rfl (by decide) (Nat.le_of_ble_eq_true rfl) rfl rfl ?_
          refine zw_aload_n hC dL_law_834 rfl 2 rfl ?_
          refine zw_aload_n hC dL_law_835 rfl 0 rfl ?_
          refine zw_iload_n hC dL_law_836 rfl 3 rfl ?_
          refine zw_iconst hC (v := (1 : Int32)) dL_law_837 (by decide) ?_
          refine zw_iadd hC dL_law_838 ?_
          refine zw_xld hC hX hf dL_law_839 (fun v469 hf => ?_)
          obtain ⟨v470, M471, hcM471, hf⟩ := zb2_some hf
          refine zw_cV hC [.int v469] [.int v467] (st1 := [.int v470, .int v467]) zm_X10_classOf (zc_X10_classOf hcM471) zk_77 rfl kw_7_119 dL_law_840 rfl (by decide) (Nat.le_of_ble_eq_true rfl) rfl rfl ?_
          refine zw_icmp_eq hC 1608 hf dL_law_843 (by decide) (fun hf => ?_) (fun hf => ?_)
          · exact hj1608 M471 hf
          · refine zw_iconst hC (v := (0 : Int32)) dL_law_846 (by decide) ?_
            first | (exact absurd (Option.some.inj hf) (by decide)) | exact hR _ _ _ dL_law_847
        rw [if_neg hx33_21] at hf
        by_cases hx33_22 : (v334 &&& (63 : Int32)) = (22 : Int32)
        · rw [if_pos hx33_22] at hf
          refine zw_tin hC hx33_22 (tgt := 848) dL_law_33 (by decide) (by decide) rfl (by decide) ?_
          refine zw_aload_n hC dL_law_848 rfl 1 rfl ?_
          refine zw_aload_n hC dL_law_849 rfl 0 rfl ?_
          refine zw_iload_n hC dL_law_850 rfl 3 rfl ?_
          refine zw_iconst hC (v := (1 : Int32)) dL_law_851 (by decide) ?_
          refine zw_iadd hC dL_law_852 ?_
          refine zw_xld hC hX hf dL_law_853 (fun v472 hf => ?_)
          obtain ⟨v473, M474, hcM474, hf⟩ := zb2_some hf
          refine zw_cV hC [.int v472] [] (st1 := [.int v473]) zm_X9_classBits (zc_X9_classBits hcM474) zk_0 rfl kw_4_116 dL_law_854 rfl (by decide) (Nat.le_of_ble_eq_true rfl) rfl rfl ?_
          refine zw_aload_n hC dL_law_857 rfl 2 rfl ?_
          refine zw_aload_n hC dL_law_858 rfl 0 rfl ?_
          refine zw_iload_n hC dL_law_859 rfl 3 rfl ?_
          refine zw_iconst hC (v := (1 : Int32)) dL_law_860 (by decide) ?_
          refine zw_iadd hC dL_law_861 ?_
          refine zw_xld hC hX hf dL_law_862 (fun v475 hf => ?_)
          obtain ⟨v476, M477, hcM477, hf⟩ := zb2_some hf
          refine zw_cV hC [.int v475] [.int v473] (st1 := [.int v476, .int v473]) zm_X10_classBits (zc_X10_classBits hcM477) zk_77 rfl kw_7_123 dL_law_863 rfl (by decide) (Nat.le_of_ble_eq_true rfl) rfl rfl ?_
          refine zw_icmp_eq hC 1608 hf dL_law_866 (by decide) (fun hf => ?_) (fun hf => ?_)
          · exact hj1608 M477 hf
          · refine zw_iconst hC (v := (0 : Int32)) dL_law_869 (by decide) ?_
            first | (exact absurd (Option.some.inj hf) (by decide)) | exact hR _ _ _ dL_law_870
        rw [if_neg hx33_22] at hf
        by_cases hx33_23 : (v334 &&& (63 : Int32)) = (23 : Int32)
        · rw [if_pos hx33_23] at hf
          refine zw_tin hC hx33_23 (tgt := 871) dL_law_33 (by decide) (by decide) rfl (by decide) ?_
          refine zw_aload_n hC dL_law_871 rfl 1 rfl ?_
          refine zw_aload_n hC dL_law_872 rfl 0 rfl ?_
          refine zw_iload_n hC dL_law_873 rfl 3 rfl ?_
          refine zw_iconst hC (v := (1 : Int32)) dL_law_874 (by decide) ?_
          refine zw_iadd hC dL_law_875 ?_
          refine zw_xld hC hX hf dL_law_876 (fun v478 hf => ?_)
          obtain ⟨v479, M480, hcM480, hf⟩ := zb2_some hf
          refine zw_cV hC [.int v478] [] (st1 := [.int v479]) zm_X9_splits (zc_X9_splits hcM480) zk_0 rfl kw_4_124 dL_law_877 rfl (by decide) (Nat.le_of_ble_eq_true rfl) rfl rfl ?_
          refine zw_aload_n hC dL_law_880 rfl 2 rfl ?_
          refine zw_aload_n hC dL_law_881 rfl 0 rfl ?_
          refine zw_iload_n hC dL_law_882 rfl 3 rfl ?_
          refine zw_iconst hC (v := (1 : Int32)) dL_law_883 (by decide) ?_
          refine zw_iadd hC dL_law_884 ?_
          refine zw_xld hC hX hf dL_law_885 (fun v481 hf => ?_)
          obtain ⟨v482, M483, hcM483, hf⟩ := zb2_some hf
          refine zw_cV hC [.int v481] [.int v479] (st1 := [.int v482, .int v479]) zm_X10_splits (zc_X10_splits hcM483) zk_77 rfl kw_7_131 dL_law_886 rfl (by decide) (Nat.le_of_ble_eq_true rfl) rfl rfl ?_
          refine zw_icmp_eq hC 1608 hf dL_law_889 (by decide) (fun hf => ?_) (fun hf => ?_)
          · exact hj1608 M483 hf
          · refine zw_iconst hC (v := (0 : Int32)) dL_law_892 (by decide) ?_
            first | (exact absurd (Option.some.inj hf) (by decide)) | exact hR _ _ _ dL_law_893
        rw [if_neg hx33_23] at hf
        by_cases hx33_24 : (v334 &&& (63 : Int32)) = (24 : Int32)
        · rw [if_pos hx33_24] at hf
          refine zw_tin hC hx33_24 (tgt := 894) dL_law_33 (by decide) (by decide) rfl (by decide) ?_
          refine zw_aload_n hC dL_law_894 rfl 1 rfl ?_
          obtain ⟨v484, M485, hcM485, hf⟩ := zb2_some hf
          refine zw_cV hC [] [] (st1 := [.int v484]) zm_X9_feud (zc_X9_feud hcM485) zk_0 rfl kw_4_141 dL_law_895 rfl (by decide) (Nat.le_of_ble_eq_true rfl) rfl rfl ?_
          refine zw_aload_n hC dL_law_898 rfl 2 rfl ?_
          obtain ⟨v486, hc486, hf⟩ := zb1_some hf
          refine zw_cV hC [] [.int v484] (st1 := [.int v486, .int v484]) zm_X10_feud (zc_X10_feud hc486) zk_77 rfl kw_7_142 dL_law_899 rfl (by decide) (Nat.le_of_ble_eq_true rfl) rfl rfl ?_
          refine zw_icmp_eq hC 1608 hf dL_law_902 (by decide) (fun hf => ?_) (fun hf => ?_)
          · exact hj1608 M485 hf
          · refine zw_iconst hC (v := (0 : Int32)) dL_law_905 (by decide) ?_
            first | (exact absurd (Option.some.inj hf) (by decide)) | exact hR _ _ _ dL_law_906
        rw [if_neg hx33_24] at hf
        by_cases hx33_25 : (v334 &&& (63 : Int32)) = (25 : Int32)
        · rw [if_pos hx33_25] at hf
          refine zw_tin hC hx33_25 (tgt := 907) dL_law_33 (by decide) (by decide) rfl (by decide) ?_
          refine zw_aload_n hC dL_law_907 rfl 1 rfl ?_
          obtain ⟨v487, M488, hcM488, hf⟩ := zb2_some hf
          refine zw_cV hC [] [] (st1 := [.int v487]) zm_X9_settles (zc_X9_settles hcM488) zk_0 rfl kw_4_154 dL_law_908 rfl (by decide) (Nat.le_of_ble_eq_true rfl) rfl rfl ?_
          refine zw_aload_n hC dL_law_911 rfl 2 rfl ?_
          obtain ⟨v489, M490, hcM490, hf⟩ := zb2_some hf
          refine zw_cV hC [] [.int v487] (st1 := [.int v489, .int v487]) zm_X10_settles (zc_X10_settles hcM490) zk_77 rfl kw_7_146 dL_law_912 rfl (by decide) (Nat.le_of_ble_eq_true rfl) rfl rfl ?_
          refine zw_icmp_eq hC 1608 hf dL_law_915 (by decide) (fun hf => ?_) (fun hf => ?_)
          · exact hj1608 M490 hf
          · refine zw_iconst hC (v := (0 : Int32)) dL_law_918 (by decide) ?_
            first | (exact absurd (Option.some.inj hf) (by decide)) | exact hR _ _ _ dL_law_919
        rw [if_neg hx33_25] at hf
        by_cases hx33_26 : (v334 &&& (63 : Int32)) = (26 : Int32)
        · rw [if_pos hx33_26] at hf
          refine zw_tin hC hx33_26 (tgt := 920) dL_law_33 (by decide) (by decide) rfl (by decide) ?_
          refine zw_aload_n hC dL_law_920 rfl 1 rfl ?_
          refine zw_aload_n hC dL_law_921 rfl 0 rfl ?_
          refine zw_iload_n hC dL_law_922 rfl 3 rfl ?_
          refine zw_iconst hC (v := (1 : Int32)) dL_law_923 (by decide) ?_
          refine zw_iadd hC dL_law_924 ?_
          refine zw_xld hC hX hf dL_law_925 (fun v491 hf => ?_)
          obtain ⟨v492, M493, hcM493, hf⟩ := zb2_some hf
          refine zw_cV hC [.int v491] [] (st1 := [.int v492]) zm_X9_lead (zc_X9_lead hcM493) zk_0 rfl kw_4_162 dL_law_926 rfl (by decide) (Nat.le_of_ble_eq_true rfl) rfl rfl ?_
          refine zw_aload_n hC dL_law_929 rfl 2 rfl ?_
          refine zw_aload_n hC dL_law_930 rfl 0 rfl ?_
          refine zw_iload_n hC dL_law_931 rfl 3 rfl ?_
          refine zw_iconst hC (v := (1 : Int32)) dL_law_932 (by decide) ?_
          refine zw_iadd hC dL_law_933 ?_
          refine zw_xld hC hX hf dL_law_934 (fun v494 hf => ?_)
          obtain ⟨v495, M496, hcM496, hf⟩ := zb2_some hf
          refine zw_cV hC [.int v494] [.int v492] (st1 := [.int v495, .int v492]) zm_X10_lead (zc_X10_lead hcM496) zk_77 rfl kw_7_150 dL_law_935 rfl (by decide) (Nat.le_of_ble_eq_true rfl) rfl rfl ?_
          refine zw_icmp_eq hC 1608 hf dL_law_938 (by decide) (fun hf => ?_) (fun hf => ?_)
          · exact hj1608 M496 hf
          · refine zw_iconst hC (v := (0 : Int32)) dL_law_941 (by decide) ?_
            first | (exact absurd (Option.some.inj hf) (by decide)) | exact hR _ _ _ dL_law_942
        rw [if_neg hx33_26] at hf
        by_cases hx33_27 : (v334 &&& (63 : Int32)) = (27 : Int32)
        · rw [if_pos hx33_27] at hf
          refine zw_tin hC hx33_27 (tgt := 943) dL_law_33 (by decide) (by decide) rfl (by decide) ?_
          refine zw_aload_n hC dL_law_943 rfl 1 rfl ?_
          refine zw_aload_n hC dL_law_944 rfl 0 rfl ?_
          refine zw_iload_n hC dL_law_945 rfl 3 rfl ?_
          refine zw_iconst hC (v := (1 : Int32)) dL_law_946 (by decide) ?_
          refine zw_iadd hC dL_law_947 ?_
          refine zw_xld hC hX hf dL_law_948 (fun v497 hf => ?_)
          obtain ⟨v498, hc498, hf⟩ := zb1_some hf
          refine zw_cV hC [.int v497] [] (st1 := [.int v498]) zm_X9_costFor (zc_X9_costFor hc498) zk_0 rfl kw_4_166 dL_law_949 rfl (by decide) (Nat.le_of_ble_eq_true rfl) rfl rfl ?_
          refine zw_aload_n hC dL_law_952 rfl 2 rfl ?_
          refine zw_aload_n hC dL_law_953 rfl 0 rfl ?_
          refine zw_iload_n hC dL_law_954 rfl 3 rfl ?_
          refine zw_iconst hC (v := (1 : Int32)) dL_law_955 (by decide) ?_
          refine zw_iadd hC dL_law_956 ?_
          refine zw_xld hC hX hf dL_law_957 (fun v499 hf => ?_)
          obtain ⟨v500, hc500, hf⟩ := zb1_some hf
          refine zw_cV hC [.int v499] [.int v498] (st1 := [.int v500, .int v498]) zm_X10_costFor (zc_X10_costFor hc500) zk_77 rfl kw_7_154 dL_law_958 rfl (by decide) (Nat.le_of_ble_eq_true rfl) rfl rfl ?_
          refine zw_icmp_eq hC 1608 hf dL_law_961 (by decide) (fun hf => ?_) (fun hf => ?_)
          · exact hj1608 M332 hf
          · refine zw_iconst hC (v := (0 : Int32)) dL_law_964 (by decide) ?_
            first | (exact absurd (Option.some.inj hf) (by decide)) | exact hR _ _ _ dL_law_965
        rw [if_neg hx33_27] at hf
        by_cases hx33_28 : (v334 &&& (63 : Int32)) = (28 : Int32)
        · rw [if_pos hx33_28] at hf
          refine zw_tin hC hx33_28 (tgt := 966) dL_law_33 (by decide) (by decide) rfl (by decide) ?_
          refine zw_aload_n hC dL_law_966 rfl 1 rfl ?_
          refine zw_aload_n hC dL_law_967 rfl 0 rfl ?_
          refine zw_iload_n hC dL_law_968 rfl 3 rfl ?_
          refine zw_iconst hC (v := (1 : Int32)) dL_law_969 (by decide) ?_
          refine zw_iadd hC dL_law_970 ?_
          refine zw_xld hC hX hf dL_law_971 (fun v501 hf => ?_)
          refine zw_aload_n hC dL_law_972 rfl 0 rfl ?_
          refine zw_iload_n hC dL_law_973 rfl 3 rfl ?_
          refine zw_iconst hC (v := (2 : Int32)) dL_law_974 (by decide) ?_
          refine zw_iadd hC dL_law_975 ?_
          refine zw_xld hC hX hf dL_law_976 (fun v502 hf => ?_)
          obtain ⟨v503, hc503, hf⟩ := zb1_some hf
          refine zw_cV hC [.int v501, .int v502] [] (st1 := [.int v503]) zm_X9_reachFor (zc_X9_reachFor hc503) zk_0 rfl kw_4_170 dL_law_977 rfl (by decide) (Nat.le_of_ble_eq_true rfl) rfl rfl ?_
          refine zw_aload_n hC dL_law_980 rfl 2 rfl ?_
          refine zw_aload_n hC dL_law_981 rfl 0 rfl ?_
          refine zw_iload_n hC dL_law_982 rfl 3 rfl ?_
          refine zw_iconst hC (v := (1 : Int32)) dL_law_983 (by decide) ?_
          refine zw_iadd hC dL_law_984 ?_
          refine zw_xld hC hX hf dL_law_985 (fun v504 hf => ?_)
          refine zw_aload_n hC dL_law_986 rfl 0 rfl ?_
          refine zw_iload_n hC dL_law_987 rfl 3 rfl ?_
          refine zw_iconst hC (v := (2 : Int32)) dL_law_988 (by decide) ?_
          refine zw_iadd hC dL_law_989 ?_
          refine zw_xld hC hX hf dL_law_990 (fun v505 hf => ?_)
          obtain ⟨v506, hc506, hf⟩ := zb1_some hf
          refine zw_cV hC [.int v504, .int v505] [.int v503] (st1 := [.int v506, .int v503]) zm_X10_reachFor (zc_X10_reachFor hc506) zk_77 rfl kw_7_158 dL_law_991 rfl (by decide) (Nat.le_of_ble_eq_true rfl) rfl rfl ?_
          refine zw_icmp_eq hC 1608 hf dL_law_994 (by decide) (fun hf => ?_) (fun hf => ?_)
          · exact hj1608 M332 hf
          · refine zw_iconst hC (v := (0 : Int32)) dL_law_997 (by decide) ?_
            first | (exact absurd (Option.some.inj hf) (by decide)) | exact hR _ _ _ dL_law_998
        rw [if_neg hx33_28] at hf
        by_cases hx33_29 : (v334 &&& (63 : Int32)) = (29 : Int32)
        · rw [if_pos hx33_29] at hf
          refine zw_tin hC hx33_29 (tgt := 999) dL_law_33 (by decide) (by decide) rfl (by decide) ?_
          refine zw_aload_n hC dL_law_999 rfl 1 rfl ?_
          refine zw_aload_n hC dL_law_1000 rfl 0 rfl ?_
          refine zw_iload_n hC dL_law_1001 rfl 3 rfl ?_
          refine zw_iconst hC (v := (1 : Int32)) dL_law_1002 (by decide) ?_
          refine zw_iadd hC dL_law_1003 ?_
          refine zw_xld hC hX hf dL_law_1004 (fun v507 hf => ?_)
          refine zw_aload_n hC dL_law_1005 rfl 0 rfl ?_
          refine zw_iload_n hC dL_law_1006 rfl 3 rfl ?_
          refine zw_iconst hC (v := (2 : Int32)) dL_law_1007 (by decide) ?_
          refine zw_iadd hC dL_law_1008 ?_
          refine zw_xld hC hX hf dL_law_1009 (fun v508 hf => ?_)
          obtain ⟨v509, hc509, hf⟩ := zb1_some hf
          refine zw_cV hC [.int v507, .int v508] [] (st1 := [.int v509]) zm_X9_cheapest (zc_X9_cheapest hc509) zk_0 rfl kw_4_174 dL_law_1010 rfl (by decide) (Nat.le_of_ble_eq_true rfl) rfl rfl ?_
          refine zw_aload_n hC dL_law_1013 rfl 2 rfl ?_
          refine zw_aload_n hC dL_law_1014 rfl 0 rfl ?_
          refine zw_iload_n hC dL_law_1015 rfl 3 rfl ?_
          refine zw_iconst hC (v := (1 : Int32)) dL_law_1016 (by decide) ?_
          refine zw_iadd hC dL_law_1017 ?_
          refine zw_xld hC hX hf dL_law_1018 (fun v510 hf => ?_)
          refine zw_aload_n hC dL_law_1019 rfl 0 rfl ?_
          refine zw_iload_n hC dL_law_1020 rfl 3 rfl ?_
          refine zw_iconst hC (v := (2 : Int32)) dL_law_1021 (by decide) ?_
          refine zw_iadd hC dL_law_1022 ?_
          refine zw_xld hC hX hf dL_law_1023 (fun v511 hf => ?_)
          obtain ⟨v512, hc512, hf⟩ := zb1_some hf
          refine zw_cV hC [.int v510, .int v511] [.int v509] (st1 := [.int v512, .int v509]) zm_X10_cheapest (zc_X10_cheapest hc512) zk_77 rfl kw_7_162 dL_law_1024 rfl (by decide) (Nat.le_of_ble_eq_true rfl) rfl rfl ?_
          refine zw_icmp_eq hC 1608 hf dL_law_1027 (by decide) (fun hf => ?_) (fun hf => ?_)
          · exact hj1608 M332 hf
          · refine zw_iconst hC (v := (0 : Int32)) dL_law_1030 (by decide) ?_
            first | (exact absurd (Option.some.inj hf) (by decide)) | exact hR _ _ _ dL_law_1031
        rw [if_neg hx33_29] at hf
        by_cases hx33_30 : (v334 &&& (63 : Int32)) = (30 : Int32)
        · rw [if_pos hx33_30] at hf
          refine zw_tin hC hx33_30 (tgt := 1032) dL_law_33 (by decide) (by decide) rfl (by decide) ?_
          refine zw_aload_n hC dL_law_1032 rfl 1 rfl ?_
          refine zw_aload_n hC dL_law_1033 rfl 0 rfl ?_
          refine zw_iload_n hC dL_law_1034 rfl 3 rfl ?_
          refine zw_iconst hC (v := (1 : Int32)) dL_law_1035 (by decide) ?_
          refine zw_iadd hC dL_law_1036 ?_
          refine zw_xld hC hX hf dL_law_1037 (fun v513 hf => ?_)
          obtain ⟨v514, hc514, hf⟩ := zb1_some hf
          refine zw_cV hC [.int v513] [] (st1 := [.int v514]) zm_X9_reachedBy (zc_X9_reachedBy hc514) zk_0 rfl kw_4_183 dL_law_1038 rfl (by decide) (Nat.le_of_ble_eq_true rfl) rfl rfl ?_
          refine zw_aload_n hC dL_law_1041 rfl 2 rfl ?_
          refine zw_aload_n hC dL_law_1042 rfl 0 rfl ?_
          refine zw_iload_n hC dL_law_1043 rfl 3 rfl ?_
          refine zw_iconst hC (v := (1 : Int32)) dL_law_1044 (by decide) ?_
          refine zw_iadd hC dL_law_1045 ?_
          refine zw_xld hC hX hf dL_law_1046 (fun v515 hf => ?_)
          obtain ⟨v516, hc516, hf⟩ := zb1_some hf
          refine zw_cV hC [.int v515] [.int v514] (st1 := [.int v516, .int v514]) zm_X10_reachedBy (zc_X10_reachedBy hc516) zk_77 rfl kw_7_170 dL_law_1047 rfl (by decide) (Nat.le_of_ble_eq_true rfl) rfl rfl ?_
          refine zw_icmp_eq hC 1608 hf dL_law_1050 (by decide) (fun hf => ?_) (fun hf => ?_)
          · exact hj1608 M332 hf
          · refine zw_iconst hC (v := (0 : Int32)) dL_law_1053 (by decide) ?_
            first | (exact absurd (Option.some.inj hf) (by decide)) | exact hR _ _ _ dL_law_1054
        rw [if_neg hx33_30] at hf
        by_cases hx33_31 : (v334 &&& (63 : Int32)) = (31 : Int32)
        · rw [if_pos hx33_31] at hf
          refine zw_tin hC hx33_31 (tgt := 1055) dL_law_33 (by decide) (by decide) rfl (by decide) ?_
          refine zw_aload_n hC dL_law_1055 rfl 1 rfl ?_
          refine zw_aload_n hC dL_law_1056 rfl 0 rfl ?_
          refine zw_iload_n hC dL_law_1057 rfl 3 rfl ?_
          refine zw_iconst hC (v := (1 : Int32)) dL_law_1058 (by decide) ?_
          refine zw_iadd hC dL_law_1059 ?_
          refine zw_xld hC hX hf dL_law_1060 (fun v517 hf => ?_)
          obtain ⟨v518, M519, hcM519, hf⟩ := zb2_some hf
          refine zw_cV hC [.int v517] [] (st1 := [.int v518]) zm_X9_fundOf (zc_X9_fundOf hcM519) zk_0 rfl kw_4_187 dL_law_1061 rfl (by decide) (Nat.le_of_ble_eq_true rfl) rfl rfl ?_
          refine zw_aload_n hC dL_law_1064 rfl 2 rfl ?_
          refine zw_aload_n hC dL_law_1065 rfl 0 rfl ?_
          refine zw_iload_n hC dL_law_1066 rfl 3 rfl ?_
          refine zw_iconst hC (v := (1 : Int32)) dL_law_1067 (by decide) ?_
          refine zw_iadd hC dL_law_1068 ?_
          refine zw_xld hC hX hf dL_law_1069 (fun v520 hf => ?_)
          obtain ⟨v521, M522, hcM522, hf⟩ := zb2_some hf
          refine zw_cV hC [.int v520] [.int v518] (st1 := [.int v521, .int v518]) zm_X10_fundOf (zc_X10_fundOf hcM522) zk_77 rfl kw_7_174 dL_law_1070 rfl (by decide) (Nat.le_of_ble_eq_true rfl) rfl rfl ?_
          refine zw_icmp_eq hC 1608 hf dL_law_1073 (by decide) (fun hf => ?_) (fun hf => ?_)
          · exact hj1608 M522 hf
          · refine zw_iconst hC (v := (0 : Int32)) dL_law_1076 (by decide) ?_
            first | (exact absurd (Option.some.inj hf) (by decide)) | exact hR _ _ _ dL_law_1077
        rw [if_neg hx33_31] at hf
        by_cases hx33_32 : (v334 &&& (63 : Int32)) = (32 : Int32)
        · rw [if_pos hx33_32] at hf
          refine zw_tin hC hx33_32 (tgt := 1078) dL_law_33 (by decide) (by decide) rfl (by decide) ?_
          refine zw_aload_n hC dL_law_1078 rfl 1 rfl ?_
          refine zw_aload_n hC dL_law_1079 rfl 0 rfl ?_
          refine zw_iload_n hC dL_law_1080 rfl 3 rfl ?_
          refine zw_iconst hC (v := (1 : Int32)) dL_law_1081 (by decide) ?_
          refine zw_iadd hC dL_law_1082 ?_
          refine zw_xld hC hX hf dL_law_1083 (fun v523 hf => ?_)
          obtain ⟨v524, M525, hcM525, hf⟩ := zb2_some hf
          refine zw_cV hC [.int v523] [] (st1 := [.int v524]) zm_X9_pot (zc_X9_pot hcM525) zk_0 rfl kw_5_11 dL_law_1084 rfl (by decide) (Nat.le_of_ble_eq_true rfl) rfl rfl ?_
          refine zw_aload_n hC dL_law_1087 rfl 2 rfl ?_
          refine zw_aload_n hC dL_law_1088 rfl 0 rfl ?_
          refine zw_iload_n hC dL_law_1089 rfl 3 rfl ?_
          refine zw_iconst hC (v := (1 : Int32)) dL_law_1090 (by decide) ?_
          refine zw_iadd hC dL_law_1091 ?_
          refine zw_xld hC hX hf dL_law_1092 (fun v526 hf => ?_)
          obtain ⟨v527, M528, hcM528, hf⟩ := zb2_some hf
          refine zw_cV hC [.int v526] [.int v524] (st1 := [.int v527, .int v524]) zm_X10_pot (zc_X10_pot hcM528) zk_77 rfl kw_7_218 dL_law_1093 rfl (by decide) (Nat.le_of_ble_eq_true rfl) rfl rfl ?_
          refine zw_icmp_eq hC 1608 hf dL_law_1096 (by decide) (fun hf => ?_) (fun hf => ?_)
          · exact hj1608 M528 hf
          · refine zw_iconst hC (v := (0 : Int32)) dL_law_1099 (by decide) ?_
            first | (exact absurd (Option.some.inj hf) (by decide)) | exact hR _ _ _ dL_law_1100
        rw [if_neg hx33_32] at hf
        by_cases hx33_33 : (v334 &&& (63 : Int32)) = (33 : Int32)
        · rw [if_pos hx33_33] at hf
          refine zw_tin hC hx33_33 (tgt := 1101) dL_law_33 (by decide) (by decide) rfl (by decide) ?_
          refine zw_aload_n hC dL_law_1101 rfl 1 rfl ?_
          refine zw_aload_n hC dL_law_1102 rfl 0 rfl ?_
          refine zw_iload_n hC dL_law_1103 rfl 3 rfl ?_
          refine zw_iconst hC (v := (1 : Int32)) dL_law_1104 (by decide) ?_
          refine zw_iadd hC dL_law_1105 ?_
          refine zw_xld hC hX hf dL_law_1106 (fun v529 hf => ?_)
          obtain ⟨v530, M531, hcM531, hf⟩ := zb2_some hf
          refine zw_cV hC [.int v529] [] (st1 := [.int v530]) zm_X9_paid (zc_X9_paid hcM531) zk_0 rfl kw_5_15 dL_law_1107 rfl (by decide) (Nat.le_of_ble_eq_true rfl) rfl rfl ?_
          refine zw_aload_n hC dL_law_1110 rfl 2 rfl ?_
          refine zw_aload_n hC dL_law_1111 rfl 0 rfl ?_
          refine zw_iload_n hC dL_law_1112 rfl 3 rfl ?_
          refine zw_iconst hC (v := (1 : Int32)) dL_law_1113 (by decide) ?_
          refine zw_iadd hC dL_law_1114 ?_
          refine zw_xld hC hX hf dL_law_1115 (fun v532 hf => ?_)
          obtain ⟨v533, M534, hcM534, hf⟩ := zb2_some hf
          refine zw_cV hC [.int v532] [.int v530] (st1 := [.int v533, .int v530]) zm_X10_paid (zc_X10_paid hcM534) zk_77 rfl kw_7_222 dL_law_1116 rfl (by decide) (Nat.le_of_ble_eq_true rfl) rfl rfl ?_
          refine zw_icmp_eq hC 1608 hf dL_law_1119 (by decide) (fun hf => ?_) (fun hf => ?_)
          · exact hj1608 M534 hf
          · refine zw_iconst hC (v := (0 : Int32)) dL_law_1122 (by decide) ?_
            first | (exact absurd (Option.some.inj hf) (by decide)) | exact hR _ _ _ dL_law_1123
        rw [if_neg hx33_33] at hf
        by_cases hx33_34 : (v334 &&& (63 : Int32)) = (34 : Int32)
        · rw [if_pos hx33_34] at hf
          refine zw_tin hC hx33_34 (tgt := 1124) dL_law_33 (by decide) (by decide) rfl (by decide) ?_
          refine zw_aload_n hC dL_law_1124 rfl 1 rfl ?_
          refine zw_aload_n hC dL_law_1125 rfl 0 rfl ?_
          refine zw_iload_n hC dL_law_1126 rfl 3 rfl ?_
          refine zw_iconst hC (v := (1 : Int32)) dL_law_1127 (by decide) ?_
          refine zw_iadd hC dL_law_1128 ?_
          refine zw_xld hC hX hf dL_law_1129 (fun v535 hf => ?_)
          refine zw_aload_n hC dL_law_1130 rfl 0 rfl ?_
          refine zw_iload_n hC dL_law_1131 rfl 3 rfl ?_
          refine zw_iconst hC (v := (2 : Int32)) dL_law_1132 (by decide) ?_
          refine zw_iadd hC dL_law_1133 ?_
          refine zw_xld hC hX hf dL_law_1134 (fun v536 hf => ?_)
          obtain ⟨v537, M538, hcM538, hf⟩ := zb2_some hf
          refine zw_cV hC [.int v535, .int v536] [] (st1 := [.int v537]) zm_X9_had (zc_X9_had hcM538) zk_0 rfl kw_5_19 dL_law_1135 rfl (by decide) (Nat.le_of_ble_eq_true rfl) rfl rfl ?_
          refine zw_aload_n hC dL_law_1138 rfl 2 rfl ?_
          refine zw_aload_n hC dL_law_1139 rfl 0 rfl ?_
          refine zw_iload_n hC dL_law_1140 rfl 3 rfl ?_
          refine zw_iconst hC (v := (1 : Int32)) dL_law_1141 (by decide) ?_
          refine zw_iadd hC dL_law_1142 ?_
          refine zw_xld hC hX hf dL_law_1143 (fun v539 hf => ?_)
          refine zw_aload_n hC dL_law_1144 rfl 0 rfl ?_
          refine zw_iload_n hC dL_law_1145 rfl 3 rfl ?_
          refine zw_iconst hC (v := (2 : Int32)) dL_law_1146 (by decide) ?_
          refine zw_iadd hC dL_law_1147 ?_
          refine zw_xld hC hX hf dL_law_1148 (fun v540 hf => ?_)
          obtain ⟨v541, M542, hcM542, hf⟩ := zb2_some hf
          refine zw_cV hC [.int v539, .int v540] [.int v537] (st1 := [.int v541, .int v537]) zm_X10_had (zc_X10_had hcM542) zk_77 rfl kw_7_226 dL_law_1149 rfl (by decide) (Nat.le_of_ble_eq_true rfl) rfl rfl ?_
          refine zw_icmp_eq hC 1608 hf dL_law_1152 (by decide) (fun hf => ?_) (fun hf => ?_)
          · exact hj1608 M542 hf
          · refine zw_iconst hC (v := (0 : Int32)) dL_law_1155 (by decide) ?_
            first | (exact absurd (Option.some.inj hf) (by decide)) | exact hR _ _ _ dL_law_1156
        rw [if_neg hx33_34] at hf
        by_cases hx33_35 : (v334 &&& (63 : Int32)) = (35 : Int32)
        · rw [if_pos hx33_35] at hf
          refine zw_tin hC hx33_35 (tgt := 1157) dL_law_33 (by decide) (by decide) rfl (by decide) ?_
          refine zw_aload_n hC dL_law_1157 rfl 1 rfl ?_
          obtain ⟨v543, M544, hcM544, hf⟩ := zb2_some hf
          refine zw_cV hC [] [] (st1 := [.int v543]) zm_X9_share (zc_X9_share hcM544) zk_0 rfl kw_5_23 dL_law_1158 rfl (by decide) (Nat.le_of_ble_eq_true rfl) rfl rfl ?_
          refine zw_aload_n hC dL_law_1161 rfl 2 rfl ?_
          obtain ⟨v545, M546, hcM546, hf⟩ := zb2_some hf
          refine zw_cV hC [] [.int v543] (st1 := [.int v545, .int v543]) zm_X10_share (zc_X10_share hcM546) zk_77 rfl kw_7_230 dL_law_1162 rfl (by decide) (Nat.le_of_ble_eq_true rfl) rfl rfl ?_
          refine zw_icmp_eq hC 1608 hf dL_law_1165 (by decide) (fun hf => ?_) (fun hf => ?_)
          · exact hj1608 M546 hf
          · refine zw_iconst hC (v := (0 : Int32)) dL_law_1168 (by decide) ?_
            first | (exact absurd (Option.some.inj hf) (by decide)) | exact hR _ _ _ dL_law_1169
        rw [if_neg hx33_35] at hf
        by_cases hx33_36 : (v334 &&& (63 : Int32)) = (36 : Int32)
        · rw [if_pos hx33_36] at hf
          refine zw_tin hC hx33_36 (tgt := 1170) dL_law_33 (by decide) (by decide) rfl (by decide) ?_
          refine zw_aload_n hC dL_law_1170 rfl 1 rfl ?_
          refine zw_aload_n hC dL_law_1171 rfl 0 rfl ?_
          refine zw_iload_n hC dL_law_1172 rfl 3 rfl ?_
          refine zw_iconst hC (v := (1 : Int32)) dL_law_1173 (by decide) ?_
          refine zw_iadd hC dL_law_1174 ?_
          refine zw_xld hC hX hf dL_law_1175 (fun v547 hf => ?_)
          obtain ⟨v548, M549, hcM549, hf⟩ := zb2_some hf
          refine zw_cV hC [.int v547] [] (st1 := [.int v548]) zm_X9_votes (zc_X9_votes hcM549) zk_0 rfl kw_5_27 dL_law_1176 rfl (by decide) (Nat.le_of_ble_eq_true rfl) rfl rfl ?_
          refine zw_aload_n hC dL_law_1179 rfl 2 rfl ?_
          refine zw_aload_n hC dL_law_1180 rfl 0 rfl ?_
          refine zw_iload_n hC dL_law_1181 rfl 3 rfl ?_
          refine zw_iconst hC (v := (1 : Int32)) dL_law_1182 (by decide) ?_
          refine zw_iadd hC dL_law_1183 ?_
          refine zw_xld hC hX hf dL_law_1184 (fun v550 hf => ?_)
          obtain ⟨v551, M552, hcM552, hf⟩ := zb2_some hf
          refine zw_cV hC [.int v550] [.int v548] (st1 := [.int v551, .int v548]) zm_X10_votes (zc_X10_votes hcM552) zk_77 rfl kw_7_235 dL_law_1185 rfl (by decide) (Nat.le_of_ble_eq_true rfl) rfl rfl ?_
          refine zw_icmp_eq hC 1608 hf dL_law_1188 (by decide) (fun hf => ?_) (fun hf => ?_)
          · exact hj1608 M552 hf
          · refine zw_iconst hC (v := (0 : Int32)) dL_law_1191 (by decide) ?_
            first | (exact absurd (Option.some.inj hf) (by decide)) | exact hR _ _ _ dL_law_1192
        rw [if_neg hx33_36] at hf
        by_cases hx33_37 : (v334 &&& (63 : Int32)) = (37 : Int32)
        · rw [if_pos hx33_37] at hf
          refine zw_tin hC hx33_37 (tgt := 1193) dL_law_33 (by decide) (by decide) rfl (by decide) ?_
          refine zw_aload_n hC dL_law_1193 rfl 1 rfl ?_
          refine zw_aload_n hC dL_law_1194 rfl 0 rfl ?_
          refine zw_iload_n hC dL_law_1195 rfl 3 rfl ?_
          refine zw_iconst hC (v := (1 : Int32)) dL_law_1196 (by decide) ?_
          refine zw_iadd hC dL_law_1197 ?_
          refine zw_xld hC hX hf dL_law_1198 (fun v553 hf => ?_)
          refine zw_aload_n hC dL_law_1199 rfl 0 rfl ?_
          refine zw_iload_n hC dL_law_1200 rfl 3 rfl ?_
          refine zw_iconst hC (v := (2 : Int32)) dL_law_1201 (by decide) ?_
          refine zw_iadd hC dL_law_1202 ?_
          refine zw_xld hC hX hf dL_law_1203 (fun v554 hf => ?_)
          obtain ⟨v555, M556, hcM556, hf⟩ := zb2_some hf
          refine zw_cV hC [.int v553, .int v554] [] (st1 := [.int v555]) zm_X9_wereOut (zc_X9_wereOut hcM556) zk_0 rfl kw_5_34 dL_law_1204 rfl (by decide) (Nat.le_of_ble_eq_true rfl) rfl rfl ?_
          refine zw_aload_n hC dL_law_1207 rfl 2 rfl ?_
          refine zw_aload_n hC dL_law_1208 rfl 0 rfl ?_
          refine zw_iload_n hC dL_law_1209 rfl 3 rfl ?_
          refine zw_iconst hC (v := (1 : Int32)) dL_law_1210 (by decide) ?_
          refine zw_iadd hC dL_law_1211 ?_
          refine zw_xld hC hX hf dL_law_1212 (fun v557 hf => ?_)
          refine zw_aload_n hC dL_law_1213 rfl 0 rfl ?_
          refine zw_iload_n hC dL_law_1214 rfl 3 rfl ?_
          refine zw_iconst hC (v := (2 : Int32)) dL_law_1215 (by decide) ?_
          refine zw_iadd hC dL_law_1216 ?_
          refine zw_xld hC hX hf dL_law_1217 (fun v558 hf => ?_)
          obtain ⟨v559, M560, hcM560, hf⟩ := zb2_some hf
          refine zw_cV hC [.int v557, .int v558] [.int v555] (st1 := [.int v559, .int v555]) zm_X10_wereOut (zc_X10_wereOut hcM560) zk_77 rfl kw_7_239 dL_law_1218 rfl (by decide) (Nat.le_of_ble_eq_true rfl) rfl rfl ?_
          refine zw_icmp_eq hC 1608 hf dL_law_1221 (by decide) (fun hf => ?_) (fun hf => ?_)
          · exact hj1608 M560 hf
          · refine zw_iconst hC (v := (0 : Int32)) dL_law_1224 (by decide) ?_
            first | (exact absurd (Option.some.inj hf) (by decide)) | exact hR _ _ _ dL_law_1225
        rw [if_neg hx33_37] at hf
        by_cases hx33_38 : (v334 &&& (63 : Int32)) = (38 : Int32)
        · rw [if_pos hx33_38] at hf
          refine zw_tin hC hx33_38 (tgt := 1226) dL_law_33 (by decide) (by decide) rfl (by decide) ?_
          refine zw_aload_n hC dL_law_1226 rfl 1 rfl ?_
          refine zw_aload_n hC dL_law_1227 rfl 0 rfl ?_
          refine zw_iload_n hC dL_law_1228 rfl 3 rfl ?_
          refine zw_iconst hC (v := (1 : Int32)) dL_law_1229 (by decide) ?_
          refine zw_iadd hC dL_law_1230 ?_
          refine zw_xld hC hX hf dL_law_1231 (fun v561 hf => ?_)
          refine zw_aload_n hC dL_law_1232 rfl 0 rfl ?_
          refine zw_iload_n hC dL_law_1233 rfl 3 rfl ?_
          refine zw_iconst hC (v := (2 : Int32)) dL_law_1234 (by decide) ?_
          refine zw_iadd hC dL_law_1235 ?_
          refine zw_xld hC hX hf dL_law_1236 (fun v562 hf => ?_)
          obtain ⟨v563, M564, hcM564, hf⟩ := zb2_some hf
          refine zw_cV hC [.int v561, .int v562] [] (st1 := [.int v563]) zm_X9_wereFund (zc_X9_wereFund hcM564) zk_0 rfl kw_5_42 dL_law_1237 rfl (by decide) (Nat.le_of_ble_eq_true rfl) rfl rfl ?_
          refine zw_aload_n hC dL_law_1240 rfl 2 rfl ?_
          refine zw_aload_n hC dL_law_1241 rfl 0 rfl ?_
          refine zw_iload_n hC dL_law_1242 rfl 3 rfl ?_
          refine zw_iconst hC (v := (1 : Int32)) dL_law_1243 (by decide) ?_
          refine zw_iadd hC dL_law_1244 ?_
          refine zw_xld hC hX hf dL_law_1245 (fun v565 hf => ?_)
          refine zw_aload_n hC dL_law_1246 rfl 0 rfl ?_
          refine zw_iload_n hC dL_law_1247 rfl 3 rfl ?_
          refine zw_iconst hC (v := (2 : Int32)) dL_law_1248 (by decide) ?_
          refine zw_iadd hC dL_law_1249 ?_
          refine zw_xld hC hX hf dL_law_1250 (fun v566 hf => ?_)
          obtain ⟨v567, M568, hcM568, hf⟩ := zb2_some hf
          refine zw_cV hC [.int v565, .int v566] [.int v563] (st1 := [.int v567, .int v563]) zm_X10_wereFund (zc_X10_wereFund hcM568) zk_77 rfl kw_8_7 dL_law_1251 rfl (by decide) (Nat.le_of_ble_eq_true rfl) rfl rfl ?_
          refine zw_icmp_eq hC 1608 hf dL_law_1254 (by decide) (fun hf => ?_) (fun hf => ?_)
          · exact hj1608 M568 hf
          · refine zw_iconst hC (v := (0 : Int32)) dL_law_1257 (by decide) ?_
            first | (exact absurd (Option.some.inj hf) (by decide)) | exact hR _ _ _ dL_law_1258
        rw [if_neg hx33_38] at hf
        by_cases hx33_39 : (v334 &&& (63 : Int32)) = (39 : Int32)
        · rw [if_pos hx33_39] at hf
          refine zw_tin hC hx33_39 (tgt := 1259) dL_law_33 (by decide) (by decide) rfl (by decide) ?_
          refine zw_aload_n hC dL_law_1259 rfl 1 rfl ?_
          refine zw_aload_n hC dL_law_1260 rfl 0 rfl ?_
          refine zw_iload_n hC dL_law_1261 rfl 3 rfl ?_
          refine zw_iconst hC (v := (1 : Int32)) dL_law_1262 (by decide) ?_
          refine zw_iadd hC dL_law_1263 ?_
          refine zw_xld hC hX hf dL_law_1264 (fun v569 hf => ?_)
          refine zw_aload_n hC dL_law_1265 rfl 0 rfl ?_
          refine zw_iload_n hC dL_law_1266 rfl 3 rfl ?_
          refine zw_iconst hC (v := (2 : Int32)) dL_law_1267 (by decide) ?_
          refine zw_iadd hC dL_law_1268 ?_
          refine zw_xld hC hX hf dL_law_1269 (fun v570 hf => ?_)
          obtain ⟨v571, M572, hcM572, hf⟩ := zb2_some hf
          refine zw_cV hC [.int v569, .int v570] [] (st1 := [.int v571]) zm_X9_wereRule (zc_X9_wereRule hcM572) zk_0 rfl kw_5_46 dL_law_1270 rfl (by decide) (Nat.le_of_ble_eq_true rfl) rfl rfl ?_
          refine zw_aload_n hC dL_law_1273 rfl 2 rfl ?_
          refine zw_aload_n hC dL_law_1274 rfl 0 rfl ?_
          refine zw_iload_n hC dL_law_1275 rfl 3 rfl ?_
          refine zw_iconst hC (v := (1 : Int32)) dL_law_1276 (by decide) ?_
          refine zw_iadd hC dL_law_1277 ?_
          refine zw_xld hC hX hf dL_law_1278 (fun v573 hf => ?_)
          refine zw_aload_n hC dL_law_1279 rfl 0 rfl ?_
          refine zw_iload_n hC dL_law_1280 rfl 3 rfl ?_
          refine zw_iconst hC (v := (2 : Int32)) dL_law_1281 (by decide) ?_
          refine zw_iadd hC dL_law_1282 ?_
          refine zw_xld hC hX hf dL_law_1283 (fun v574 hf => ?_)
          obtain ⟨v575, M576, hcM576, hf⟩ := zb2_some hf
          refine zw_cV hC [.int v573, .int v574] [.int v571] (st1 := [.int v575, .int v571]) zm_X10_wereRule (zc_X10_wereRule hcM576) zk_77 rfl kw_8_11 dL_law_1284 rfl (by decide) (Nat.le_of_ble_eq_true rfl) rfl rfl ?_
          refine zw_icmp_eq hC 1608 hf dL_law_1287 (by decide) (fun hf => ?_) (fun hf => ?_)
          · exact hj1608 M576 hf
          · refine zw_iconst hC (v := (0 : Int32)) dL_law_1290 (by decide) ?_
            first | (exact absurd (Option.some.inj hf) (by decide)) | exact hR _ _ _ dL_law_1291
        rw [if_neg hx33_39] at hf
        by_cases hx33_40 : (v334 &&& (63 : Int32)) = (40 : Int32)
        · rw [if_pos hx33_40] at hf
          refine zw_tin hC hx33_40 (tgt := 1292) dL_law_33 (by decide) (by decide) rfl (by decide) ?_
          refine zw_aload_n hC dL_law_1292 rfl 1 rfl ?_
          refine zw_aload_n hC dL_law_1293 rfl 0 rfl ?_
          refine zw_iload_n hC dL_law_1294 rfl 3 rfl ?_
          refine zw_iconst hC (v := (1 : Int32)) dL_law_1295 (by decide) ?_
          refine zw_iadd hC dL_law_1296 ?_
          refine zw_xld hC hX hf dL_law_1297 (fun v577 hf => ?_)
          obtain ⟨v578, M579, hcM579, hf⟩ := zb2_some hf
          refine zw_cV hC [.int v577] [] (st1 := [.int v578]) zm_X9_ruleFor (zc_X9_ruleFor hcM579) zk_0 rfl kw_5_54 dL_law_1298 rfl (by decide) (Nat.le_of_ble_eq_true rfl) rfl rfl ?_
          refine zw_aload_n hC dL_law_1301 rfl 2 rfl ?_
          refine zw_aload_n hC dL_law_1302 rfl 0 rfl ?_
          refine zw_iload_n hC dL_law_1303 rfl 3 rfl ?_
          refine zw_iconst hC (v := (1 : Int32)) dL_law_1304 (by decide) ?_
          refine zw_iadd hC dL_law_1305 ?_
          refine zw_xld hC hX hf dL_law_1306 (fun v580 hf => ?_)
          obtain ⟨v581, M582, hcM582, hf⟩ := zb2_some hf
          refine zw_cV hC [.int v580] [.int v578] (st1 := [.int v581, .int v578]) zm_X10_ruleFor (zc_X10_ruleFor hcM582) zk_77 rfl kw_8_19 dL_law_1307 rfl (by decide) (Nat.le_of_ble_eq_true rfl) rfl rfl ?_
          refine zw_icmp_eq hC 1608 hf dL_law_1310 (by decide) (fun hf => ?_) (fun hf => ?_)
          · exact hj1608 M582 hf
          · refine zw_iconst hC (v := (0 : Int32)) dL_law_1313 (by decide) ?_
            first | (exact absurd (Option.some.inj hf) (by decide)) | exact hR _ _ _ dL_law_1314
        rw [if_neg hx33_40] at hf
        by_cases hx33_41 : (v334 &&& (63 : Int32)) = (41 : Int32)
        · rw [if_pos hx33_41] at hf
          refine zw_tin hC hx33_41 (tgt := 1315) dL_law_33 (by decide) (by decide) rfl (by decide) ?_
          refine zw_aload_n hC dL_law_1315 rfl 1 rfl ?_
          refine zw_aload_n hC dL_law_1316 rfl 0 rfl ?_
          refine zw_iload_n hC dL_law_1317 rfl 3 rfl ?_
          refine zw_iconst hC (v := (1 : Int32)) dL_law_1318 (by decide) ?_
          refine zw_iadd hC dL_law_1319 ?_
          refine zw_xld hC hX hf dL_law_1320 (fun v583 hf => ?_)
          obtain ⟨v584, M585, hcM585, hf⟩ := zb2_some hf
          refine zw_cV hC [.int v583] [] (st1 := [.int v584]) zm_X9_leaver (zc_X9_leaver hcM585) zk_0 rfl kw_5_58 dL_law_1321 rfl (by decide) (Nat.le_of_ble_eq_true rfl) rfl rfl ?_
          refine zw_aload_n hC dL_law_1324 rfl 2 rfl ?_
          refine zw_aload_n hC dL_law_1325 rfl 0 rfl ?_
          refine zw_iload_n hC dL_law_1326 rfl 3 rfl ?_
          refine zw_iconst hC (v := (1 : Int32)) dL_law_1327 (by decide) ?_
          refine zw_iadd hC dL_law_1328 ?_
          refine zw_xld hC hX hf dL_law_1329 (fun v586 hf => ?_)
          obtain ⟨v587, M588, hcM588, hf⟩ := zb2_some hf
          refine zw_cV hC [.int v586] [.int v584] (st1 := [.int v587, .int v584]) zm_X10_leaver (zc_X10_leaver hcM588) zk_77 rfl kw_8_23 dL_law_1330 rfl (by decide) (Nat.le_of_ble_eq_true rfl) rfl rfl ?_
          refine zw_icmp_eq hC 1608 hf dL_law_1333 (by decide) (fun hf => ?_) (fun hf => ?_)
          · exact hj1608 M588 hf
          · refine zw_iconst hC (v := (0 : Int32)) dL_law_1336 (by decide) ?_
            first | (exact absurd (Option.some.inj hf) (by decide)) | exact hR _ _ _ dL_law_1337
        rw [if_neg hx33_41] at hf
        by_cases hx33_42 : (v334 &&& (63 : Int32)) = (42 : Int32)
        · rw [if_pos hx33_42] at hf
          refine zw_tin hC hx33_42 (tgt := 1338) dL_law_33 (by decide) (by decide) rfl (by decide) ?_
          refine zw_aload_n hC dL_law_1338 rfl 1 rfl ?_
          refine zw_aload_n hC dL_law_1339 rfl 0 rfl ?_
          refine zw_iload_n hC dL_law_1340 rfl 3 rfl ?_
          refine zw_iconst hC (v := (1 : Int32)) dL_law_1341 (by decide) ?_
          refine zw_iadd hC dL_law_1342 ?_
          refine zw_xld hC hX hf dL_law_1343 (fun v589 hf => ?_)
          obtain ⟨v590, M591, hcM591, hf⟩ := zb2_some hf
          refine zw_cV hC [.int v589] [] (st1 := [.int v590]) zm_X9_alone (zc_X9_alone hcM591) zk_0 rfl kw_5_62 dL_law_1344 rfl (by decide) (Nat.le_of_ble_eq_true rfl) rfl rfl ?_
          refine zw_aload_n hC dL_law_1347 rfl 2 rfl ?_
          refine zw_aload_n hC dL_law_1348 rfl 0 rfl ?_
          refine zw_iload_n hC dL_law_1349 rfl 3 rfl ?_
          refine zw_iconst hC (v := (1 : Int32)) dL_law_1350 (by decide) ?_
          refine zw_iadd hC dL_law_1351 ?_
          refine zw_xld hC hX hf dL_law_1352 (fun v592 hf => ?_)
          obtain ⟨v593, M594, hcM594, hf⟩ := zb2_some hf
          refine zw_cV hC [.int v592] [.int v590] (st1 := [.int v593, .int v590]) zm_X10_alone (zc_X10_alone hcM594) zk_77 rfl kw_8_27 dL_law_1353 rfl (by decide) (Nat.le_of_ble_eq_true rfl) rfl rfl ?_
          refine zw_icmp_eq hC 1608 hf dL_law_1356 (by decide) (fun hf => ?_) (fun hf => ?_)
          · exact hj1608 M594 hf
          · refine zw_iconst hC (v := (0 : Int32)) dL_law_1359 (by decide) ?_
            first | (exact absurd (Option.some.inj hf) (by decide)) | exact hR _ _ _ dL_law_1360
        rw [if_neg hx33_42] at hf
        by_cases hx33_43 : (v334 &&& (63 : Int32)) = (43 : Int32)
        · rw [if_pos hx33_43] at hf
          refine zw_tin hC hx33_43 (tgt := 1361) dL_law_33 (by decide) (by decide) rfl (by decide) ?_
          refine zw_aload_n hC dL_law_1361 rfl 1 rfl ?_
          obtain ⟨v595, M596, hcM596, hf⟩ := zb2_some hf
          refine zw_cV hC [] [] (st1 := [.int v595]) zm_X9_needs (zc_X9_needs hcM596) zk_0 rfl kw_5_70 dL_law_1362 rfl (by decide) (Nat.le_of_ble_eq_true rfl) rfl rfl ?_
          refine zw_aload_n hC dL_law_1365 rfl 2 rfl ?_
          obtain ⟨v597, M598, hcM598, hf⟩ := zb2_some hf
          refine zw_cV hC [] [.int v595] (st1 := [.int v597, .int v595]) zm_X10_needs (zc_X10_needs hcM598) zk_77 rfl kw_8_35 dL_law_1366 rfl (by decide) (Nat.le_of_ble_eq_true rfl) rfl rfl ?_
          refine zw_icmp_eq hC 1608 hf dL_law_1369 (by decide) (fun hf => ?_) (fun hf => ?_)
          · exact hj1608 M598 hf
          · refine zw_iconst hC (v := (0 : Int32)) dL_law_1372 (by decide) ?_
            first | (exact absurd (Option.some.inj hf) (by decide)) | exact hR _ _ _ dL_law_1373
        rw [if_neg hx33_43] at hf
        by_cases hx33_44 : (v334 &&& (63 : Int32)) = (44 : Int32)
        · rw [if_pos hx33_44] at hf
          refine zw_tin hC hx33_44 (tgt := 1374) dL_law_33 (by decide) (by decide) rfl (by decide) ?_
          refine zw_aload_n hC dL_law_1374 rfl 1 rfl ?_
          refine zw_aload_n hC dL_law_1375 rfl 0 rfl ?_
          refine zw_iload_n hC dL_law_1376 rfl 3 rfl ?_
          refine zw_iconst hC (v := (1 : Int32)) dL_law_1377 (by decide) ?_
          refine zw_iadd hC dL_law_1378 ?_
          refine zw_xld hC hX hf dL_law_1379 (fun v599 hf => ?_)
          refine zw_aload_n hC dL_law_1380 rfl 0 rfl ?_
          refine zw_iload_n hC dL_law_1381 rfl 3 rfl ?_
          refine zw_iconst hC (v := (2 : Int32)) dL_law_1382 (by decide) ?_
          refine zw_iadd hC dL_law_1383 ?_
          refine zw_xld hC hX hf dL_law_1384 (fun v600 hf => ?_)
          refine zw_aload_n hC dL_law_1385 rfl 0 rfl ?_
          refine zw_iload_n hC dL_law_1386 rfl 3 rfl ?_
          refine zw_iconst hC (v := (3 : Int32)) dL_law_1387 (by decide) ?_
          refine zw_iadd hC dL_law_1388 ?_
          refine zw_xld hC hX hf dL_law_1389 (fun v601 hf => ?_)
          obtain ⟨v602, M603, hcM603, hf⟩ := zb2_some hf
          refine zw_cV hC [.int v599, .int v600, .int v601] [] (st1 := [.int v602]) zm_X9_rests (zc_X9_rests hcM603) zk_0 rfl kw_5_103 dL_law_1390 rfl (by decide) (Nat.le_of_ble_eq_true rfl) rfl rfl ?_
          refine zw_aload_n hC dL_law_1393 rfl 2 rfl ?_
          refine zw_aload_n hC dL_law_1394 rfl 0 rfl ?_
          refine zw_iload_n hC dL_law_1395 rfl 3 rfl ?_
          refine zw_iconst hC (v := (1 : Int32)) dL_law_1396 (by decide) ?_
          refine zw_iadd hC dL_law_1397 ?_
          refine zw_xld hC hX hf dL_law_1398 (fun v604 hf => ?_)
          refine zw_aload_n hC dL_law_1399 rfl 0 rfl ?_
          refine zw_iload_n hC dL_law_1400 rfl 3 rfl ?_
          refine zw_iconst hC (v := (2 : Int32)) dL_law_1401 (by decide) ?_
          refine zw_iadd hC dL_law_1402 ?_
          refine zw_xld hC hX hf dL_law_1403 (fun v605 hf => ?_)
          refine zw_aload_n hC dL_law_1404 rfl 0 rfl ?_
          refine zw_iload_n hC dL_law_1405 rfl 3 rfl ?_
          refine zw_iconst hC (v := (3 : Int32)) dL_law_1406 (by decide) ?_
          refine zw_iadd hC dL_law_1407 ?_
          refine zw_xld hC hX hf dL_law_1408 (fun v606 hf => ?_)
          obtain ⟨v607, M608, hcM608, hf⟩ := zb2_some hf
          refine zw_cV hC [.int v604, .int v605, .int v606] [.int v602] (st1 := [.int v607, .int v602]) zm_X10_rests (zc_X10_rests hcM608) zk_77 rfl kw_8_39 dL_law_1409 rfl (by decide) (Nat.le_of_ble_eq_true rfl) rfl rfl ?_
          refine zw_icmp_eq hC 1608 hf dL_law_1412 (by decide) (fun hf => ?_) (fun hf => ?_)
          · exact hj1608 M608 hf
          · refine zw_iconst hC (v := (0 : Int32)) dL_law_1415 (by decide) ?_
            first | (exact absurd (Option.some.inj hf) (by decide)) | exact hR _ _ _ dL_law_1416
        rw [if_neg hx33_44] at hf
        by_cases hx33_45 : (v334 &&& (63 : Int32)) = (45 : Int32)
        · rw [if_pos hx33_45] at hf
          refine zw_tin hC hx33_45 (tgt := 1417) dL_law_33 (by decide) (by decide) rfl (by decide) ?_
          refine zw_aload_n hC dL_law_1417 rfl 1 rfl ?_
          refine zw_aload_n hC dL_law_1418 rfl 0 rfl ?_
          refine zw_iload_n hC dL_law_1419 rfl 3 rfl ?_
          refine zw_iconst hC (v := (1 : Int32)) dL_law_1420 (by decide) ?_
          refine zw_iadd hC dL_law_1421 ?_
          refine zw_xld hC hX hf dL_law_1422 (fun v609 hf => ?_)
          refine zw_aload_n hC dL_law_1423 rfl 0 rfl ?_
          refine zw_iload_n hC dL_law_1424 rfl 3 rfl ?_
          refine zw_iconst hC (v := (2 : Int32)) dL_law_1425 (by decide) ?_
          refine zw_iadd hC dL_law_1426 ?_
          refine zw_xld hC hX hf dL_law_1427 (fun v610 hf => ?_)
          obtain ⟨v611, hc611, hf⟩ := zb1_some hf
          refine zw_cV hC [.int v609, .int v610] [] (st1 := [.int v611]) zm_X9_sample (zc_X9_sample hc611) zk_0 rfl kw_5_127 dL_law_1428 rfl (by decide) (Nat.le_of_ble_eq_true rfl) rfl rfl ?_
          refine zw_aload_n hC dL_law_1431 rfl 2 rfl ?_
          refine zw_aload_n hC dL_law_1432 rfl 0 rfl ?_
          refine zw_iload_n hC dL_law_1433 rfl 3 rfl ?_
          refine zw_iconst hC (v := (1 : Int32)) dL_law_1434 (by decide) ?_
          refine zw_iadd hC dL_law_1435 ?_
          refine zw_xld hC hX hf dL_law_1436 (fun v612 hf => ?_)
          refine zw_aload_n hC dL_law_1437 rfl 0 rfl ?_
          refine zw_iload_n hC dL_law_1438 rfl 3 rfl ?_
          refine zw_iconst hC (v := (2 : Int32)) dL_law_1439 (by decide) ?_
          refine zw_iadd hC dL_law_1440 ?_
          refine zw_xld hC hX hf dL_law_1441 (fun v613 hf => ?_)
          obtain ⟨v614, hc614, hf⟩ := zb1_some hf
          refine zw_cV hC [.int v612, .int v613] [.int v611] (st1 := [.int v614, .int v611]) zm_X10_sample (zc_X10_sample hc614) zk_77 rfl kw_8_43 dL_law_1442 rfl (by decide) (Nat.le_of_ble_eq_true rfl) rfl rfl ?_
          refine zw_icmp_eq hC 1608 hf dL_law_1445 (by decide) (fun hf => ?_) (fun hf => ?_)
          · exact hj1608 M332 hf
          · refine zw_iconst hC (v := (0 : Int32)) dL_law_1448 (by decide) ?_
            first | (exact absurd (Option.some.inj hf) (by decide)) | exact hR _ _ _ dL_law_1449
        rw [if_neg hx33_45] at hf
        by_cases hx33_46 : (v334 &&& (63 : Int32)) = (46 : Int32)
        · rw [if_pos hx33_46] at hf
          refine zw_tin hC hx33_46 (tgt := 1450) dL_law_33 (by decide) (by decide) rfl (by decide) ?_
          refine zw_aload_n hC dL_law_1450 rfl 1 rfl ?_
          refine zw_aload_n hC dL_law_1451 rfl 0 rfl ?_
          refine zw_iload_n hC dL_law_1452 rfl 3 rfl ?_
          refine zw_iconst hC (v := (1 : Int32)) dL_law_1453 (by decide) ?_
          refine zw_iadd hC dL_law_1454 ?_
          refine zw_xld hC hX hf dL_law_1455 (fun v615 hf => ?_)
          obtain ⟨v616, hc616, hf⟩ := zb1_some hf
          refine zw_cV hC [.int v615] [] (st1 := [.int v616]) zm_X9_estimate (zc_X9_estimate hc616) zk_0 rfl kw_5_136 dL_law_1456 rfl (by decide) (Nat.le_of_ble_eq_true rfl) rfl rfl ?_
          refine zw_aload_n hC dL_law_1459 rfl 2 rfl ?_
          refine zw_aload_n hC dL_law_1460 rfl 0 rfl ?_
          refine zw_iload_n hC dL_law_1461 rfl 3 rfl ?_
          refine zw_iconst hC (v := (1 : Int32)) dL_law_1462 (by decide) ?_
          refine zw_iadd hC dL_law_1463 ?_
          refine zw_xld hC hX hf dL_law_1464 (fun v617 hf => ?_)
          obtain ⟨v618, hc618, hf⟩ := zb1_some hf
          refine zw_cV hC [.int v617] [.int v616] (st1 := [.int v618, .int v616]) zm_X10_estimate (zc_X10_estimate hc618) zk_77 rfl kw_8_48 dL_law_1465 rfl (by decide) (Nat.le_of_ble_eq_true rfl) rfl rfl ?_
          refine zw_icmp_eq hC 1608 hf dL_law_1468 (by decide) (fun hf => ?_) (fun hf => ?_)
          · exact hj1608 M332 hf
          · refine zw_iconst hC (v := (0 : Int32)) dL_law_1471 (by decide) ?_
            first | (exact absurd (Option.some.inj hf) (by decide)) | exact hR _ _ _ dL_law_1472
        rw [if_neg hx33_46] at hf
        by_cases hx33_47 : (v334 &&& (63 : Int32)) = (47 : Int32)
        · rw [if_pos hx33_47] at hf
          refine zw_tin hC hx33_47 (tgt := 1473) dL_law_33 (by decide) (by decide) rfl (by decide) ?_
          refine zw_aload_n hC dL_law_1473 rfl 1 rfl ?_
          refine zw_aload_n hC dL_law_1474 rfl 0 rfl ?_
          refine zw_iload_n hC dL_law_1475 rfl 3 rfl ?_
          refine zw_iconst hC (v := (1 : Int32)) dL_law_1476 (by decide) ?_
          refine zw_iadd hC dL_law_1477 ?_
          refine zw_xld hC hX hf dL_law_1478 (fun v619 hf => ?_)
          refine zw_aload_n hC dL_law_1479 rfl 0 rfl ?_
          refine zw_iload_n hC dL_law_1480 rfl 3 rfl ?_
          refine zw_iconst hC (v := (2 : Int32)) dL_law_1481 (by decide) ?_
          refine zw_iadd hC dL_law_1482 ?_
          refine zw_xld hC hX hf dL_law_1483 (fun v620 hf => ?_)
          obtain ⟨v621, hc621, hf⟩ := zb1_some hf
          refine zw_cV hC [.int v619, .int v620] [] (st1 := [.int v621]) zm_X9_nearest (zc_X9_nearest hc621) zk_0 rfl kw_5_144 dL_law_1484 rfl (by decide) (Nat.le_of_ble_eq_true rfl) rfl rfl ?_
          refine zw_aload_n hC dL_law_1487 rfl 2 rfl ?_
          refine zw_aload_n hC dL_law_1488 rfl 0 rfl ?_
          refine zw_iload_n hC dL_law_1489 rfl 3 rfl ?_
          refine zw_iconst hC (v := (1 : Int32)) dL_law_1490 (by decide) ?_
          refine zw_iadd hC dL_law_1491 ?_
          refine zw_xld hC hX hf dL_law_1492 (fun v622 hf => ?_)
          refine zw_aload_n hC dL_law_1493 rfl 0 rfl ?_
          refine zw_iload_n hC dL_law_1494 rfl 3 rfl ?_
          refine zw_iconst hC (v := (2 : Int32)) dL_law_1495 (by decide) ?_
          refine zw_iadd hC dL_law_1496 ?_
          refine zw_xld hC hX hf dL_law_1497 (fun v623 hf => ?_)
          obtain ⟨v624, hc624, hf⟩ := zb1_some hf
          refine zw_cV hC [.int v622, .int v623] [.int v621] (st1 := [.int v624, .int v621]) zm_X10_nearest (zc_X10_nearest hc624) zk_77 rfl kw_8_56 dL_law_1498 rfl (by decide) (Nat.le_of_ble_eq_true rfl) rfl rfl ?_
          refine zw_icmp_eq hC 1608 hf dL_law_1501 (by decide) (fun hf => ?_) (fun hf => ?_)
          · exact hj1608 M332 hf
          · refine zw_iconst hC (v := (0 : Int32)) dL_law_1504 (by decide) ?_
            first | (exact absurd (Option.some.inj hf) (by decide)) | exact hR _ _ _ dL_law_1505
        rw [if_neg hx33_47] at hf
        by_cases hx33_48 : (v334 &&& (63 : Int32)) = (48 : Int32)
        · rw [if_pos hx33_48] at hf
          refine zw_tin hC hx33_48 (tgt := 1506) dL_law_33 (by decide) (by decide) rfl (by decide) ?_
          refine zw_aload_n hC dL_law_1506 rfl 1 rfl ?_
          refine zw_aload_n hC dL_law_1507 rfl 0 rfl ?_
          refine zw_iload_n hC dL_law_1508 rfl 3 rfl ?_
          refine zw_iconst hC (v := (1 : Int32)) dL_law_1509 (by decide) ?_
          refine zw_iadd hC dL_law_1510 ?_
          refine zw_xld hC hX hf dL_law_1511 (fun v625 hf => ?_)
          refine zw_aload_n hC dL_law_1512 rfl 0 rfl ?_
          refine zw_iload_n hC dL_law_1513 rfl 3 rfl ?_
          refine zw_iconst hC (v := (2 : Int32)) dL_law_1514 (by decide) ?_
          refine zw_iadd hC dL_law_1515 ?_
          refine zw_xld hC hX hf dL_law_1516 (fun v626 hf => ?_)
          obtain ⟨v627, hc627, hf⟩ := zb1_some hf
          refine zw_cV hC [.int v625, .int v626] [] (st1 := [.int v627]) zm_X9_within (zc_X9_within hc627) zk_0 rfl kw_5_151 dL_law_1517 rfl (by decide) (Nat.le_of_ble_eq_true rfl) rfl rfl ?_
          refine zw_aload_n hC dL_law_1520 rfl 2 rfl ?_
          refine zw_aload_n hC dL_law_1521 rfl 0 rfl ?_
          refine zw_iload_n hC dL_law_1522 rfl 3 rfl ?_
          refine zw_iconst hC (v := (1 : Int32)) dL_law_1523 (by decide) ?_
          refine zw_iadd hC dL_law_1524 ?_
          refine zw_xld hC hX hf dL_law_1525 (fun v628 hf => ?_)
          refine zw_aload_n hC dL_law_1526 rfl 0 rfl ?_
          refine zw_iload_n hC dL_law_1527 rfl 3 rfl ?_
          refine zw_iconst hC (v := (2 : Int32)) dL_law_1528 (by decide) ?_
          refine zw_iadd hC dL_law_1529 ?_
          refine zw_xld hC hX hf dL_law_1530 (fun v629 hf => ?_)
          obtain ⟨v630, hc630, hf⟩ := zb1_some hf
          refine zw_cV hC [.int v628, .int v629] [.int v627] (st1 := [.int v630, .int v627]) zm_X10_within (zc_X10_within hc630) zk_77 rfl kw_8_64 dL_law_1531 rfl (by decide) (Nat.le_of_ble_eq_true rfl) rfl rfl ?_
          refine zw_icmp_eq hC 1608 hf dL_law_1534 (by decide) (fun hf => ?_) (fun hf => ?_)
          · exact hj1608 M332 hf
          · refine zw_iconst hC (v := (0 : Int32)) dL_law_1537 (by decide) ?_
            first | (exact absurd (Option.some.inj hf) (by decide)) | exact hR _ _ _ dL_law_1538
        rw [if_neg hx33_48] at hf
        by_cases hx33_49 : (v334 &&& (63 : Int32)) = (49 : Int32)
        · rw [if_pos hx33_49] at hf
          refine zw_tin hC hx33_49 (tgt := 1539) dL_law_33 (by decide) (by decide) rfl (by decide) ?_
          refine zw_aload_n hC dL_law_1539 rfl 1 rfl ?_
          refine zw_aload_n hC dL_law_1540 rfl 0 rfl ?_
          refine zw_iload_n hC dL_law_1541 rfl 3 rfl ?_
          refine zw_iconst hC (v := (1 : Int32)) dL_law_1542 (by decide) ?_
          refine zw_iadd hC dL_law_1543 ?_
          refine zw_xld hC hX hf dL_law_1544 (fun v631 hf => ?_)
          obtain ⟨v632, M633, hcM633, hf⟩ := zb2_some hf
          refine zw_cV hC [.int v631] [] (st1 := [.int v632]) zm_X9_spell (zc_X9_spell hcM633) zk_0 rfl kw_5_155 dL_law_1545 rfl (by decide) (Nat.le_of_ble_eq_true rfl) rfl rfl ?_
          refine zw_aload_n hC dL_law_1548 rfl 2 rfl ?_
          refine zw_aload_n hC dL_law_1549 rfl 0 rfl ?_
          refine zw_iload_n hC dL_law_1550 rfl 3 rfl ?_
          refine zw_iconst hC (v := (1 : Int32)) dL_law_1551 (by decide) ?_
          refine zw_iadd hC dL_law_1552 ?_
          refine zw_xld hC hX hf dL_law_1553 (fun v634 hf => ?_)
          obtain ⟨v635, M636, hcM636, hf⟩ := zb2_some hf
          refine zw_cV hC [.int v634] [.int v632] (st1 := [.int v635, .int v632]) zm_X10_spell (zc_X10_spell hcM636) zk_77 rfl kw_8_68 dL_law_1554 rfl (by decide) (Nat.le_of_ble_eq_true rfl) rfl rfl ?_
          refine zw_icmp_eq hC 1608 hf dL_law_1557 (by decide) (fun hf => ?_) (fun hf => ?_)
          · exact hj1608 M636 hf
          · refine zw_iconst hC (v := (0 : Int32)) dL_law_1560 (by decide) ?_
            first | (exact absurd (Option.some.inj hf) (by decide)) | exact hR _ _ _ dL_law_1561
        rw [if_neg hx33_49] at hf
        by_cases hx33_50 : (v334 &&& (63 : Int32)) = (50 : Int32)
        · rw [if_pos hx33_50] at hf
          refine zw_tin hC hx33_50 (tgt := 1562) dL_law_33 (by decide) (by decide) rfl (by decide) ?_
          refine zw_aload_n hC dL_law_1562 rfl 1 rfl ?_
          refine zw_aload_n hC dL_law_1563 rfl 0 rfl ?_
          refine zw_iload_n hC dL_law_1564 rfl 3 rfl ?_
          refine zw_iconst hC (v := (1 : Int32)) dL_law_1565 (by decide) ?_
          refine zw_iadd hC dL_law_1566 ?_
          refine zw_xld hC hX hf dL_law_1567 (fun v637 hf => ?_)
          obtain ⟨v638, M639, hcM639, hf⟩ := zb2_some hf
          refine zw_cV hC [.int v637] [] (st1 := [.int v638]) zm_X9_report (zc_X9_report hcM639) zk_0 rfl kw_5_203 dL_law_1568 rfl (by decide) (Nat.le_of_ble_eq_true rfl) rfl rfl ?_
          refine zw_aload_n hC dL_law_1571 rfl 2 rfl ?_
          refine zw_aload_n hC dL_law_1572 rfl 0 rfl ?_
          refine zw_iload_n hC dL_law_1573 rfl 3 rfl ?_
          refine zw_iconst hC (v := (1 : Int32)) dL_law_1574 (by decide) ?_
          refine zw_iadd hC dL_law_1575 ?_
          refine zw_xld hC hX hf dL_law_1576 (fun v640 hf => ?_)
          obtain ⟨v641, M642, hcM642, hf⟩ := zb2_some hf
          refine zw_cV hC [.int v640] [.int v638] (st1 := [.int v641, .int v638]) zm_X10_report (zc_X10_report hcM642) zk_77 rfl kw_8_100 dL_law_1577 rfl (by decide) (Nat.le_of_ble_eq_true rfl) rfl rfl ?_
          refine zw_icmp_eq hC 1608 hf dL_law_1580 (by decide) (fun hf => ?_) (fun hf => ?_)
          · exact hj1608 M642 hf
          · refine zw_iconst hC (v := (0 : Int32)) dL_law_1583 (by decide) ?_
            first | (exact absurd (Option.some.inj hf) (by decide)) | exact hR _ _ _ dL_law_1584
        rw [if_neg hx33_50] at hf
        by_cases hx33_51 : (v334 &&& (63 : Int32)) = (51 : Int32)
        · rw [if_pos hx33_51] at hf
          refine zw_tin hC hx33_51 (tgt := 1585) dL_law_33 (by decide) (by decide) rfl (by decide) ?_
          refine zw_aload_n hC dL_law_1585 rfl 1 rfl ?_
          refine zw_aload_n hC dL_law_1586 rfl 0 rfl ?_
          refine zw_iload_n hC dL_law_1587 rfl 3 rfl ?_
          refine zw_iconst hC (v := (1 : Int32)) dL_law_1588 (by decide) ?_
          refine zw_iadd hC dL_law_1589 ?_
          refine zw_xld hC hX hf dL_law_1590 (fun v643 hf => ?_)
          obtain ⟨v644, hc644, hf⟩ := zb1_some hf
          refine zw_cV hC [.int v643] [] (st1 := [.int v644]) zm_X9_count (zc_X9_count hc644) zk_0 rfl kw_5_209 dL_law_1591 rfl (by decide) (Nat.le_of_ble_eq_true rfl) rfl rfl ?_
          refine zw_aload_n hC dL_law_1594 rfl 2 rfl ?_
          refine zw_aload_n hC dL_law_1595 rfl 0 rfl ?_
          refine zw_iload_n hC dL_law_1596 rfl 3 rfl ?_
          refine zw_iconst hC (v := (1 : Int32)) dL_law_1597 (by decide) ?_
          refine zw_iadd hC dL_law_1598 ?_
          refine zw_xld hC hX hf dL_law_1599 (fun v645 hf => ?_)
          obtain ⟨v646, hc646, hf⟩ := zb1_some hf
          refine zw_cV hC [.int v645] [.int v644] (st1 := [.int v646, .int v644]) zm_X10_count (zc_X10_count hc646) zk_77 rfl kw_8_106 dL_law_1600 rfl (by decide) (Nat.le_of_ble_eq_true rfl) rfl rfl ?_
          refine zw_icmp_eq hC 1608 hf dL_law_1603 (by decide) (fun hf => ?_) (fun hf => ?_)
          · exact hj1608 M332 hf
          · refine zw_iconst hC (v := (0 : Int32)) dL_law_1606 (by decide) ?_
            first | (exact absurd (Option.some.inj hf) (by decide)) | exact hR _ _ _ dL_law_1607
        rw [if_neg hx33_51] at hf
        refine zw_tout hC (tgt := 1608) dL_law_33 (ztout (n := 51) (fun k hk => by match k, hk with | 0, _ => exact hx33_0 | 1, _ => exact hx33_1 | 2, _ => exact hx33_2 | 3, _ => exact hx33_3 | 4, _ => exact hx33_4 | 5, _ => exact hx33_5 | 6, _ => exact hx33_6 | 7, _ => exact hx33_7 | 8, _ => exact hx33_8 | 9, _ => exact hx33_9 | 10, _ => exact hx33_10 | 11, _ => exact hx33_11 | 12, _ => exact hx33_12 | 13, _ => exact hx33_13 | 14, _ => exact hx33_14 | 15, _ => exact hx33_15 | 16, _ => exact hx33_16 | 17, _ => exact hx33_17 | 18, _ => exact hx33_18 | 19, _ => exact hx33_19 | 20, _ => exact hx33_20 | 21, _ => exact hx33_21 | 22, _ => exact hx33_22 | 23, _ => exact hx33_23 | 24, _ => exact hx33_24 | 25, _ => exact hx33_25 | 26, _ => exact hx33_26 | 27, _ => exact hx33_27 | 28, _ => exact hx33_28 | 29, _ => exact hx33_29 | 30, _ => exact hx33_30 | 31, _ => exact hx33_31 | 32, _ => exact hx33_32 | 33, _ => exact hx33_33 | 34, _ => exact hx33_34 | 35, _ => exact hx33_35 | 36, _ => exact hx33_36 | 37, _ => exact hx33_37 | 38, _ => exact hx33_38 | 39, _ => exact hx33_39 | 40, _ => exact hx33_40 | 41, _ => exact hx33_41 | 42, _ => exact hx33_42 | 43, _ => exact hx33_43 | 44, _ => exact hx33_44 | 45, _ => exact hx33_45 | 46, _ => exact hx33_46 | 47, _ => exact hx33_47 | 48, _ => exact hx33_48 | 49, _ => exact hx33_49 | 50, _ => exact hx33_50 | 51, _ => exact hx33_51 | k + 52, hk => exact absurd hk (by omega))) (by decide) ?_
        exact hj1608 M332 hf
  refine zw_sub [3, 2, 1, 0] rfl (hL18 _ ?_ n (0 : Int32) M hf)
  · intro M647 hf
    refine zw_iconst hC (v := (1 : Int32)) dL_law_1614 (by decide) ?_
    first | (exact absurd (Option.some.inj hf) (by decide)) | exact hR _ _ _ dL_law_1615
