set_option maxRecDepth 20000 in
theorem kw_1_20 : Cond.classLink "ClassOfManyLaw" 7 "ClassOfMany" ∈ zTw := zt1 20 (by rfl) rfl
set_option maxRecDepth 20000 in
theorem kw_1_21 : Cond.instantiable "ClassOfMany" 9 ∈ zTw := zt1 21 (by rfl) rfl
set_option maxRecDepth 20000 in
theorem kw_1_22 : Cond.methodLink "ClassOfManyLaw" 9 ⟨"ClassOfMany", "<init>", "()V"⟩ ∈ zTw := zt1 22 (by rfl) rfl
set_option maxRecDepth 20000 in
theorem kw_1_23 : Cond.instanceMethod ⟨"ClassOfMany", "<init>", "()V"⟩ ∈ zTw := zt1 23 (by rfl) rfl
set_option maxRecDepth 20000 in
theorem kw_1_24 : Cond.code ⟨"ClassOfMany", "<init>", "()V"⟩ prog_1_method_1_code 1 none ∈ zTw := zt1 24 (by rfl) rfl
set_option maxRecDepth 20000 in
theorem kw_5_217 : Cond.classLink "ClassOfManyLaw" 10 "ClassOfManyModel" ∈ zTw := zt5 217 (by rfl) rfl
set_option maxRecDepth 20000 in
theorem kw_5_218 : Cond.instantiable "ClassOfManyModel" 37 ∈ zTw := zt5 218 (by rfl) rfl
set_option maxRecDepth 20000 in
theorem kw_5_219 : Cond.methodLink "ClassOfManyLaw" 12 ⟨"ClassOfManyModel", "<init>", "()V"⟩ ∈ zTw := zt5 219 (by rfl) rfl
set_option maxRecDepth 20000 in
theorem kw_5_220 : Cond.instanceMethod ⟨"ClassOfManyModel", "<init>", "()V"⟩ ∈ zTw := zt5 220 (by rfl) rfl
set_option maxRecDepth 20000 in
theorem kw_5_221 : Cond.code ⟨"ClassOfManyModel", "<init>", "()V"⟩ prog_12_method_1_code 1 none ∈ zTw := zt5 221 (by rfl) rfl
/-! FROM THE ENTRY TO THE PURE WORDS: the two constructors, then the law as a function -/
def zM0L : List (Nat → Int32) := [fun j => [1, 0, 0, 0, 0, 0, 0, 0, 0].getD j 0, fun j => [0, 0, 0, 0, 0, 0, 0, 0, 0, 0, 99, 0, 0, 0, 0, 0, 0].getD j 0, fun _ => 0, fun _ => 0, fun _ => 0, fun _ => 0, fun _ => 0, fun _ => 0, fun _ => 0, fun _ => 0, fun _ => 0, fun _ => 0, fun j => [0, 0, -2, 0, 0, 0, 0, 0, 0, 0, 99, 0].getD j 0, fun _ => 0, fun j => [0, 0, -2, 0, 0, 0, 0, 0, 0, 0, 99, 0].getD j 0, fun _ => 0, fun j => [0, 0, 0].getD j 0, fun _ => 0, fun j => [0, 0, -2, 0, 0, 0, 0, 0, 0, 0, 99, 0].getD j 0, fun _ => 0, fun j => [0, 0, -2, 0, 0, 0, 0, 0, 0, 0, 99, 0].getD j 0, fun _ => 0, fun j => [0, 0, -2, 0, 0, 0, 0, 0, 0, 0, 99, 0].getD j 0, fun _ => 0, fun j => [0, 0, -2, 0, 0, 0, 0, 0, 0, 0, 99, 0].getD j 0, fun _ => 0, fun j => [0, 0, -2, 0, 0, 0, 0, 0, 0, 0, 99, 0].getD j 0, fun _ => 0, fun j => [0, 0, -2, 0, 0, 0, 0, 0, 0, 0, 99, 0].getD j 0, fun _ => 0, fun j => [0, 0, -2, 0, 0, 0, 0, 0, 0, 0, 99, 0].getD j 0, fun _ => 0, fun j => [0, 0, -2, 0, 0, 0, 0, 0, 0, 0, 99, 0].getD j 0, fun _ => 0, fun j => [0, 0, -2, 0, 0, 0, 0, 0, 0, 0, 99, 0].getD j 0, fun _ => 0, fun j => [0, 0, -2, 0, 0, 0, 0, 0, 0, 0, 99, 0].getD j 0, fun _ => 0, fun j => [0, 0, -2, 0, 0, 0, 0, 0, 0, 0, 99, 0].getD j 0, fun _ => 0, fun j => [0, 0, -2, 0, 0, 0, 0, 0, 0, 0, 99, 0].getD j 0, fun _ => 0, fun j => [0, 0, 0, 0, 0, 0, 44, 0].getD j 0, fun _ => 0, fun j => [0, 0, 0, 0, 0, 0, 0, 0, 0, 0, 99, 0, 0, 0, 0, 0, 0].getD j 0, fun _ => 0, fun _ => 0, fun _ => 0, fun _ => 0, fun _ => 0, fun _ => 0, fun _ => 0, fun _ => 0, fun _ => 0, fun _ => 0, fun j => [0, 0, -2, 0, 0, 0, 0, 0, 0, 0, 99, 0].getD j 0, fun _ => 0, fun j => [0, 0, 0, 0, 0, 0, 0, 61, 62].getD j 0, fun _ => 0, fun _ => 0, fun _ => 0, fun _ => 0, fun _ => 0, fun j => [0, 0, 0, 0, 0, 0, 0, 0, 0, 0, 0, 0, 0, 0, 0, 0, 0, 0].getD j 0, fun _ => 0, fun _ => 0, fun _ => 0, fun _ => 0, fun _ => 0, fun _ => 0, fun _ => 0, fun j => [0, 0, 0, 0, 0, 0, 0].getD j 0, fun _ => 0, fun _ => 0, fun _ => 0, fun j => [0, 0].getD j 0, fun _ => 0, fun j => [0, 0, 0, 0, 0, 0, 0, 0, 0, 0, 0, 0, 0, 0, 0, 0, 0, 0, 0, 0, 0, 0, 0, 0, 0, 0, 0, 0, 0, 0, 0, 0, 0, 0, 0, 0, 0].getD j 0, yk_now, fun _ => 0, fun _ => 0, fun _ => 0, fun _ => 0, fun _ => 0, fun _ => 0, fun _ => 0, fun _ => 0, fun _ => 0, fun _ => 0, fun _ => 0, fun _ => 0, fun _ => 0, fun _ => 0, fun _ => 0]
def zM0 : ZMem := fun k => zM0L.getD k (fun _ => 0)
abbrev YS : Type := (Nat × (Nat → Nat) × Nat × (Nat → Nat) × Nat × (Nat → Nat) × Nat × (Nat → Nat) × Nat × (Nat × Nat × (Nat → Nat) × Nat × (Nat → Nat)) × Nat × (Nat → Nat) × Nat × (Nat → Nat) × Nat × (Nat → Nat) × Nat × (Nat → Nat))
def zadL (q r : Nat) (s : YS) (v : Nat → Nat) : List Nat := [q, s.1, s.2.1 1, s.2.1 2, s.2.1 3, s.2.1 4, s.2.1 5, s.2.1 6, s.2.1 7, s.2.1 8, s.2.1 9, s.2.1 10, s.2.2.1, s.2.2.2.1 1, s.2.2.2.2.1, s.2.2.2.2.2.1 1, s.2.2.2.2.2.2.1, s.2.2.2.2.2.2.2.1 1, s.2.2.2.2.2.2.2.1 2, s.2.2.2.2.2.2.2.1 3, s.2.2.2.2.2.2.2.1 4, s.2.2.2.2.2.2.2.1 5, s.2.2.2.2.2.2.2.1 6, s.2.2.2.2.2.2.2.1 7, s.2.2.2.2.2.2.2.1 8, s.2.2.2.2.2.2.2.1 9, s.2.2.2.2.2.2.2.1 10, s.2.2.2.2.2.2.2.1 11, s.2.2.2.2.2.2.2.1 12, s.2.2.2.2.2.2.2.1 13, s.2.2.2.2.2.2.2.1 14, s.2.2.2.2.2.2.2.1 15, s.2.2.2.2.2.2.2.1 16, s.2.2.2.2.2.2.2.1 17, s.2.2.2.2.2.2.2.1 18, s.2.2.2.2.2.2.2.1 19, s.2.2.2.2.2.2.2.1 20, s.2.2.2.2.2.2.2.1 21, s.2.2.2.2.2.2.2.1 22, s.2.2.2.2.2.2.2.1 23, s.2.2.2.2.2.2.2.1 24, s.2.2.2.2.2.2.2.1 25, s.2.2.2.2.2.2.2.2.1, s.2.2.2.2.2.2.2.2.2.1.1, s.2.2.2.2.2.2.2.2.2.1.2.1, s.2.2.2.2.2.2.2.2.2.1.2.2.1 1, s.2.2.2.2.2.2.2.2.2.1.2.2.1 2, s.2.2.2.2.2.2.2.2.2.1.2.2.1 3, s.2.2.2.2.2.2.2.2.2.1.2.2.1 4, s.2.2.2.2.2.2.2.2.2.1.2.2.1 5, s.2.2.2.2.2.2.2.2.2.1.2.2.1 6, s.2.2.2.2.2.2.2.2.2.1.2.2.1 7, s.2.2.2.2.2.2.2.2.2.1.2.2.1 8, s.2.2.2.2.2.2.2.2.2.1.2.2.1 9, s.2.2.2.2.2.2.2.2.2.1.2.2.1 10, s.2.2.2.2.2.2.2.2.2.1.2.2.2.1, s.2.2.2.2.2.2.2.2.2.1.2.2.2.2 1, s.2.2.2.2.2.2.2.2.2.2.1, s.2.2.2.2.2.2.2.2.2.2.2.1 1, s.2.2.2.2.2.2.2.2.2.2.2.1 2, s.2.2.2.2.2.2.2.2.2.2.2.1 3, s.2.2.2.2.2.2.2.2.2.2.2.1 4, s.2.2.2.2.2.2.2.2.2.2.2.1 5, s.2.2.2.2.2.2.2.2.2.2.2.2.1, s.2.2.2.2.2.2.2.2.2.2.2.2.2.1 1, s.2.2.2.2.2.2.2.2.2.2.2.2.2.1 2, s.2.2.2.2.2.2.2.2.2.2.2.2.2.1 3, s.2.2.2.2.2.2.2.2.2.2.2.2.2.1 4, s.2.2.2.2.2.2.2.2.2.2.2.2.2.1 5, s.2.2.2.2.2.2.2.2.2.2.2.2.2.1 6, s.2.2.2.2.2.2.2.2.2.2.2.2.2.1 7, s.2.2.2.2.2.2.2.2.2.2.2.2.2.2.1, s.2.2.2.2.2.2.2.2.2.2.2.2.2.2.2.1 1, s.2.2.2.2.2.2.2.2.2.2.2.2.2.2.2.1 2, s.2.2.2.2.2.2.2.2.2.2.2.2.2.2.2.1 3, s.2.2.2.2.2.2.2.2.2.2.2.2.2.2.2.2.1, s.2.2.2.2.2.2.2.2.2.2.2.2.2.2.2.2.2 1, r, v 1, v 2, v 3, v 4, v 5, v 6, v 7, v 8, v 9, v 10, v 11, v 12, v 13, v 14, v 15, v 16]
def zadF (q r : Nat) (s : YS) (v sk sv : Nat → Nat) : Nat → Nat := fun k => if k < 94 then (zadL q r s v).getD k 0 else if k < 2000 then sk (k - 1000) else sv (k - 2000)
set_option maxRecDepth 20000 in
theorem yn_1_30 : Cond.methodLinkNest "ClassOfMany" 11 ⟨"ClassOfMany$Told", "<init>", "()V"⟩ "ClassOfMany" ∈ lw_tbl := List.mem_append_right _ (List.mem_append_left _ (List.mem_of_getElem? (i := 30) (by rfl)))
set_option maxRecDepth 20000 in
theorem yn_1_128 : Cond.methodLinkNest "ClassOfMany" 18 ⟨"ClassOfMany$Standing", "<init>", "()V"⟩ "ClassOfMany" ∈ lw_tbl := List.mem_append_right _ (List.mem_append_left _ (List.mem_of_getElem? (i := 128) (by rfl)))
set_option maxRecDepth 20000 in
theorem yn_1_205 : Cond.methodLinkNest "ClassOfMany$Journal" 17 ⟨"ClassOfMany$Standing", "<init>", "()V"⟩ "ClassOfMany" ∈ lw_tbl := List.mem_append_right _ (List.mem_append_left _ (List.mem_of_getElem? (i := 205) (by rfl)))
set_option maxRecDepth 20000 in
theorem yn_1_219 : Cond.methodLinkNest "ClassOfMany" 35 ⟨"ClassOfMany$Reader", "<init>", "()V"⟩ "ClassOfMany" ∈ lw_tbl := List.mem_append_right _ (List.mem_append_left _ (List.mem_of_getElem? (i := 219) (by rfl)))
set_option maxRecDepth 20000 in
theorem yn_1_224 : Cond.methodLinkNest "ClassOfMany$Reader" 17 ⟨"ClassOfMany$Told", "<init>", "()V"⟩ "ClassOfMany" ∈ lw_tbl := List.mem_append_right _ (List.mem_append_left _ (List.mem_of_getElem? (i := 224) (by rfl)))
set_option maxRecDepth 20000 in
theorem yn_1_226 : Cond.methodLinkNest "ClassOfMany$Reader" 24 ⟨"ClassOfMany$Standing", "<init>", "()V"⟩ "ClassOfMany" ∈ lw_tbl := List.mem_append_right _ (List.mem_append_left _ (List.mem_of_getElem? (i := 226) (by rfl)))
set_option maxRecDepth 20000 in
theorem yn_2_17 : Cond.methodLinkNest "ClassOfMany" 42 ⟨"ClassOfMany$Splitter", "<init>", "()V"⟩ "ClassOfMany" ∈ lw_tbl := List.mem_append_right _ (List.mem_append_right _ (List.mem_append_left _ (List.mem_of_getElem? (i := 17) (by rfl))))
set_option maxRecDepth 20000 in
theorem yn_2_54 : Cond.methodLinkNest "ClassOfMany" 49 ⟨"ClassOfMany$Payer", "<init>", "()V"⟩ "ClassOfMany" ∈ lw_tbl := List.mem_append_right _ (List.mem_append_right _ (List.mem_append_left _ (List.mem_of_getElem? (i := 54) (by rfl))))
set_option maxRecDepth 20000 in
theorem yn_2_126 : Cond.methodLinkNest "ClassOfMany" 56 ⟨"ClassOfMany$Resting", "<init>", "()V"⟩ "ClassOfMany" ∈ lw_tbl := List.mem_append_right _ (List.mem_append_right _ (List.mem_append_left _ (List.mem_of_getElem? (i := 126) (by rfl))))
set_option maxRecDepth 20000 in
theorem yn_2_156 : Cond.methodLinkNest "ClassOfMany" 63 ⟨"ClassOfMany$Page", "<init>", "()V"⟩ "ClassOfMany" ∈ lw_tbl := List.mem_append_right _ (List.mem_append_right _ (List.mem_append_left _ (List.mem_of_getElem? (i := 156) (by rfl))))
set_option maxRecDepth 20000 in
theorem yn_3_11 : Cond.methodLinkNest "ClassOfMany$Reader" 114 ⟨"ClassOfMany", "wordOf", "(I)Ljava/lang/String;"⟩ "ClassOfMany" ∈ lw_tbl := List.mem_append_right _ (List.mem_append_right _ (List.mem_append_right _ (List.mem_append_left _ (List.mem_of_getElem? (i := 11) (by rfl)))))
set_option maxRecDepth 20000 in
theorem yn_3_78 : Cond.methodLinkNest "ClassOfMany$Reader" 129 ⟨"ClassOfMany", "has", "(II)Z"⟩ "ClassOfMany" ∈ lw_tbl := List.mem_append_right _ (List.mem_append_right _ (List.mem_append_right _ (List.mem_append_left _ (List.mem_of_getElem? (i := 78) (by rfl)))))
set_option maxRecDepth 20000 in
theorem yn_3_192 : Cond.methodLinkNest "ClassOfMany$Mail" 38 ⟨"ClassOfMany", "has", "(II)Z"⟩ "ClassOfMany" ∈ lw_tbl := List.mem_append_right _ (List.mem_append_right _ (List.mem_append_right _ (List.mem_append_left _ (List.mem_of_getElem? (i := 192) (by rfl)))))
set_option maxRecDepth 20000 in
theorem yn_4_105 : Cond.methodLinkNest "ClassOfMany$Splitter" 74 ⟨"ClassOfMany", "has", "(II)Z"⟩ "ClassOfMany" ∈ lw_tbl := List.mem_append_right _ (List.mem_append_right _ (List.mem_append_right _ (List.mem_append_right _ (List.mem_append_left _ (List.mem_of_getElem? (i := 105) (by rfl))))))
set_option maxRecDepth 20000 in
theorem yn_4_206 : Cond.methodLinkNest "ClassOfMany$Payer" 119 ⟨"ClassOfMany", "has", "(II)Z"⟩ "ClassOfMany" ∈ lw_tbl := List.mem_append_right _ (List.mem_append_right _ (List.mem_append_right _ (List.mem_append_right _ (List.mem_append_left _ (List.mem_of_getElem? (i := 206) (by rfl))))))
set_option maxRecDepth 20000 in
theorem yn_4_212 : Cond.methodLinkNest "ClassOfMany$Payer" 52 ⟨"ClassOfMany", "netOf", "(LClassOfMany$Told;II)I"⟩ "ClassOfMany" ∈ lw_tbl := List.mem_append_right _ (List.mem_append_right _ (List.mem_append_right _ (List.mem_append_right _ (List.mem_append_left _ (List.mem_of_getElem? (i := 212) (by rfl))))))
set_option maxRecDepth 20000 in
theorem yn_5_122 : Cond.methodLinkNest "ClassOfMany$Resting" 75 ⟨"ClassOfMany", "has", "(II)Z"⟩ "ClassOfMany" ∈ lw_tbl := List.mem_append_right _ (List.mem_append_right _ (List.mem_append_right _ (List.mem_append_right _ (List.mem_append_right _ (List.mem_append_left _ (List.mem_of_getElem? (i := 122) (by rfl)))))))
theorem yn_all : ∀ q ∈ zNest, Cond.methodLinkNest q.1 q.2.1 q.2.2 "ClassOfMany" ∈ lw_tbl := List.forall_mem_cons.mpr ⟨yn_1_30, List.forall_mem_cons.mpr ⟨yn_1_128, List.forall_mem_cons.mpr ⟨yn_1_205, List.forall_mem_cons.mpr ⟨yn_1_219, List.forall_mem_cons.mpr ⟨yn_1_224, List.forall_mem_cons.mpr ⟨yn_1_226, List.forall_mem_cons.mpr ⟨yn_2_17, List.forall_mem_cons.mpr ⟨yn_2_54, List.forall_mem_cons.mpr ⟨yn_2_126, List.forall_mem_cons.mpr ⟨yn_2_156, List.forall_mem_cons.mpr ⟨yn_3_11, List.forall_mem_cons.mpr ⟨yn_3_78, List.forall_mem_cons.mpr ⟨yn_3_192, List.forall_mem_cons.mpr ⟨yn_4_105, List.forall_mem_cons.mpr ⟨yn_4_206, List.forall_mem_cons.mpr ⟨yn_4_212, List.forall_mem_cons.mpr ⟨yn_5_122, fun _ h => absurd h List.not_mem_nil⟩⟩⟩⟩⟩⟩⟩⟩⟩⟩⟩⟩⟩⟩⟩⟩⟩
set_option maxRecDepth 20000 in
theorem yo_ao : Cond.arrayOver (.object "ClassOfMany$Standing") ∈ lw_tbl := List.mem_append_right _ (List.mem_append_left _ (List.mem_of_getElem? (i := 204) (by rfl)))
set_option maxRecDepth 20000 in
theorem yo_ls : Cond.laysStatic "java/lang/String" "COMPACT_STRINGS" "Z" ∈ lw_tbl := List.mem_append_right _ (List.mem_append_right _ (List.mem_append_right _ (List.mem_append_left _ (List.mem_of_getElem? (i := 35) (by rfl)))))
set_option maxRecDepth 20000 in
theorem yo_lf : Cond.laysStatic "jdk/internal/util/Preconditions" "SIOOBE_FORMATTER" "Ljava/util/function/BiFunction;" ∈ lw_tbl := List.mem_append_right _ (List.mem_append_right _ (List.mem_append_right _ (List.mem_append_left _ (List.mem_of_getElem? (i := 51) (by rfl)))))
set_option maxRecDepth 20000 in
theorem yr_C_433 : Cond.stringRef "ClassOfMany" 433 "fund" ∈ lw_tbl := List.mem_append_right _ (List.mem_append_right _ (List.mem_append_right _ (List.mem_append_left _ (List.mem_of_getElem? (i := 14) (by rfl)))))
set_option maxRecDepth 20000 in
theorem yr_C_434 : Cond.stringRef "ClassOfMany" 434 "fee" ∈ lw_tbl := List.mem_append_right _ (List.mem_append_right _ (List.mem_append_right _ (List.mem_append_left _ (List.mem_of_getElem? (i := 15) (by rfl)))))
set_option maxRecDepth 20000 in
theorem yr_C_435 : Cond.stringRef "ClassOfMany" 435 "least" ∈ lw_tbl := List.mem_append_right _ (List.mem_append_right _ (List.mem_append_right _ (List.mem_append_left _ (List.mem_of_getElem? (i := 16) (by rfl)))))
set_option maxRecDepth 20000 in
theorem yr_C_436 : Cond.stringRef "ClassOfMany" 436 "till" ∈ lw_tbl := List.mem_append_right _ (List.mem_append_right _ (List.mem_append_right _ (List.mem_append_left _ (List.mem_of_getElem? (i := 17) (by rfl)))))
set_option maxRecDepth 20000 in
theorem yr_C_437 : Cond.stringRef "ClassOfMany" 437 "period" ∈ lw_tbl := List.mem_append_right _ (List.mem_append_right _ (List.mem_append_right _ (List.mem_append_left _ (List.mem_of_getElem? (i := 18) (by rfl)))))
set_option maxRecDepth 20000 in
theorem yr_C_439 : Cond.stringRef "ClassOfMany" 439 "channel" ∈ lw_tbl := List.mem_append_right _ (List.mem_append_right _ (List.mem_append_right _ (List.mem_append_left _ (List.mem_of_getElem? (i := 19) (by rfl)))))
set_option maxRecDepth 20000 in
theorem yr_C_441 : Cond.stringRef "ClassOfMany" 441 "member" ∈ lw_tbl := List.mem_append_right _ (List.mem_append_right _ (List.mem_append_right _ (List.mem_append_left _ (List.mem_of_getElem? (i := 20) (by rfl)))))
set_option maxRecDepth 20000 in
theorem yr_C_443 : Cond.stringRef "ClassOfMany" 443 "conflict" ∈ lw_tbl := List.mem_append_right _ (List.mem_append_right _ (List.mem_append_right _ (List.mem_append_left _ (List.mem_of_getElem? (i := 21) (by rfl)))))
set_option maxRecDepth 20000 in
theorem yr_CReader_163 : Cond.stringRef "ClassOfMany$Reader" 163 "by" ∈ lw_tbl := List.mem_append_right _ (List.mem_append_right _ (List.mem_append_right _ (List.mem_append_left _ (List.mem_of_getElem? (i := 118) (by rfl)))))
set_option maxRecDepth 20000 in
theorem yr_CPage_27 : Cond.stringRef "ClassOfMany$Page" 27 ";" ∈ lw_tbl := List.mem_append_right _ (List.mem_append_right _ (List.mem_append_right _ (List.mem_append_right _ (List.mem_append_right _ (List.mem_append_left _ (List.mem_of_getElem? (i := 182) (by rfl)))))))
set_option maxRecDepth 20000 in
theorem yr_C_422 : Cond.stringRef "ClassOfMany" 422 " by" ∈ lw_tbl := List.mem_append_right _ (List.mem_append_right _ (List.mem_append_right _ (List.mem_append_right _ (List.mem_append_right _ (List.mem_append_left _ (List.mem_of_getElem? (i := 193) (by rfl)))))))
set_option maxRecDepth 20000 in
theorem yr_C_424 : Cond.stringRef "ClassOfMany" 424 ";" ∈ lw_tbl := List.mem_append_right _ (List.mem_append_right _ (List.mem_append_right _ (List.mem_append_right _ (List.mem_append_right _ (List.mem_append_left _ (List.mem_of_getElem? (i := 194) (by rfl)))))))
set_option maxRecDepth 20000 in
theorem yr_C_426 : Cond.stringRef "ClassOfMany" 426 "paid" ∈ lw_tbl := List.mem_append_right _ (List.mem_append_right _ (List.mem_append_right _ (List.mem_append_right _ (List.mem_append_right _ (List.mem_append_left _ (List.mem_of_getElem? (i := 207) (by rfl)))))))
set_option maxRecDepth 20000 in
theorem yr_C_428 : Cond.stringRef "ClassOfMany" 428 "next" ∈ lw_tbl := List.mem_append_right _ (List.mem_append_right _ (List.mem_append_right _ (List.mem_append_right _ (List.mem_append_right _ (List.mem_append_left _ (List.mem_of_getElem? (i := 208) (by rfl)))))))
def yTmL : List Term := [Term.string "ClassOfMany" 433, Term.string "ClassOfMany" 434, Term.string "ClassOfMany" 435, Term.string "ClassOfMany" 436, Term.string "ClassOfMany" 437, Term.string "ClassOfMany" 439, Term.string "ClassOfMany" 441, Term.string "ClassOfMany" 443, Term.string "ClassOfMany$Reader" 163, Term.string "ClassOfMany$Page" 27, Term.string "ClassOfMany" 422, Term.string "ClassOfMany" 426, Term.string "ClassOfMany" 428]
def yTm (i : Nat) : Term := yTmL.getD i (Term.string "" 0)
abbrev yFl : List Cond := flatC (Jvm.Cond.and given_1 narrow_1)
theorem yf_ex : ∀ i, i < 13 → Cond.exactly (yTm i) "java/lang/String" ∈ yFl := by decide +kernel
theorem yf_co : ∀ i, i < 13 → Cond.eq (.field (yTm i) "java/lang/String" "coder" "B") (.int 0) ∈ yFl := by decide +kernel
theorem yf_ar : ∀ i, i < 13 → Cond.arrayOf (.field (yTm i) "java/lang/String" "value" "[B") .byte ∈ yFl := by decide +kernel
theorem yf_le : ∀ i, i < 13 → Cond.eq (.length (.field (yTm i) "java/lang/String" "value" "[B")) (.int (Int32.ofNat (zLen.getD i 0))) ∈ yFl := by decide +kernel
theorem yf_el : ∀ i, i < 13 → ∀ j, j < zLen.getD i 0 → Cond.eq (.elem (.field (yTm i) "java/lang/String" "value" "[B") (.int (Int32.ofNat j))) (.int ((zByt.getD i []).getD j 0)) ∈ yFl := by decide +kernel
theorem yf_ne : ∀ i, i < 13 → ∀ j, j < 13 → i ≠ j → Cond.not (Cond.eq (yTm i) (yTm j)) ∈ yFl ∨ Cond.not (Cond.eq (yTm j) (yTm i)) ∈ yFl := by decide +kernel
theorem yf_semi : Cond.eq (Term.string "ClassOfMany$Page" 27) (Term.string "ClassOfMany" 424) ∈ yFl := by decide +kernel
theorem yf_cs : Cond.eq (Term.static "java/lang/String" "COMPACT_STRINGS" "Z") (.int 1) ∈ yFl := by decide +kernel
theorem yf_sf : Cond.isRef (Term.static "jdk/internal/util/Preconditions" "SIOOBE_FORMATTER" "Ljava/util/function/BiFunction;") ∈ yFl := by decide +kernel
theorem yf_len : ∀ i, i < 13 → zLen.getD i 0 < 2 ^ 31 := by decide +kernel
set_option maxRecDepth 100000 in
theorem ystr {s : State} {b : Nat} (hts : ∀ w ∈ lw_tbl, w.before #[Value.ref b] s = true) (hgv : (Jvm.Cond.and given_1 narrow_1).before #[Value.ref b] s = true) : ∃ sk sv : Nat → Nat, vk_S 13 zLen zByt sk sv (fun q => s.heap.size ≤ q) s s.heap ∧ (∀ q ∈ zLdc, vk_R q.1 q.2.1 q.2.2.1 (sk q.2.2.2) s) := by
  have hs := flat_of_before _ hgv
  obtain ⟨sk, sv, hS, he⟩ := vk_Sof (N := 13) (tm := yTm) (len := zLen) (byt := zByt) (A := fun q => s.heap.size ≤ q) yf_len (fun i hi => hs _ (yf_ex i hi)) (fun i hi => hs _ (yf_co i hi)) (fun i hi => hs _ (yf_ar i hi)) (fun i hi => hs _ (yf_le i hi)) (fun i hi j hj => hs _ (yf_el i hi j hj)) (fun i j hi hj h => (yf_ne i hi j hj h).imp (hs _) (hs _)) (fun a h => Nat.not_le.mpr h)
  exact ⟨sk, sv, hS, List.forall_mem_cons.mpr ⟨⟨hts _ yr_C_433, he 0 (by decide)⟩, List.forall_mem_cons.mpr ⟨⟨hts _ yr_C_434, he 1 (by decide)⟩, List.forall_mem_cons.mpr ⟨⟨hts _ yr_C_435, he 2 (by decide)⟩, List.forall_mem_cons.mpr ⟨⟨hts _ yr_C_436, he 3 (by decide)⟩, List.forall_mem_cons.mpr ⟨⟨hts _ yr_C_437, he 4 (by decide)⟩, List.forall_mem_cons.mpr ⟨⟨hts _ yr_C_439, he 5 (by decide)⟩, List.forall_mem_cons.mpr ⟨⟨hts _ yr_C_441, he 6 (by decide)⟩, List.forall_mem_cons.mpr ⟨⟨hts _ yr_C_443, he 7 (by decide)⟩, List.forall_mem_cons.mpr ⟨⟨hts _ yr_CReader_163, he 8 (by decide)⟩, List.forall_mem_cons.mpr ⟨⟨hts _ yr_CPage_27, he 9 (by decide)⟩, List.forall_mem_cons.mpr ⟨⟨hts _ yr_C_422, he 10 (by decide)⟩, List.forall_mem_cons.mpr ⟨⟨hts _ yr_C_424, va_eqR (hs _ yf_semi) (he 9 (by decide))⟩, List.forall_mem_cons.mpr ⟨⟨hts _ yr_C_426, he 11 (by decide)⟩, List.forall_mem_cons.mpr ⟨⟨hts _ yr_C_428, he 12 (by decide)⟩, fun _ h => absurd h List.not_mem_nil⟩⟩⟩⟩⟩⟩⟩⟩⟩⟩⟩⟩⟩⟩⟩
theorem yinst : ∀ (k : Nat) (q : vw_C), vwCl[k]? = some q → Cond.instantiable q.1 q.2.2 ∈ zTw := by
  intro k q hq
  match k, hq with
  | 0, hq => cases hq; exact kw_1_198
  | 1, hq => cases hq; exact kw_2_155
  | 2, hq => cases hq; exact kw_2_53
  | 3, hq => cases hq; exact kw_1_218
  | 4, hq => cases hq; exact kw_2_125
  | 5, hq => cases hq; exact kw_2_16
  | 6, hq => cases hq; exact kw_1_127
  | 7, hq => cases hq; exact kw_1_29
  | 8, hq => cases hq; exact kw_1_21
  | 9, hq => cases hq; exact kw_5_218
  | k + 10, hq => simp [vwCl] at hq
theorem yK {s : State} {args : Array Value} (hts : ∀ w ∈ lw_tbl, w.before args s = true) : ∃ (D : va_G) (cA : Nat → ClassId), va_K D vwCl (ztys cA) s := by
  have h0 : ∀ k : Nat, ∃ q : ClassId × (Nat → Nat), ∀ r : vw_C, vwCl[k]? = some r → u_Kn s r.1 r.2.1 r.2.2 q.1 q.2 := by
    intro k
    cases hk : vwCl[k]? with
    | none => exact ⟨(0, fun _ => 0), fun r h => by cases h⟩
    | some r =>
      obtain ⟨c, i, h⟩ := u_known (C := r.1) (T := r.2.1) (N := r.2.2) (n := r.2.2) hts (fun w hw => zTw_in _ ((zcls k r hk).1 w hw)) (hts _ (zTw_in _ (yinst k r hk)))
      exact ⟨(c, i), fun r' h' => by cases h'; exact h⟩
  obtain ⟨f, hf⟩ := Classical.axiomOfChoice h0
  obtain ⟨c1, k1, p1, e1, e2, e3⟩ := Cond.arrayClass_spec (type := .int) (hts _ (zTw_in _ kw_1_125))
  obtain ⟨c2, k2, p2, g1, g2, g3⟩ := Cond.arrayClass_spec (type := .byte) (hts _ (zTw_in _ kw_2_167))
  obtain ⟨c3, k3, p3, i1, i2, i3⟩ := Cond.arrayClass_spec (type := .boolean) (hts _ (zTw_in _ kw_2_51))
  obtain ⟨p4, c4, k4, j1, j2, j3, j4, j5⟩ := Cond.arrayOver_spec (hts _ yo_ao)
  refine ⟨(fun k => (f k).1, fun k => (f k).2), fun k => if k = 10 then c1 else if k = 11 then c2 else if k = 12 then c3 else c4, fun k q hq => hf k q hq, fun k q hq => ?_⟩
  match k, hq with
  | 0, hq => cases hq; exact ⟨fun n z => ⟨fun k h => (by cases h), k1, e2, p1, e3⟩, e1⟩
  | 1, hq => cases hq; exact ⟨fun n z => ⟨fun k h => (by cases h), k2, g2, p2, g3⟩, g1⟩
  | 2, hq => cases hq; exact ⟨fun n z => ⟨fun k h => (by cases h), k3, i2, p3, i3⟩, i1⟩
  | 3, hq => cases hq; exact ⟨fun n z => ⟨fun k h => (by cases h), k4, j3, p4, j4⟩, k4, p4, j3, j4, j1, j5⟩
  | k + 4, hq => simp [ztys] at hq
theorem yw_astore_n {E : YEnv} {cc : ByteArray} {own : String} {d mc ms pc cells slots : Nat} {lv lv' : List (Nat × Value)} {st : List Value} {ws : va_W} (hC : YCx E cc own d mc ms) {f : Fin 4} {i nL : Nat} {x : Nat} (hd : decode cc pc = .ok (.astore_n f, 1)) (hi : (f : Nat) = i) (hN : E.2.2.2.2.2.2.2.2.2.2.2.2.2.2 = nL) (hn : i < nL) (h : (i, Value.ref x) :: lv.filter (fun q => !(q.1 == i) && !(q.1 + 1 == i && q.2.category == 2)) = lv') (kk : YW E (pc + 1) lv' st ws cells slots) : YW E pc lv (.ref x :: st) ws cells slots := by
  subst hN
  obtain ⟨p, l, e, R, s, m, args, below, meth, c, Q, D, cA, A, nL⟩ := E
  intro H locs ls hP hD hS hl
  exact lv_astore_n hC.1 hC.2.1 hd hi hl hn h (fun ls' hl' => kk H locs ls' hP hD hS hl')

def yLst (cA : Nat → ClassId) (q r : Nat) (s : YS) (v : Nat → Nat) : va_W := [(q, .inr (8, [.ref (s.1), .ref (s.2.2.1), .ref (s.2.2.2.2.1), .ref (s.2.2.2.2.2.2.1), .ref (s.2.2.2.2.2.2.2.2.1), .ref (s.2.2.2.2.2.2.2.2.2.2.1), .ref (s.2.2.2.2.2.2.2.2.2.2.2.2.1), .ref (s.2.2.2.2.2.2.2.2.2.2.2.2.2.2.1), .ref (s.2.2.2.2.2.2.2.2.2.2.2.2.2.2.2.2.1)])), (s.1, .inr (7, [.int 0, .int 0, .ref (s.2.1 1), .ref (s.2.1 2), .ref (s.2.1 3), .ref (s.2.1 4), .ref (s.2.1 5), .ref (s.2.1 6), .int 0, .int 0, .int 99, .int 0, .ref (s.2.1 7), .ref (s.2.1 8), .ref (s.2.1 9), .int 0, .ref (s.2.1 10)])), (s.2.1 1, .inl (cA 10, 10, .inl (fun _ => 0))), (s.2.1 2, .inl (cA 10, 10, .inl (fun _ => 0))), (s.2.1 3, .inl (cA 10, 10, .inl (fun _ => 0))), (s.2.1 4, .inl (cA 10, 10, .inl (fun _ => 0))), (s.2.1 5, .inl (cA 10, 4, .inl (fun _ => 0))), (s.2.1 6, .inl (cA 10, 4, .inl (fun _ => 0))), (s.2.1 7, .inl (cA 10, 80, .inl (fun _ => 0))), (s.2.1 8, .inl (cA 10, 80, .inl (fun _ => 0))), (s.2.1 9, .inl (cA 10, 80, .inl (fun _ => 0))), (s.2.1 10, .inl (cA 10, 200, .inl (fun _ => 0))), (s.2.2.1, .inr (6, [.int 0, .int 0, .int (-2), .int 0, .int 0, .int 0, .int 0, .int 0, .int 0, .int 0, .int 99, .ref (s.2.2.2.1 1)])), (s.2.2.2.1 1, .inl (cA 10, 10, .inl (fun _ => 0))), (s.2.2.2.2.1, .inr (6, [.int 0, .int 0, .int (-2), .int 0, .int 0, .int 0, .int 0, .int 0, .int 0, .int 0, .int 99, .ref (s.2.2.2.2.2.1 1)])), (s.2.2.2.2.2.1 1, .inl (cA 10, 10, .inl (fun _ => 0))), (s.2.2.2.2.2.2.1, .inr (0, [.ref (s.2.2.2.2.2.2.2.1 1), .int 0, .int 0])), (s.2.2.2.2.2.2.2.1 1, .inl (cA 13, 12, .inr (.inr (.inr (.inr (fun j => if j < 12 then some (s.2.2.2.2.2.2.2.1 (2 + 2 * j)) else none)))))), (s.2.2.2.2.2.2.2.1 2, .inr (6, [.int 0, .int 0, .int (-2), .int 0, .int 0, .int 0, .int 0, .int 0, .int 0, .int 0, .int 99, .ref (s.2.2.2.2.2.2.2.1 3)])), (s.2.2.2.2.2.2.2.1 3, .inl (cA 10, 10, .inl (fun _ => 0))), (s.2.2.2.2.2.2.2.1 4, .inr (6, [.int 0, .int 0, .int (-2), .int 0, .int 0, .int 0, .int 0, .int 0, .int 0, .int 0, .int 99, .ref (s.2.2.2.2.2.2.2.1 5)])), (s.2.2.2.2.2.2.2.1 5, .inl (cA 10, 10, .inl (fun _ => 0))), (s.2.2.2.2.2.2.2.1 6, .inr (6, [.int 0, .int 0, .int (-2), .int 0, .int 0, .int 0, .int 0, .int 0, .int 0, .int 0, .int 99, .ref (s.2.2.2.2.2.2.2.1 7)])), (s.2.2.2.2.2.2.2.1 7, .inl (cA 10, 10, .inl (fun _ => 0))), (s.2.2.2.2.2.2.2.1 8, .inr (6, [.int 0, .int 0, .int (-2), .int 0, .int 0, .int 0, .int 0, .int 0, .int 0, .int 0, .int 99, .ref (s.2.2.2.2.2.2.2.1 9)])), (s.2.2.2.2.2.2.2.1 9, .inl (cA 10, 10, .inl (fun _ => 0))), (s.2.2.2.2.2.2.2.1 10, .inr (6, [.int 0, .int 0, .int (-2), .int 0, .int 0, .int 0, .int 0, .int 0, .int 0, .int 0, .int 99, .ref (s.2.2.2.2.2.2.2.1 11)])), (s.2.2.2.2.2.2.2.1 11, .inl (cA 10, 10, .inl (fun _ => 0))), (s.2.2.2.2.2.2.2.1 12, .inr (6, [.int 0, .int 0, .int (-2), .int 0, .int 0, .int 0, .int 0, .int 0, .int 0, .int 0, .int 99, .ref (s.2.2.2.2.2.2.2.1 13)])), (s.2.2.2.2.2.2.2.1 13, .inl (cA 10, 10, .inl (fun _ => 0))), (s.2.2.2.2.2.2.2.1 14, .inr (6, [.int 0, .int 0, .int (-2), .int 0, .int 0, .int 0, .int 0, .int 0, .int 0, .int 0, .int 99, .ref (s.2.2.2.2.2.2.2.1 15)])), (s.2.2.2.2.2.2.2.1 15, .inl (cA 10, 10, .inl (fun _ => 0))), (s.2.2.2.2.2.2.2.1 16, .inr (6, [.int 0, .int 0, .int (-2), .int 0, .int 0, .int 0, .int 0, .int 0, .int 0, .int 0, .int 99, .ref (s.2.2.2.2.2.2.2.1 17)])), (s.2.2.2.2.2.2.2.1 17, .inl (cA 10, 10, .inl (fun _ => 0))), (s.2.2.2.2.2.2.2.1 18, .inr (6, [.int 0, .int 0, .int (-2), .int 0, .int 0, .int 0, .int 0, .int 0, .int 0, .int 0, .int 99, .ref (s.2.2.2.2.2.2.2.1 19)])), (s.2.2.2.2.2.2.2.1 19, .inl (cA 10, 10, .inl (fun _ => 0))), (s.2.2.2.2.2.2.2.1 20, .inr (6, [.int 0, .int 0, .int (-2), .int 0, .int 0, .int 0, .int 0, .int 0, .int 0, .int 0, .int 99, .ref (s.2.2.2.2.2.2.2.1 21)])), (s.2.2.2.2.2.2.2.1 21, .inl (cA 10, 10, .inl (fun _ => 0))), (s.2.2.2.2.2.2.2.1 22, .inr (6, [.int 0, .int 0, .int (-2), .int 0, .int 0, .int 0, .int 0, .int 0, .int 0, .int 0, .int 99, .ref (s.2.2.2.2.2.2.2.1 23)])), (s.2.2.2.2.2.2.2.1 23, .inl (cA 10, 10, .inl (fun _ => 0))), (s.2.2.2.2.2.2.2.1 24, .inr (6, [.int 0, .int 0, .int (-2), .int 0, .int 0, .int 0, .int 0, .int 0, .int 0, .int 0, .int 99, .ref (s.2.2.2.2.2.2.2.1 25)])), (s.2.2.2.2.2.2.2.1 25, .inl (cA 10, 10, .inl (fun _ => 0))), (s.2.2.2.2.2.2.2.2.1, .inr (3, [.ref (s.2.2.2.2.2.2.2.2.2.1.1), .int 0, .int 0, .int 0, .int 0, .int 0, .ref (s.2.2.2.2.2.2.2.2.2.1.2.1), .ref (s.2.2.2.2.2.2.2.2.2.1.2.2.2.1)])), (s.2.2.2.2.2.2.2.2.2.1.1, .inl (cA 10, 400, .inl (fun _ => 0))), (s.2.2.2.2.2.2.2.2.2.1.2.1, .inr (7, [.int 0, .int 0, .ref (s.2.2.2.2.2.2.2.2.2.1.2.2.1 1), .ref (s.2.2.2.2.2.2.2.2.2.1.2.2.1 2), .ref (s.2.2.2.2.2.2.2.2.2.1.2.2.1 3), .ref (s.2.2.2.2.2.2.2.2.2.1.2.2.1 4), .ref (s.2.2.2.2.2.2.2.2.2.1.2.2.1 5), .ref (s.2.2.2.2.2.2.2.2.2.1.2.2.1 6), .int 0, .int 0, .int 99, .int 0, .ref (s.2.2.2.2.2.2.2.2.2.1.2.2.1 7), .ref (s.2.2.2.2.2.2.2.2.2.1.2.2.1 8), .ref (s.2.2.2.2.2.2.2.2.2.1.2.2.1 9), .int 0, .ref (s.2.2.2.2.2.2.2.2.2.1.2.2.1 10)])), (s.2.2.2.2.2.2.2.2.2.1.2.2.1 1, .inl (cA 10, 10, .inl (fun _ => 0))), (s.2.2.2.2.2.2.2.2.2.1.2.2.1 2, .inl (cA 10, 10, .inl (fun _ => 0))), (s.2.2.2.2.2.2.2.2.2.1.2.2.1 3, .inl (cA 10, 10, .inl (fun _ => 0))), (s.2.2.2.2.2.2.2.2.2.1.2.2.1 4, .inl (cA 10, 10, .inl (fun _ => 0))), (s.2.2.2.2.2.2.2.2.2.1.2.2.1 5, .inl (cA 10, 4, .inl (fun _ => 0))), (s.2.2.2.2.2.2.2.2.2.1.2.2.1 6, .inl (cA 10, 4, .inl (fun _ => 0))), (s.2.2.2.2.2.2.2.2.2.1.2.2.1 7, .inl (cA 10, 80, .inl (fun _ => 0))), (s.2.2.2.2.2.2.2.2.2.1.2.2.1 8, .inl (cA 10, 80, .inl (fun _ => 0))), (s.2.2.2.2.2.2.2.2.2.1.2.2.1 9, .inl (cA 10, 80, .inl (fun _ => 0))), (s.2.2.2.2.2.2.2.2.2.1.2.2.1 10, .inl (cA 10, 200, .inl (fun _ => 0))), (s.2.2.2.2.2.2.2.2.2.1.2.2.2.1, .inr (6, [.int 0, .int 0, .int (-2), .int 0, .int 0, .int 0, .int 0, .int 0, .int 0, .int 0, .int 99, .ref (s.2.2.2.2.2.2.2.2.2.1.2.2.2.2 1)])), (s.2.2.2.2.2.2.2.2.2.1.2.2.2.2 1, .inl (cA 10, 10, .inl (fun _ => 0))), (s.2.2.2.2.2.2.2.2.2.2.1, .inr (5, [.int 0, .int 0, .int 0, .ref (s.2.2.2.2.2.2.2.2.2.2.2.1 1), .ref (s.2.2.2.2.2.2.2.2.2.2.2.1 2), .int 0, .ref (s.2.2.2.2.2.2.2.2.2.2.2.1 3), .ref (s.2.2.2.2.2.2.2.2.2.2.2.1 4), .ref (s.2.2.2.2.2.2.2.2.2.2.2.1 5)])), (s.2.2.2.2.2.2.2.2.2.2.2.1 1, .inl (cA 10, 10, .inl (fun _ => 0))), (s.2.2.2.2.2.2.2.2.2.2.2.1 2, .inl (cA 10, 10, .inl (fun _ => 0))), (s.2.2.2.2.2.2.2.2.2.2.2.1 3, .inl (cA 12, 1024, .inl (fun _ => 0))), (s.2.2.2.2.2.2.2.2.2.2.2.1 4, .inl (cA 10, 1024, .inl (fun _ => 0))), (s.2.2.2.2.2.2.2.2.2.2.2.1 5, .inl (cA 10, 1024, .inl (fun _ => 0))), (s.2.2.2.2.2.2.2.2.2.2.2.2.1, .inr (2, [.ref (s.2.2.2.2.2.2.2.2.2.2.2.2.2.1 1), .ref (s.2.2.2.2.2.2.2.2.2.2.2.2.2.1 2), .ref (s.2.2.2.2.2.2.2.2.2.2.2.2.2.1 3), .ref (s.2.2.2.2.2.2.2.2.2.2.2.2.2.1 4), .ref (s.2.2.2.2.2.2.2.2.2.2.2.2.2.1 5), .ref (s.2.2.2.2.2.2.2.2.2.2.2.2.2.1 6), .ref (s.2.2.2.2.2.2.2.2.2.2.2.2.2.1 7), .int 0, .int 0, .int 0, .int 0, .int 0, .int 0, .int 0, .int 0, .int 0, .int 0, .int 0])), (s.2.2.2.2.2.2.2.2.2.2.2.2.2.1 1, .inl (cA 10, 10, .inl (fun _ => 0))), (s.2.2.2.2.2.2.2.2.2.2.2.2.2.1 2, .inl (cA 10, 10, .inl (fun _ => 0))), (s.2.2.2.2.2.2.2.2.2.2.2.2.2.1 3, .inl (cA 10, 10, .inl (fun _ => 0))), (s.2.2.2.2.2.2.2.2.2.2.2.2.2.1 4, .inl (cA 10, 10, .inl (fun _ => 0))), (s.2.2.2.2.2.2.2.2.2.2.2.2.2.1 5, .inl (cA 10, 10, .inl (fun _ => 0))), (s.2.2.2.2.2.2.2.2.2.2.2.2.2.1 6, .inl (cA 10, 10, .inl (fun _ => 0))), (s.2.2.2.2.2.2.2.2.2.2.2.2.2.1 7, .inl (cA 10, 90, .inl (fun _ => 0))), (s.2.2.2.2.2.2.2.2.2.2.2.2.2.2.1, .inr (4, [.int 0, .int 0, .int 0, .int 0, .ref (s.2.2.2.2.2.2.2.2.2.2.2.2.2.2.2.1 1), .ref (s.2.2.2.2.2.2.2.2.2.2.2.2.2.2.2.1 2), .ref (s.2.2.2.2.2.2.2.2.2.2.2.2.2.2.2.1 3)])), (s.2.2.2.2.2.2.2.2.2.2.2.2.2.2.2.1 1, .inl (cA 10, 1024, .inl (fun _ => 0))), (s.2.2.2.2.2.2.2.2.2.2.2.2.2.2.2.1 2, .inl (cA 10, 1024, .inl (fun _ => 0))), (s.2.2.2.2.2.2.2.2.2.2.2.2.2.2.2.1 3, .inl (cA 10, 10, .inl (fun _ => 0))), (s.2.2.2.2.2.2.2.2.2.2.2.2.2.2.2.2.1, .inr (1, [.ref (s.2.2.2.2.2.2.2.2.2.2.2.2.2.2.2.2.2 1), .int 0])), (s.2.2.2.2.2.2.2.2.2.2.2.2.2.2.2.2.2 1, .inl (cA 11, 1024, .inl (fun _ => 0))), (r, .inr (9, [.int 0, .ref (v 1), .ref (v 2), .ref (v 3), .int 0, .ref (v 4), .int 0, .int 0, .int 0, .int 0, .int 0, .int 0, .int 0, .ref (v 5), .ref (v 6), .ref (v 7), .int 0, .int 0, .int 0, .ref (v 8), .int 0, .int 0, .int 0, .int 0, .int 0, .int 0, .ref (v 9), .ref (v 10), .int 0, .int 0, .ref (v 11), .ref (v 12), .ref (v 13), .ref (v 14), .ref (v 15), .ref (v 16), .int 0])), (v 1, .inl (cA 10, 73, .inl (yk_now))), (v 2, .inl (cA 10, 73, .inl (fun _ => 0))), (v 3, .inl (cA 10, 876, .inl (fun _ => 0))), (v 4, .inl (cA 10, 400, .inl (fun _ => 0))), (v 5, .inl (cA 10, 140, .inl (fun _ => 0))), (v 6, .inl (cA 10, 140, .inl (fun _ => 0))), (v 7, .inl (cA 10, 1120, .inl (fun _ => 0))), (v 8, .inl (cA 10, 10, .inl (fun _ => 0))), (v 9, .inl (cA 10, 10, .inl (fun _ => 0))), (v 10, .inl (cA 10, 90, .inl (fun _ => 0))), (v 11, .inl (cA 10, 10, .inl (fun _ => 0))), (v 12, .inl (cA 10, 10, .inl (fun _ => 0))), (v 13, .inl (cA 10, 10, .inl (fun _ => 0))), (v 14, .inl (cA 10, 10, .inl (fun _ => 0))), (v 15, .inl (cA 10, 10240, .inl (fun _ => 0))), (v 16, .inl (cA 10, 2000, .inl (fun _ => 0)))]
set_option maxHeartbeats 40000000 in
set_option maxRecDepth 100000 in
theorem yLst1 (cA : Nat → ClassId) (q r : Nat) (s : YS) (v : Nat → Nat) : yp_ClassOfMany cA q s ++ yp_Model cA r v = yLst cA q r s v := by rfl
theorem yrange {α : Type} (g : Nat → α) : (List.range 94).map g = [g 0, g 1, g 2, g 3, g 4, g 5, g 6, g 7, g 8, g 9, g 10, g 11, g 12, g 13, g 14, g 15, g 16, g 17, g 18, g 19, g 20, g 21, g 22, g 23, g 24, g 25, g 26, g 27, g 28, g 29, g 30, g 31, g 32, g 33, g 34, g 35, g 36, g 37, g 38, g 39, g 40, g 41, g 42, g 43, g 44, g 45, g 46, g 47, g 48, g 49, g 50, g 51, g 52, g 53, g 54, g 55, g 56, g 57, g 58, g 59, g 60, g 61, g 62, g 63, g 64, g 65, g 66, g 67, g 68, g 69, g 70, g 71, g 72, g 73, g 74, g 75, g 76, g 77, g 78, g 79, g 80, g 81, g 82, g 83, g 84, g 85, g 86, g 87, g 88, g 89, g 90, g 91, g 92, g 93] := by rfl
set_option maxRecDepth 100000 in
theorem ye_0 (cA : Nat → ClassId) (q r : Nat) (s : YS) (v sk sv : Nat → Nat) : (zadF q r s v sk sv 0, zcE (zadF q r s v sk sv) cA zM0 0) = (q, .inr (8, [.ref (s.1), .ref (s.2.2.1), .ref (s.2.2.2.2.1), .ref (s.2.2.2.2.2.2.1), .ref (s.2.2.2.2.2.2.2.2.1), .ref (s.2.2.2.2.2.2.2.2.2.2.1), .ref (s.2.2.2.2.2.2.2.2.2.2.2.2.1), .ref (s.2.2.2.2.2.2.2.2.2.2.2.2.2.2.1), .ref (s.2.2.2.2.2.2.2.2.2.2.2.2.2.2.2.2.1)])) := by rfl
set_option maxRecDepth 100000 in
theorem ye_1 (cA : Nat → ClassId) (q r : Nat) (s : YS) (v sk sv : Nat → Nat) : (zadF q r s v sk sv 1, zcE (zadF q r s v sk sv) cA zM0 1) = (s.1, .inr (7, [.int 0, .int 0, .ref (s.2.1 1), .ref (s.2.1 2), .ref (s.2.1 3), .ref (s.2.1 4), .ref (s.2.1 5), .ref (s.2.1 6), .int 0, .int 0, .int 99, .int 0, .ref (s.2.1 7), .ref (s.2.1 8), .ref (s.2.1 9), .int 0, .ref (s.2.1 10)])) := by rfl
set_option maxRecDepth 100000 in
theorem ye_2 (cA : Nat → ClassId) (q r : Nat) (s : YS) (v sk sv : Nat → Nat) : (zadF q r s v sk sv 2, zcE (zadF q r s v sk sv) cA zM0 2) = (s.2.1 1, .inl (cA 10, 10, .inl (fun _ => 0))) := by rfl
set_option maxRecDepth 100000 in
theorem ye_3 (cA : Nat → ClassId) (q r : Nat) (s : YS) (v sk sv : Nat → Nat) : (zadF q r s v sk sv 3, zcE (zadF q r s v sk sv) cA zM0 3) = (s.2.1 2, .inl (cA 10, 10, .inl (fun _ => 0))) := by rfl
set_option maxRecDepth 100000 in
theorem ye_4 (cA : Nat → ClassId) (q r : Nat) (s : YS) (v sk sv : Nat → Nat) : (zadF q r s v sk sv 4, zcE (zadF q r s v sk sv) cA zM0 4) = (s.2.1 3, .inl (cA 10, 10, .inl (fun _ => 0))) := by rfl
set_option maxRecDepth 100000 in
theorem ye_5 (cA : Nat → ClassId) (q r : Nat) (s : YS) (v sk sv : Nat → Nat) : (zadF q r s v sk sv 5, zcE (zadF q r s v sk sv) cA zM0 5) = (s.2.1 4, .inl (cA 10, 10, .inl (fun _ => 0))) := by rfl
set_option maxRecDepth 100000 in
theorem ye_6 (cA : Nat → ClassId) (q r : Nat) (s : YS) (v sk sv : Nat → Nat) : (zadF q r s v sk sv 6, zcE (zadF q r s v sk sv) cA zM0 6) = (s.2.1 5, .inl (cA 10, 4, .inl (fun _ => 0))) := by rfl
set_option maxRecDepth 100000 in
theorem ye_7 (cA : Nat → ClassId) (q r : Nat) (s : YS) (v sk sv : Nat → Nat) : (zadF q r s v sk sv 7, zcE (zadF q r s v sk sv) cA zM0 7) = (s.2.1 6, .inl (cA 10, 4, .inl (fun _ => 0))) := by rfl
set_option maxRecDepth 100000 in
theorem ye_8 (cA : Nat → ClassId) (q r : Nat) (s : YS) (v sk sv : Nat → Nat) : (zadF q r s v sk sv 8, zcE (zadF q r s v sk sv) cA zM0 8) = (s.2.1 7, .inl (cA 10, 80, .inl (fun _ => 0))) := by rfl
set_option maxRecDepth 100000 in
theorem ye_9 (cA : Nat → ClassId) (q r : Nat) (s : YS) (v sk sv : Nat → Nat) : (zadF q r s v sk sv 9, zcE (zadF q r s v sk sv) cA zM0 9) = (s.2.1 8, .inl (cA 10, 80, .inl (fun _ => 0))) := by rfl
set_option maxRecDepth 100000 in
theorem ye_10 (cA : Nat → ClassId) (q r : Nat) (s : YS) (v sk sv : Nat → Nat) : (zadF q r s v sk sv 10, zcE (zadF q r s v sk sv) cA zM0 10) = (s.2.1 9, .inl (cA 10, 80, .inl (fun _ => 0))) := by rfl
set_option maxRecDepth 100000 in
theorem ye_11 (cA : Nat → ClassId) (q r : Nat) (s : YS) (v sk sv : Nat → Nat) : (zadF q r s v sk sv 11, zcE (zadF q r s v sk sv) cA zM0 11) = (s.2.1 10, .inl (cA 10, 200, .inl (fun _ => 0))) := by rfl
set_option maxRecDepth 100000 in
theorem ye_12 (cA : Nat → ClassId) (q r : Nat) (s : YS) (v sk sv : Nat → Nat) : (zadF q r s v sk sv 12, zcE (zadF q r s v sk sv) cA zM0 12) = (s.2.2.1, .inr (6, [.int 0, .int 0, .int (-2), .int 0, .int 0, .int 0, .int 0, .int 0, .int 0, .int 0, .int 99, .ref (s.2.2.2.1 1)])) := by rfl
set_option maxRecDepth 100000 in
theorem ye_13 (cA : Nat → ClassId) (q r : Nat) (s : YS) (v sk sv : Nat → Nat) : (zadF q r s v sk sv 13, zcE (zadF q r s v sk sv) cA zM0 13) = (s.2.2.2.1 1, .inl (cA 10, 10, .inl (fun _ => 0))) := by rfl
set_option maxRecDepth 100000 in
theorem ye_14 (cA : Nat → ClassId) (q r : Nat) (s : YS) (v sk sv : Nat → Nat) : (zadF q r s v sk sv 14, zcE (zadF q r s v sk sv) cA zM0 14) = (s.2.2.2.2.1, .inr (6, [.int 0, .int 0, .int (-2), .int 0, .int 0, .int 0, .int 0, .int 0, .int 0, .int 0, .int 99, .ref (s.2.2.2.2.2.1 1)])) := by rfl
set_option maxRecDepth 100000 in
theorem ye_15 (cA : Nat → ClassId) (q r : Nat) (s : YS) (v sk sv : Nat → Nat) : (zadF q r s v sk sv 15, zcE (zadF q r s v sk sv) cA zM0 15) = (s.2.2.2.2.2.1 1, .inl (cA 10, 10, .inl (fun _ => 0))) := by rfl
set_option maxRecDepth 100000 in
theorem ye_16 (cA : Nat → ClassId) (q r : Nat) (s : YS) (v sk sv : Nat → Nat) : (zadF q r s v sk sv 16, zcE (zadF q r s v sk sv) cA zM0 16) = (s.2.2.2.2.2.2.1, .inr (0, [.ref (s.2.2.2.2.2.2.2.1 1), .int 0, .int 0])) := by rfl
set_option maxRecDepth 100000 in
theorem ye_18 (cA : Nat → ClassId) (q r : Nat) (s : YS) (v sk sv : Nat → Nat) : (zadF q r s v sk sv 18, zcE (zadF q r s v sk sv) cA zM0 18) = (s.2.2.2.2.2.2.2.1 2, .inr (6, [.int 0, .int 0, .int (-2), .int 0, .int 0, .int 0, .int 0, .int 0, .int 0, .int 0, .int 99, .ref (s.2.2.2.2.2.2.2.1 3)])) := by rfl
set_option maxRecDepth 100000 in
theorem ye_19 (cA : Nat → ClassId) (q r : Nat) (s : YS) (v sk sv : Nat → Nat) : (zadF q r s v sk sv 19, zcE (zadF q r s v sk sv) cA zM0 19) = (s.2.2.2.2.2.2.2.1 3, .inl (cA 10, 10, .inl (fun _ => 0))) := by rfl
set_option maxRecDepth 100000 in
theorem ye_20 (cA : Nat → ClassId) (q r : Nat) (s : YS) (v sk sv : Nat → Nat) : (zadF q r s v sk sv 20, zcE (zadF q r s v sk sv) cA zM0 20) = (s.2.2.2.2.2.2.2.1 4, .inr (6, [.int 0, .int 0, .int (-2), .int 0, .int 0, .int 0, .int 0, .int 0, .int 0, .int 0, .int 99, .ref (s.2.2.2.2.2.2.2.1 5)])) := by rfl
set_option maxRecDepth 100000 in
theorem ye_21 (cA : Nat → ClassId) (q r : Nat) (s : YS) (v sk sv : Nat → Nat) : (zadF q r s v sk sv 21, zcE (zadF q r s v sk sv) cA zM0 21) = (s.2.2.2.2.2.2.2.1 5, .inl (cA 10, 10, .inl (fun _ => 0))) := by rfl
set_option maxRecDepth 100000 in
theorem ye_22 (cA : Nat → ClassId) (q r : Nat) (s : YS) (v sk sv : Nat → Nat) : (zadF q r s v sk sv 22, zcE (zadF q r s v sk sv) cA zM0 22) = (s.2.2.2.2.2.2.2.1 6, .inr (6, [.int 0, .int 0, .int (-2), .int 0, .int 0, .int 0, .int 0, .int 0, .int 0, .int 0, .int 99, .ref (s.2.2.2.2.2.2.2.1 7)])) := by rfl
set_option maxRecDepth 100000 in
theorem ye_23 (cA : Nat → ClassId) (q r : Nat) (s : YS) (v sk sv : Nat → Nat) : (zadF q r s v sk sv 23, zcE (zadF q r s v sk sv) cA zM0 23) = (s.2.2.2.2.2.2.2.1 7, .inl (cA 10, 10, .inl (fun _ => 0))) := by rfl
set_option maxRecDepth 100000 in
theorem ye_24 (cA : Nat → ClassId) (q r : Nat) (s : YS) (v sk sv : Nat → Nat) : (zadF q r s v sk sv 24, zcE (zadF q r s v sk sv) cA zM0 24) = (s.2.2.2.2.2.2.2.1 8, .inr (6, [.int 0, .int 0, .int (-2), .int 0, .int 0, .int 0, .int 0, .int 0, .int 0, .int 0, .int 99, .ref (s.2.2.2.2.2.2.2.1 9)])) := by rfl
set_option maxRecDepth 100000 in
theorem ye_25 (cA : Nat → ClassId) (q r : Nat) (s : YS) (v sk sv : Nat → Nat) : (zadF q r s v sk sv 25, zcE (zadF q r s v sk sv) cA zM0 25) = (s.2.2.2.2.2.2.2.1 9, .inl (cA 10, 10, .inl (fun _ => 0))) := by rfl
set_option maxRecDepth 100000 in
theorem ye_26 (cA : Nat → ClassId) (q r : Nat) (s : YS) (v sk sv : Nat → Nat) : (zadF q r s v sk sv 26, zcE (zadF q r s v sk sv) cA zM0 26) = (s.2.2.2.2.2.2.2.1 10, .inr (6, [.int 0, .int 0, .int (-2), .int 0, .int 0, .int 0, .int 0, .int 0, .int 0, .int 0, .int 99, .ref (s.2.2.2.2.2.2.2.1 11)])) := by rfl
set_option maxRecDepth 100000 in
theorem ye_27 (cA : Nat → ClassId) (q r : Nat) (s : YS) (v sk sv : Nat → Nat) : (zadF q r s v sk sv 27, zcE (zadF q r s v sk sv) cA zM0 27) = (s.2.2.2.2.2.2.2.1 11, .inl (cA 10, 10, .inl (fun _ => 0))) := by rfl
set_option maxRecDepth 100000 in
theorem ye_28 (cA : Nat → ClassId) (q r : Nat) (s : YS) (v sk sv : Nat → Nat) : (zadF q r s v sk sv 28, zcE (zadF q r s v sk sv) cA zM0 28) = (s.2.2.2.2.2.2.2.1 12, .inr (6, [.int 0, .int 0, .int (-2), .int 0, .int 0, .int 0, .int 0, .int 0, .int 0, .int 0, .int 99, .ref (s.2.2.2.2.2.2.2.1 13)])) := by rfl
set_option maxRecDepth 100000 in
theorem ye_29 (cA : Nat → ClassId) (q r : Nat) (s : YS) (v sk sv : Nat → Nat) : (zadF q r s v sk sv 29, zcE (zadF q r s v sk sv) cA zM0 29) = (s.2.2.2.2.2.2.2.1 13, .inl (cA 10, 10, .inl (fun _ => 0))) := by rfl
set_option maxRecDepth 100000 in
theorem ye_30 (cA : Nat → ClassId) (q r : Nat) (s : YS) (v sk sv : Nat → Nat) : (zadF q r s v sk sv 30, zcE (zadF q r s v sk sv) cA zM0 30) = (s.2.2.2.2.2.2.2.1 14, .inr (6, [.int 0, .int 0, .int (-2), .int 0, .int 0, .int 0, .int 0, .int 0, .int 0, .int 0, .int 99, .ref (s.2.2.2.2.2.2.2.1 15)])) := by rfl
set_option maxRecDepth 100000 in
theorem ye_31 (cA : Nat → ClassId) (q r : Nat) (s : YS) (v sk sv : Nat → Nat) : (zadF q r s v sk sv 31, zcE (zadF q r s v sk sv) cA zM0 31) = (s.2.2.2.2.2.2.2.1 15, .inl (cA 10, 10, .inl (fun _ => 0))) := by rfl
set_option maxRecDepth 100000 in
theorem ye_32 (cA : Nat → ClassId) (q r : Nat) (s : YS) (v sk sv : Nat → Nat) : (zadF q r s v sk sv 32, zcE (zadF q r s v sk sv) cA zM0 32) = (s.2.2.2.2.2.2.2.1 16, .inr (6, [.int 0, .int 0, .int (-2), .int 0, .int 0, .int 0, .int 0, .int 0, .int 0, .int 0, .int 99, .ref (s.2.2.2.2.2.2.2.1 17)])) := by rfl
set_option maxRecDepth 100000 in
theorem ye_33 (cA : Nat → ClassId) (q r : Nat) (s : YS) (v sk sv : Nat → Nat) : (zadF q r s v sk sv 33, zcE (zadF q r s v sk sv) cA zM0 33) = (s.2.2.2.2.2.2.2.1 17, .inl (cA 10, 10, .inl (fun _ => 0))) := by rfl
set_option maxRecDepth 100000 in
theorem ye_34 (cA : Nat → ClassId) (q r : Nat) (s : YS) (v sk sv : Nat → Nat) : (zadF q r s v sk sv 34, zcE (zadF q r s v sk sv) cA zM0 34) = (s.2.2.2.2.2.2.2.1 18, .inr (6, [.int 0, .int 0, .int (-2), .int 0, .int 0, .int 0, .int 0, .int 0, .int 0, .int 0, .int 99, .ref (s.2.2.2.2.2.2.2.1 19)])) := by rfl
set_option maxRecDepth 100000 in
theorem ye_35 (cA : Nat → ClassId) (q r : Nat) (s : YS) (v sk sv : Nat → Nat) : (zadF q r s v sk sv 35, zcE (zadF q r s v sk sv) cA zM0 35) = (s.2.2.2.2.2.2.2.1 19, .inl (cA 10, 10, .inl (fun _ => 0))) := by rfl
set_option maxRecDepth 100000 in
theorem ye_36 (cA : Nat → ClassId) (q r : Nat) (s : YS) (v sk sv : Nat → Nat) : (zadF q r s v sk sv 36, zcE (zadF q r s v sk sv) cA zM0 36) = (s.2.2.2.2.2.2.2.1 20, .inr (6, [.int 0, .int 0, .int (-2), .int 0, .int 0, .int 0, .int 0, .int 0, .int 0, .int 0, .int 99, .ref (s.2.2.2.2.2.2.2.1 21)])) := by rfl
set_option maxRecDepth 100000 in
theorem ye_37 (cA : Nat → ClassId) (q r : Nat) (s : YS) (v sk sv : Nat → Nat) : (zadF q r s v sk sv 37, zcE (zadF q r s v sk sv) cA zM0 37) = (s.2.2.2.2.2.2.2.1 21, .inl (cA 10, 10, .inl (fun _ => 0))) := by rfl
set_option maxRecDepth 100000 in
theorem ye_38 (cA : Nat → ClassId) (q r : Nat) (s : YS) (v sk sv : Nat → Nat) : (zadF q r s v sk sv 38, zcE (zadF q r s v sk sv) cA zM0 38) = (s.2.2.2.2.2.2.2.1 22, .inr (6, [.int 0, .int 0, .int (-2), .int 0, .int 0, .int 0, .int 0, .int 0, .int 0, .int 0, .int 99, .ref (s.2.2.2.2.2.2.2.1 23)])) := by rfl
set_option maxRecDepth 100000 in
theorem ye_39 (cA : Nat → ClassId) (q r : Nat) (s : YS) (v sk sv : Nat → Nat) : (zadF q r s v sk sv 39, zcE (zadF q r s v sk sv) cA zM0 39) = (s.2.2.2.2.2.2.2.1 23, .inl (cA 10, 10, .inl (fun _ => 0))) := by rfl
set_option maxRecDepth 100000 in
theorem ye_40 (cA : Nat → ClassId) (q r : Nat) (s : YS) (v sk sv : Nat → Nat) : (zadF q r s v sk sv 40, zcE (zadF q r s v sk sv) cA zM0 40) = (s.2.2.2.2.2.2.2.1 24, .inr (6, [.int 0, .int 0, .int (-2), .int 0, .int 0, .int 0, .int 0, .int 0, .int 0, .int 0, .int 99, .ref (s.2.2.2.2.2.2.2.1 25)])) := by rfl
set_option maxRecDepth 100000 in
theorem ye_41 (cA : Nat → ClassId) (q r : Nat) (s : YS) (v sk sv : Nat → Nat) : (zadF q r s v sk sv 41, zcE (zadF q r s v sk sv) cA zM0 41) = (s.2.2.2.2.2.2.2.1 25, .inl (cA 10, 10, .inl (fun _ => 0))) := by rfl
set_option maxRecDepth 100000 in
theorem ye_42 (cA : Nat → ClassId) (q r : Nat) (s : YS) (v sk sv : Nat → Nat) : (zadF q r s v sk sv 42, zcE (zadF q r s v sk sv) cA zM0 42) = (s.2.2.2.2.2.2.2.2.1, .inr (3, [.ref (s.2.2.2.2.2.2.2.2.2.1.1), .int 0, .int 0, .int 0, .int 0, .int 0, .ref (s.2.2.2.2.2.2.2.2.2.1.2.1), .ref (s.2.2.2.2.2.2.2.2.2.1.2.2.2.1)])) := by rfl
set_option maxRecDepth 100000 in
theorem ye_43 (cA : Nat → ClassId) (q r : Nat) (s : YS) (v sk sv : Nat → Nat) : (zadF q r s v sk sv 43, zcE (zadF q r s v sk sv) cA zM0 43) = (s.2.2.2.2.2.2.2.2.2.1.1, .inl (cA 10, 400, .inl (fun _ => 0))) := by rfl
set_option maxRecDepth 100000 in
theorem ye_44 (cA : Nat → ClassId) (q r : Nat) (s : YS) (v sk sv : Nat → Nat) : (zadF q r s v sk sv 44, zcE (zadF q r s v sk sv) cA zM0 44) = (s.2.2.2.2.2.2.2.2.2.1.2.1, .inr (7, [.int 0, .int 0, .ref (s.2.2.2.2.2.2.2.2.2.1.2.2.1 1), .ref (s.2.2.2.2.2.2.2.2.2.1.2.2.1 2), .ref (s.2.2.2.2.2.2.2.2.2.1.2.2.1 3), .ref (s.2.2.2.2.2.2.2.2.2.1.2.2.1 4), .ref (s.2.2.2.2.2.2.2.2.2.1.2.2.1 5), .ref (s.2.2.2.2.2.2.2.2.2.1.2.2.1 6), .int 0, .int 0, .int 99, .int 0, .ref (s.2.2.2.2.2.2.2.2.2.1.2.2.1 7), .ref (s.2.2.2.2.2.2.2.2.2.1.2.2.1 8), .ref (s.2.2.2.2.2.2.2.2.2.1.2.2.1 9), .int 0, .ref (s.2.2.2.2.2.2.2.2.2.1.2.2.1 10)])) := by rfl
set_option maxRecDepth 100000 in
theorem ye_45 (cA : Nat → ClassId) (q r : Nat) (s : YS) (v sk sv : Nat → Nat) : (zadF q r s v sk sv 45, zcE (zadF q r s v sk sv) cA zM0 45) = (s.2.2.2.2.2.2.2.2.2.1.2.2.1 1, .inl (cA 10, 10, .inl (fun _ => 0))) := by rfl
set_option maxRecDepth 100000 in
theorem ye_46 (cA : Nat → ClassId) (q r : Nat) (s : YS) (v sk sv : Nat → Nat) : (zadF q r s v sk sv 46, zcE (zadF q r s v sk sv) cA zM0 46) = (s.2.2.2.2.2.2.2.2.2.1.2.2.1 2, .inl (cA 10, 10, .inl (fun _ => 0))) := by rfl
set_option maxRecDepth 100000 in
theorem ye_47 (cA : Nat → ClassId) (q r : Nat) (s : YS) (v sk sv : Nat → Nat) : (zadF q r s v sk sv 47, zcE (zadF q r s v sk sv) cA zM0 47) = (s.2.2.2.2.2.2.2.2.2.1.2.2.1 3, .inl (cA 10, 10, .inl (fun _ => 0))) := by rfl
set_option maxRecDepth 100000 in
theorem ye_48 (cA : Nat → ClassId) (q r : Nat) (s : YS) (v sk sv : Nat → Nat) : (zadF q r s v sk sv 48, zcE (zadF q r s v sk sv) cA zM0 48) = (s.2.2.2.2.2.2.2.2.2.1.2.2.1 4, .inl (cA 10, 10, .inl (fun _ => 0))) := by rfl
set_option maxRecDepth 100000 in
theorem ye_49 (cA : Nat → ClassId) (q r : Nat) (s : YS) (v sk sv : Nat → Nat) : (zadF q r s v sk sv 49, zcE (zadF q r s v sk sv) cA zM0 49) = (s.2.2.2.2.2.2.2.2.2.1.2.2.1 5, .inl (cA 10, 4, .inl (fun _ => 0))) := by rfl
set_option maxRecDepth 100000 in
theorem ye_50 (cA : Nat → ClassId) (q r : Nat) (s : YS) (v sk sv : Nat → Nat) : (zadF q r s v sk sv 50, zcE (zadF q r s v sk sv) cA zM0 50) = (s.2.2.2.2.2.2.2.2.2.1.2.2.1 6, .inl (cA 10, 4, .inl (fun _ => 0))) := by rfl
set_option maxRecDepth 100000 in
theorem ye_51 (cA : Nat → ClassId) (q r : Nat) (s : YS) (v sk sv : Nat → Nat) : (zadF q r s v sk sv 51, zcE (zadF q r s v sk sv) cA zM0 51) = (s.2.2.2.2.2.2.2.2.2.1.2.2.1 7, .inl (cA 10, 80, .inl (fun _ => 0))) := by rfl
set_option maxRecDepth 100000 in
theorem ye_52 (cA : Nat → ClassId) (q r : Nat) (s : YS) (v sk sv : Nat → Nat) : (zadF q r s v sk sv 52, zcE (zadF q r s v sk sv) cA zM0 52) = (s.2.2.2.2.2.2.2.2.2.1.2.2.1 8, .inl (cA 10, 80, .inl (fun _ => 0))) := by rfl
set_option maxRecDepth 100000 in
theorem ye_53 (cA : Nat → ClassId) (q r : Nat) (s : YS) (v sk sv : Nat → Nat) : (zadF q r s v sk sv 53, zcE (zadF q r s v sk sv) cA zM0 53) = (s.2.2.2.2.2.2.2.2.2.1.2.2.1 9, .inl (cA 10, 80, .inl (fun _ => 0))) := by rfl
set_option maxRecDepth 100000 in
theorem ye_54 (cA : Nat → ClassId) (q r : Nat) (s : YS) (v sk sv : Nat → Nat) : (zadF q r s v sk sv 54, zcE (zadF q r s v sk sv) cA zM0 54) = (s.2.2.2.2.2.2.2.2.2.1.2.2.1 10, .inl (cA 10, 200, .inl (fun _ => 0))) := by rfl
set_option maxRecDepth 100000 in
theorem ye_55 (cA : Nat → ClassId) (q r : Nat) (s : YS) (v sk sv : Nat → Nat) : (zadF q r s v sk sv 55, zcE (zadF q r s v sk sv) cA zM0 55) = (s.2.2.2.2.2.2.2.2.2.1.2.2.2.1, .inr (6, [.int 0, .int 0, .int (-2), .int 0, .int 0, .int 0, .int 0, .int 0, .int 0, .int 0, .int 99, .ref (s.2.2.2.2.2.2.2.2.2.1.2.2.2.2 1)])) := by rfl
set_option maxRecDepth 100000 in
theorem ye_56 (cA : Nat → ClassId) (q r : Nat) (s : YS) (v sk sv : Nat → Nat) : (zadF q r s v sk sv 56, zcE (zadF q r s v sk sv) cA zM0 56) = (s.2.2.2.2.2.2.2.2.2.1.2.2.2.2 1, .inl (cA 10, 10, .inl (fun _ => 0))) := by rfl
set_option maxRecDepth 100000 in
theorem ye_57 (cA : Nat → ClassId) (q r : Nat) (s : YS) (v sk sv : Nat → Nat) : (zadF q r s v sk sv 57, zcE (zadF q r s v sk sv) cA zM0 57) = (s.2.2.2.2.2.2.2.2.2.2.1, .inr (5, [.int 0, .int 0, .int 0, .ref (s.2.2.2.2.2.2.2.2.2.2.2.1 1), .ref (s.2.2.2.2.2.2.2.2.2.2.2.1 2), .int 0, .ref (s.2.2.2.2.2.2.2.2.2.2.2.1 3), .ref (s.2.2.2.2.2.2.2.2.2.2.2.1 4), .ref (s.2.2.2.2.2.2.2.2.2.2.2.1 5)])) := by rfl
set_option maxRecDepth 100000 in
theorem ye_58 (cA : Nat → ClassId) (q r : Nat) (s : YS) (v sk sv : Nat → Nat) : (zadF q r s v sk sv 58, zcE (zadF q r s v sk sv) cA zM0 58) = (s.2.2.2.2.2.2.2.2.2.2.2.1 1, .inl (cA 10, 10, .inl (fun _ => 0))) := by rfl
set_option maxRecDepth 100000 in
theorem ye_59 (cA : Nat → ClassId) (q r : Nat) (s : YS) (v sk sv : Nat → Nat) : (zadF q r s v sk sv 59, zcE (zadF q r s v sk sv) cA zM0 59) = (s.2.2.2.2.2.2.2.2.2.2.2.1 2, .inl (cA 10, 10, .inl (fun _ => 0))) := by rfl
set_option maxRecDepth 100000 in
theorem ye_60 (cA : Nat → ClassId) (q r : Nat) (s : YS) (v sk sv : Nat → Nat) : (zadF q r s v sk sv 60, zcE (zadF q r s v sk sv) cA zM0 60) = (s.2.2.2.2.2.2.2.2.2.2.2.1 3, .inl (cA 12, 1024, .inl (fun _ => 0))) := by rfl
set_option maxRecDepth 100000 in
theorem ye_61 (cA : Nat → ClassId) (q r : Nat) (s : YS) (v sk sv : Nat → Nat) : (zadF q r s v sk sv 61, zcE (zadF q r s v sk sv) cA zM0 61) = (s.2.2.2.2.2.2.2.2.2.2.2.1 4, .inl (cA 10, 1024, .inl (fun _ => 0))) := by rfl
set_option maxRecDepth 100000 in
theorem ye_62 (cA : Nat → ClassId) (q r : Nat) (s : YS) (v sk sv : Nat → Nat) : (zadF q r s v sk sv 62, zcE (zadF q r s v sk sv) cA zM0 62) = (s.2.2.2.2.2.2.2.2.2.2.2.1 5, .inl (cA 10, 1024, .inl (fun _ => 0))) := by rfl
set_option maxRecDepth 100000 in
theorem ye_63 (cA : Nat → ClassId) (q r : Nat) (s : YS) (v sk sv : Nat → Nat) : (zadF q r s v sk sv 63, zcE (zadF q r s v sk sv) cA zM0 63) = (s.2.2.2.2.2.2.2.2.2.2.2.2.1, .inr (2, [.ref (s.2.2.2.2.2.2.2.2.2.2.2.2.2.1 1), .ref (s.2.2.2.2.2.2.2.2.2.2.2.2.2.1 2), .ref (s.2.2.2.2.2.2.2.2.2.2.2.2.2.1 3), .ref (s.2.2.2.2.2.2.2.2.2.2.2.2.2.1 4), .ref (s.2.2.2.2.2.2.2.2.2.2.2.2.2.1 5), .ref (s.2.2.2.2.2.2.2.2.2.2.2.2.2.1 6), .ref (s.2.2.2.2.2.2.2.2.2.2.2.2.2.1 7), .int 0, .int 0, .int 0, .int 0, .int 0, .int 0, .int 0, .int 0, .int 0, .int 0, .int 0])) := by rfl
set_option maxRecDepth 100000 in
theorem ye_64 (cA : Nat → ClassId) (q r : Nat) (s : YS) (v sk sv : Nat → Nat) : (zadF q r s v sk sv 64, zcE (zadF q r s v sk sv) cA zM0 64) = (s.2.2.2.2.2.2.2.2.2.2.2.2.2.1 1, .inl (cA 10, 10, .inl (fun _ => 0))) := by rfl
set_option maxRecDepth 100000 in
theorem ye_65 (cA : Nat → ClassId) (q r : Nat) (s : YS) (v sk sv : Nat → Nat) : (zadF q r s v sk sv 65, zcE (zadF q r s v sk sv) cA zM0 65) = (s.2.2.2.2.2.2.2.2.2.2.2.2.2.1 2, .inl (cA 10, 10, .inl (fun _ => 0))) := by rfl
set_option maxRecDepth 100000 in
theorem ye_66 (cA : Nat → ClassId) (q r : Nat) (s : YS) (v sk sv : Nat → Nat) : (zadF q r s v sk sv 66, zcE (zadF q r s v sk sv) cA zM0 66) = (s.2.2.2.2.2.2.2.2.2.2.2.2.2.1 3, .inl (cA 10, 10, .inl (fun _ => 0))) := by rfl
set_option maxRecDepth 100000 in
theorem ye_67 (cA : Nat → ClassId) (q r : Nat) (s : YS) (v sk sv : Nat → Nat) : (zadF q r s v sk sv 67, zcE (zadF q r s v sk sv) cA zM0 67) = (s.2.2.2.2.2.2.2.2.2.2.2.2.2.1 4, .inl (cA 10, 10, .inl (fun _ => 0))) := by rfl
set_option maxRecDepth 100000 in
theorem ye_68 (cA : Nat → ClassId) (q r : Nat) (s : YS) (v sk sv : Nat → Nat) : (zadF q r s v sk sv 68, zcE (zadF q r s v sk sv) cA zM0 68) = (s.2.2.2.2.2.2.2.2.2.2.2.2.2.1 5, .inl (cA 10, 10, .inl (fun _ => 0))) := by rfl
set_option maxRecDepth 100000 in
theorem ye_69 (cA : Nat → ClassId) (q r : Nat) (s : YS) (v sk sv : Nat → Nat) : (zadF q r s v sk sv 69, zcE (zadF q r s v sk sv) cA zM0 69) = (s.2.2.2.2.2.2.2.2.2.2.2.2.2.1 6, .inl (cA 10, 10, .inl (fun _ => 0))) := by rfl
set_option maxRecDepth 100000 in
theorem ye_70 (cA : Nat → ClassId) (q r : Nat) (s : YS) (v sk sv : Nat → Nat) : (zadF q r s v sk sv 70, zcE (zadF q r s v sk sv) cA zM0 70) = (s.2.2.2.2.2.2.2.2.2.2.2.2.2.1 7, .inl (cA 10, 90, .inl (fun _ => 0))) := by rfl
set_option maxRecDepth 100000 in
theorem ye_71 (cA : Nat → ClassId) (q r : Nat) (s : YS) (v sk sv : Nat → Nat) : (zadF q r s v sk sv 71, zcE (zadF q r s v sk sv) cA zM0 71) = (s.2.2.2.2.2.2.2.2.2.2.2.2.2.2.1, .inr (4, [.int 0, .int 0, .int 0, .int 0, .ref (s.2.2.2.2.2.2.2.2.2.2.2.2.2.2.2.1 1), .ref (s.2.2.2.2.2.2.2.2.2.2.2.2.2.2.2.1 2), .ref (s.2.2.2.2.2.2.2.2.2.2.2.2.2.2.2.1 3)])) := by rfl
set_option maxRecDepth 100000 in
theorem ye_72 (cA : Nat → ClassId) (q r : Nat) (s : YS) (v sk sv : Nat → Nat) : (zadF q r s v sk sv 72, zcE (zadF q r s v sk sv) cA zM0 72) = (s.2.2.2.2.2.2.2.2.2.2.2.2.2.2.2.1 1, .inl (cA 10, 1024, .inl (fun _ => 0))) := by rfl
set_option maxRecDepth 100000 in
theorem ye_73 (cA : Nat → ClassId) (q r : Nat) (s : YS) (v sk sv : Nat → Nat) : (zadF q r s v sk sv 73, zcE (zadF q r s v sk sv) cA zM0 73) = (s.2.2.2.2.2.2.2.2.2.2.2.2.2.2.2.1 2, .inl (cA 10, 1024, .inl (fun _ => 0))) := by rfl
set_option maxRecDepth 100000 in
theorem ye_74 (cA : Nat → ClassId) (q r : Nat) (s : YS) (v sk sv : Nat → Nat) : (zadF q r s v sk sv 74, zcE (zadF q r s v sk sv) cA zM0 74) = (s.2.2.2.2.2.2.2.2.2.2.2.2.2.2.2.1 3, .inl (cA 10, 10, .inl (fun _ => 0))) := by rfl
set_option maxRecDepth 100000 in
theorem ye_75 (cA : Nat → ClassId) (q r : Nat) (s : YS) (v sk sv : Nat → Nat) : (zadF q r s v sk sv 75, zcE (zadF q r s v sk sv) cA zM0 75) = (s.2.2.2.2.2.2.2.2.2.2.2.2.2.2.2.2.1, .inr (1, [.ref (s.2.2.2.2.2.2.2.2.2.2.2.2.2.2.2.2.2 1), .int 0])) := by rfl
set_option maxRecDepth 100000 in
theorem ye_76 (cA : Nat → ClassId) (q r : Nat) (s : YS) (v sk sv : Nat → Nat) : (zadF q r s v sk sv 76, zcE (zadF q r s v sk sv) cA zM0 76) = (s.2.2.2.2.2.2.2.2.2.2.2.2.2.2.2.2.2 1, .inl (cA 11, 1024, .inl (fun _ => 0))) := by rfl
set_option maxRecDepth 100000 in
theorem ye_77 (cA : Nat → ClassId) (q r : Nat) (s : YS) (v sk sv : Nat → Nat) : (zadF q r s v sk sv 77, zcE (zadF q r s v sk sv) cA zM0 77) = (r, .inr (9, [.int 0, .ref (v 1), .ref (v 2), .ref (v 3), .int 0, .ref (v 4), .int 0, .int 0, .int 0, .int 0, .int 0, .int 0, .int 0, .ref (v 5), .ref (v 6), .ref (v 7), .int 0, .int 0, .int 0, .ref (v 8), .int 0, .int 0, .int 0, .int 0, .int 0, .int 0, .ref (v 9), .ref (v 10), .int 0, .int 0, .ref (v 11), .ref (v 12), .ref (v 13), .ref (v 14), .ref (v 15), .ref (v 16), .int 0])) := by rfl
set_option maxRecDepth 100000 in
theorem ye_78 (cA : Nat → ClassId) (q r : Nat) (s : YS) (v sk sv : Nat → Nat) : (zadF q r s v sk sv 78, zcE (zadF q r s v sk sv) cA zM0 78) = (v 1, .inl (cA 10, 73, .inl (yk_now))) := by rfl
set_option maxRecDepth 100000 in
theorem ye_79 (cA : Nat → ClassId) (q r : Nat) (s : YS) (v sk sv : Nat → Nat) : (zadF q r s v sk sv 79, zcE (zadF q r s v sk sv) cA zM0 79) = (v 2, .inl (cA 10, 73, .inl (fun _ => 0))) := by rfl
set_option maxRecDepth 100000 in
theorem ye_80 (cA : Nat → ClassId) (q r : Nat) (s : YS) (v sk sv : Nat → Nat) : (zadF q r s v sk sv 80, zcE (zadF q r s v sk sv) cA zM0 80) = (v 3, .inl (cA 10, 876, .inl (fun _ => 0))) := by rfl
set_option maxRecDepth 100000 in
theorem ye_81 (cA : Nat → ClassId) (q r : Nat) (s : YS) (v sk sv : Nat → Nat) : (zadF q r s v sk sv 81, zcE (zadF q r s v sk sv) cA zM0 81) = (v 4, .inl (cA 10, 400, .inl (fun _ => 0))) := by rfl
set_option maxRecDepth 100000 in
theorem ye_82 (cA : Nat → ClassId) (q r : Nat) (s : YS) (v sk sv : Nat → Nat) : (zadF q r s v sk sv 82, zcE (zadF q r s v sk sv) cA zM0 82) = (v 5, .inl (cA 10, 140, .inl (fun _ => 0))) := by rfl
set_option maxRecDepth 100000 in
theorem ye_83 (cA : Nat → ClassId) (q r : Nat) (s : YS) (v sk sv : Nat → Nat) : (zadF q r s v sk sv 83, zcE (zadF q r s v sk sv) cA zM0 83) = (v 6, .inl (cA 10, 140, .inl (fun _ => 0))) := by rfl
set_option maxRecDepth 100000 in
theorem ye_84 (cA : Nat → ClassId) (q r : Nat) (s : YS) (v sk sv : Nat → Nat) : (zadF q r s v sk sv 84, zcE (zadF q r s v sk sv) cA zM0 84) = (v 7, .inl (cA 10, 1120, .inl (fun _ => 0))) := by rfl
set_option maxRecDepth 100000 in
theorem ye_85 (cA : Nat → ClassId) (q r : Nat) (s : YS) (v sk sv : Nat → Nat) : (zadF q r s v sk sv 85, zcE (zadF q r s v sk sv) cA zM0 85) = (v 8, .inl (cA 10, 10, .inl (fun _ => 0))) := by rfl
set_option maxRecDepth 100000 in
theorem ye_86 (cA : Nat → ClassId) (q r : Nat) (s : YS) (v sk sv : Nat → Nat) : (zadF q r s v sk sv 86, zcE (zadF q r s v sk sv) cA zM0 86) = (v 9, .inl (cA 10, 10, .inl (fun _ => 0))) := by rfl
set_option maxRecDepth 100000 in
theorem ye_87 (cA : Nat → ClassId) (q r : Nat) (s : YS) (v sk sv : Nat → Nat) : (zadF q r s v sk sv 87, zcE (zadF q r s v sk sv) cA zM0 87) = (v 10, .inl (cA 10, 90, .inl (fun _ => 0))) := by rfl
set_option maxRecDepth 100000 in
theorem ye_88 (cA : Nat → ClassId) (q r : Nat) (s : YS) (v sk sv : Nat → Nat) : (zadF q r s v sk sv 88, zcE (zadF q r s v sk sv) cA zM0 88) = (v 11, .inl (cA 10, 10, .inl (fun _ => 0))) := by rfl
set_option maxRecDepth 100000 in
theorem ye_89 (cA : Nat → ClassId) (q r : Nat) (s : YS) (v sk sv : Nat → Nat) : (zadF q r s v sk sv 89, zcE (zadF q r s v sk sv) cA zM0 89) = (v 12, .inl (cA 10, 10, .inl (fun _ => 0))) := by rfl
set_option maxRecDepth 100000 in
theorem ye_90 (cA : Nat → ClassId) (q r : Nat) (s : YS) (v sk sv : Nat → Nat) : (zadF q r s v sk sv 90, zcE (zadF q r s v sk sv) cA zM0 90) = (v 13, .inl (cA 10, 10, .inl (fun _ => 0))) := by rfl
set_option maxRecDepth 100000 in
theorem ye_91 (cA : Nat → ClassId) (q r : Nat) (s : YS) (v sk sv : Nat → Nat) : (zadF q r s v sk sv 91, zcE (zadF q r s v sk sv) cA zM0 91) = (v 14, .inl (cA 10, 10, .inl (fun _ => 0))) := by rfl
set_option maxRecDepth 100000 in
theorem ye_92 (cA : Nat → ClassId) (q r : Nat) (s : YS) (v sk sv : Nat → Nat) : (zadF q r s v sk sv 92, zcE (zadF q r s v sk sv) cA zM0 92) = (v 15, .inl (cA 10, 10240, .inl (fun _ => 0))) := by rfl
set_option maxRecDepth 100000 in
theorem ye_93 (cA : Nat → ClassId) (q r : Nat) (s : YS) (v sk sv : Nat → Nat) : (zadF q r s v sk sv 93, zcE (zadF q r s v sk sv) cA zM0 93) = (v 16, .inl (cA 10, 2000, .inl (fun _ => 0))) := by rfl
set_option maxRecDepth 100000 in
theorem ye_17 (q r : Nat) (s : YS) (v sk sv : Nat → Nat) : zadF q r s v sk sv 17 = s.2.2.2.2.2.2.2.1 1 := by rfl
set_option maxHeartbeats 40000000 in
set_option maxRecDepth 100000 in
theorem zpic0 (cA : Nat → ClassId) (q r : Nat) (s : YS) (v sk sv : Nat → Nat) : yp_ClassOfMany cA q s ++ yp_Model cA r v = (zpic (zadF q r s v sk sv) cA zM0).set 17 (zadF q r s v sk sv 17, .inl (cA 13, 12, .inr (.inr (.inr (.inr (fun j => if j < 12 then some (s.2.2.2.2.2.2.2.1 (2 + 2 * j)) else none)))))) := by
  rw [yLst1]
  unfold zpic
  rw [show zn = 94 from rfl, yrange]
  rw [ye_0, ye_1, ye_2, ye_3, ye_4, ye_5, ye_6, ye_7, ye_8, ye_9, ye_10, ye_11, ye_12, ye_13, ye_14, ye_15, ye_16, ye_18, ye_19, ye_20, ye_21, ye_22, ye_23, ye_24, ye_25, ye_26, ye_27, ye_28, ye_29, ye_30, ye_31, ye_32, ye_33, ye_34, ye_35, ye_36, ye_37, ye_38, ye_39, ye_40, ye_41, ye_42, ye_43, ye_44, ye_45, ye_46, ye_47, ye_48, ye_49, ye_50, ye_51, ye_52, ye_53, ye_54, ye_55, ye_56, ye_57, ye_58, ye_59, ye_60, ye_61, ye_62, ye_63, ye_64, ye_65, ye_66, ye_67, ye_68, ye_69, ye_70, ye_71, ye_72, ye_73, ye_74, ye_75, ye_76, ye_77, ye_78, ye_79, ye_80, ye_81, ye_82, ye_83, ye_84, ye_85, ye_86, ye_87, ye_88, ye_89, ye_90, ye_91, ye_92, ye_93, ye_17]
  rfl
theorem ykept (q r : Nat) (s : YS) (v sk sv : Nat → Nat) : ∀ j, j < 12 → s.2.2.2.2.2.2.2.1 (2 + 2 * j) = zadF q r s v sk sv (17 + 1 + 2 * j) := by
  intro j hj
  match j, hj with
  | 0, _ => rfl
  | 1, _ => rfl
  | 2, _ => rfl
  | 3, _ => rfl
  | 4, _ => rfl
  | 5, _ => rfl
  | 6, _ => rfl
  | 7, _ => rfl
  | 8, _ => rfl
  | 9, _ => rfl
  | 10, _ => rfl
  | 11, _ => rfl
  | k + 12, h => exact absurd h (by omega)
set_option maxHeartbeats 4000000 in
set_option maxRecDepth 100000 in
theorem ybridge {p : Program} {l : Launch} {e : Env} {s : State} {m : MethodId} {below : List Frame} {meth : Method} {c : Code} {b L n : Nat} {xs : Nat → Int32} {D : va_G} {cA : Nat → ClassId} {sk sv v : Nat → Nat} {u : YS} {q r : Nat} (hf : zf_law n L xs zM0 = some 1) (C0 : lw_At p s m meth c b L xs) (hI : ZI D cA s) (hVS : vk_S 13 zLen zByt sk sv (fun q => s.heap.size ≤ q) s s.heap) (hVR : ∀ q ∈ zLdc, vk_R q.1 q.2.1 q.2.2.1 (sk q.2.2.2) s) : YW (p, l, e, room_1, s, m, #[Value.ref b], below, meth, c, lw_Z below #[Value.ref b] s, D, cA, (fun q => s.heap.size ≤ q), 4) 16 [(2, .ref r), (1, .ref q), (0, .ref b)] [] (yp_ClassOfMany cA q u ++ yp_Model cA r v) 94 23381 := by
  obtain ⟨hx, hb, hr, hml, hown, hts, hX, hbl, hlocks, hgv⟩ := C0
  intro H locs ls hP hD hS hl
  have had : ∀ i, i < 13 → zadF q r u v sk sv (1000 + i) = sk i := fun i hi => by
    unfold zadF
    rw [if_neg (by omega), if_pos (by omega), Nat.add_sub_cancel_left]
  have hav : ∀ i, i < 13 → zadF q r u v sk sv (2000 + i) = sv i := fun i hi => by
    unfold zadF
    rw [if_neg (by omega), if_neg (by omega), Nat.add_sub_cancel_left]
  rw [zpic0 cA q r u v sk sv] at hP hD
  have h77 : zadF q r u v sk sv 77 = r := rfl
  have h00 : zadF q r u v sk sv 0 = q := rfl
  have hkp := ykept q r u v sk sv
  generalize zadF q r u v sk sv = ad at hP hD had hav h77 h00 hkp
  generalize hX9 : (Sum.inl (cA 13, 12, Sum.inr (Sum.inr (Sum.inr (Sum.inr (fun j => if j < 12 then some (u.2.2.2.2.2.2.2.1 (2 + 2 * j)) else none))))) : va_E) = X9 at hP hD
  have hat : ∀ k, k < zn → ∃ e, ((zpic ad cA zM0).set 17 (ad 17, X9))[k]? = some (ad k, e) := by
    intro k hk
    by_cases h : k = 17
    · subst h
      exact ⟨X9, by rw [List.getElem?_set_self (by rw [zpic_len]; exact hk)]⟩
    · exact ⟨_, by rw [List.getElem?_set_ne (Ne.symm h), zpic_at hk]⟩
  have hge : ∀ k, k < zn → s.heap.size ≤ ad k := fun k hk => by
    obtain ⟨e, he⟩ := hat k hk
    exact hD.2 k _ he
  have hinj : ∀ i j, i < zn → j < zn → ad i = ad j → i = j := fun i j hi hj h => by
    obtain ⟨e, he⟩ := hat i hi
    obtain ⟨e', he'⟩ := hat j hj
    exact hD.1 i j _ _ he he' h
  have hP0 : va_P D vwCl (zpic ad cA zM0) H := by
    intro k z hk
    by_cases h : k = 17
    · subst h
      have h17 := hP 17 (ad 17, X9) (by rw [List.getElem?_set_self (by rw [zpic_len]; decide)])
      rw [zpic_at (by decide)] at hk
      have hz := Option.some.inj hk
      subst hz
      subst hX9
      rw [zcE_kept (show zk 17 = (13, 12) by decide +kernel)]
      refine h17.trans (congrArg some ?_)
      show arrV _ 12 _ = arrV _ 12 _
      unfold arrV
      congr 1
      apply congrArg
      funext j
      show va_rf (if j.val < 12 then some (u.2.2.2.2.2.2.2.1 (2 + 2 * j.val)) else none) = va_rf (some (ad (17 + 1 + 2 * j.val)))
      rw [if_pos j.isLt, hkp j.val j.isLt]
    · exact hP k z (by rw [List.getElem?_set_ne (Ne.symm h)]; exact hk)
  have hZA : ∀ q, ZA ad q → s.heap.size ≤ q := fun q ⟨k, hk, e⟩ => e ▸ hge k hk
  have hVS2 : vk_S zNs zLen zByt (fun i => ad (1000 + i)) (fun i => ad (2000 + i)) (fun q => s.heap.size ≤ q) s s.heap := by
    refine ⟨fun i hi => ?_, fun i j hi hj h => ?_⟩
    · have h1 := hVS.1 i hi
      show va_O _ (ad (1000 + i)) _ s s.heap ∧ va_OF _ _ _ _ (ad (1000 + i)) _ s s.heap ∧ va_OF _ _ _ (.ref (ad (2000 + i))) (ad (1000 + i)) _ s s.heap ∧ va_T _ (ad (2000 + i)) _ _ _ s s.heap
      rw [had i hi, hav i hi]
      exact h1
    · have h' : ad (1000 + i) = ad (1000 + j) := h
      rw [had i hi, had j hj] at h'
      exact hVS.2 i j hi hj h'
  have hs9 := flat_of_before _ hgv
  have hX2 : ZSx ad s s.heap := ⟨hI.2.1, hVS2.narrow hZA, fun z hz => by
      have h1 := hVR z hz
      have h2 : z.2.2.2 < 13 := (show ∀ z ∈ zLdc, z.2.2.2 < 13 by decide +kernel) z hz
      rw [had _ h2]
      exact h1, (va_Zof (hts _ yo_ls) (hts _ (zTw_in _ kw_1_12)) (va_eqi (hs9 _ yf_cs)) (fun a h => Nat.not_le.mpr h)).narrow hZA, ?_⟩
  · let E : ZEnv := (p, l, e, room_1, s, m, #[Value.ref b], below, meth, c, 94, 23381, lw_Z below #[Value.ref b] s, D, ad, cA, 4)
    have hC : ZCx E cL_law R_law 40 := ⟨hx, hb, hml, hown, fun w hw => hts w (zTw_in w hw), hI.1, hinj, hX2, Nat.le_of_ble_eq_true rfl, Nat.le_of_ble_eq_true rfl, Nat.le_of_ble_eq_true rfl, Nat.le_of_ble_eq_true rfl⟩
    have hXs : ZXs E b L xs := ⟨hX, hbl, fun h => absurd (hZA b h) (Nat.not_le.mpr hbl)⟩
    have hR : ∀ (pc : Nat) (lv : List (Nat × Value)) (M : ZMem), decode cL_law pc = .ok (.ireturn, 1) → ZW E pc lv [.int 1] M := by
      intro pc lv M hd H locs ls hP hS hl
      refine va_forget (fun q hq => hZA _ (hS.2.2 q hq)) ?_
      refine W.widen (k := 600000) (n := 7302250) (Nat.le_of_ble_eq_true rfl) (Nat.le_of_ble_eq_true rfl) ?_
      exact lw_ret hx hb hr hlocks hd
    have h16 := zc_law (E := E) rfl hC hXs hR hf
    refine va_forget (fun q hq => hS.2.2 q hq) ?_
    refine h16 H [] ls hP0 ⟨hS.1, fun q h1 h2 => hS.2.1 q h1 (Nat.not_le.mpr h1), fun _ h => by cases h⟩ ?_
    show lv_has ls 4 [(2, .ref (ad 77)), (1, .ref (ad 0)), (0, .ref b)]
    rw [h77, h00]
    exact hl
  · rcases va_Zqof (A := fun q => s.heap.size ≤ q) (hts _ yo_lf) (hts _ (zTw_in _ kw_1_14)) (hs9 _ yf_sf) (fun a h => Nat.not_le.mpr h) with z | ⟨t, z⟩
    · exact Or.inl (z.narrow hZA)
    · exact Or.inr ⟨t, z.narrow hZA⟩
set_option maxHeartbeats 4000000 in
set_option maxRecDepth 100000 in
/-- the law, from its entry, if its function answers 1 -/
theorem whole_open {p : Program} {e : Env} {s : State} {m : MethodId} {below : List Frame} {meth : Method} {c : Code} (l : Launch) {b L : Nat} {xs : Nat → Int32} (hpure : ∃ n, zf_law n L xs zM0 = some 1) (C0 : lw_At p s m meth c b L xs) : W p l e room_1 s m #[Value.ref b] below meth c s.heap [] 0 0 (lw_Z below #[Value.ref b] s) (entryFrame m ([Value.ref b] : List Value).toArray 4) := by
  obtain ⟨n, hf⟩ := hpure
  obtain ⟨hx, hb, hr, hml, hown, hts, hX, hbl, hlocks, hgv⟩ := id C0
  obtain ⟨D, cA, hK⟩ := yK hts
  obtain ⟨sk, sv, hVS, hVR⟩ := ystr hts hgv
  have hI : ZI D cA s := ⟨hK, fun q hq => va_Nw.of rfl (hts _ (yn_all q hq)), va_AO.of (hts _ yo_ao)⟩
  have hl := lv_entry ([Value.ref b]) (n := 4) (Nat.le_of_ble_eq_true rfl)
  rw [lg_entry_eq]
  have hC : YCx (p, l, e, room_1, s, m, #[Value.ref b], below, meth, c, lw_Z below #[Value.ref b] s, D, cA, (fun q => s.heap.size ≤ q), 4) cL_law R_law 40 94 23381 := ⟨hx, hb, hml, hown, fun w hw => hts w (zTw_in w hw), hI, fun _ h => h, Nat.le_of_ble_eq_true rfl, Nat.le_of_ble_eq_true rfl, Nat.le_of_ble_eq_true rfl, Nat.le_of_ble_eq_true rfl⟩
  have key : YW (p, l, e, room_1, s, m, #[Value.ref b], below, meth, c, lw_Z below #[Value.ref b] s, D, cA, (fun q => s.heap.size ≤ q), 4) 0 [(0, .ref b)] [] [] 0 0 := by
    refine yw_new hC (ci := 8) (N := 9) (T := TX9) (C := "ClassOfMany") (fs := [.null, .null, .null, .null, .null, .null, .null, .null, .null]) rfl tyX9 tyX9_ok (fun j hj => by match j, hj with | 0, _ => rfl | 1, _ => rfl | 2, _ => rfl | 3, _ => rfl | 4, _ => rfl | 5, _ => rfl | 6, _ => rfl | 7, _ => rfl | 8, _ => rfl | k + 9, h => exact absurd h (by omega)) kw_1_20 kw_1_21 kw_1_1 (Nat.le_of_ble_eq_true rfl) (Nat.le_of_ble_eq_true rfl) dL_law_0 (fun q => ?_)
    refine yw_dup hC dL_law_3 rfl ?_
    refine yw_callI hC (yc_ClassOfMany (h0 := q)) kw_1_24 kw_1_1 kw_1_22 kw_1_23 rfl (by decide +kernel) (by decide) (by decide) (Nat.le_of_ble_eq_true rfl) dL_law_4 (Nat.le_of_ble_eq_true rfl) (Nat.le_of_ble_eq_true rfl) (fun u => ?_)
    refine yw_astore_n hC (lv' := [(1, .ref q), (0, .ref b)]) dL_law_7 rfl rfl (by decide) rfl ?_
    refine yw_new hC (ci := 9) (N := 37) (T := TX10) (C := "ClassOfManyModel") (fs := [.int 0, .null, .null, .null, .int 0, .null, .int 0, .int 0, .int 0, .int 0, .int 0, .int 0, .int 0, .null, .null, .null, .int 0, .int 0, .int 0, .null, .int 0, .int 0, .int 0, .int 0, .int 0, .int 0, .null, .null, .int 0, .int 0, .null, .null, .null, .null, .null, .null, .int 0]) rfl tyX10 tyX10_ok (fun j hj => by match j, hj with | 0, _ => rfl | 1, _ => rfl | 2, _ => rfl | 3, _ => rfl | 4, _ => rfl | 5, _ => rfl | 6, _ => rfl | 7, _ => rfl | 8, _ => rfl | 9, _ => rfl | 10, _ => rfl | 11, _ => rfl | 12, _ => rfl | 13, _ => rfl | 14, _ => rfl | 15, _ => rfl | 16, _ => rfl | 17, _ => rfl | 18, _ => rfl | 19, _ => rfl | 20, _ => rfl | 21, _ => rfl | 22, _ => rfl | 23, _ => rfl | 24, _ => rfl | 25, _ => rfl | 26, _ => rfl | 27, _ => rfl | 28, _ => rfl | 29, _ => rfl | 30, _ => rfl | 31, _ => rfl | 32, _ => rfl | 33, _ => rfl | 34, _ => rfl | 35, _ => rfl | 36, _ => rfl | k + 37, h => exact absurd h (by omega)) kw_5_217 kw_5_218 kw_1_10 (Nat.le_of_ble_eq_true rfl) (Nat.le_of_ble_eq_true rfl) dL_law_8 (fun r => ?_)
    refine yw_dup hC dL_law_11 rfl ?_
    refine yw_callI hC (yc_Model (h0 := r)) kw_5_221 kw_1_10 kw_5_219 kw_5_220 rfl (by decide +kernel) (by decide) (by decide) (Nat.le_of_ble_eq_true rfl) dL_law_12 (Nat.le_of_ble_eq_true rfl) (Nat.le_of_ble_eq_true rfl) (fun v => ?_)
    refine yw_astore_n hC (lv' := [(2, .ref r), (1, .ref q), (0, .ref b)]) dL_law_15 rfl rfl (by decide) rfl ?_
    exact ybridge hf C0 hI hVS hVR
  exact key s.heap [] _ (fun k q h => by simp at h) ⟨fun i j p q h => by simp at h, fun k q h => by simp at h⟩ va_S.rf hl
