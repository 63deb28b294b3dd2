set_option maxRecDepth 20000 in
theorem kw_1_20 : Cond.classLink "ClassOfManyLaw" 7 "ClassOfMany" ∈ zTw := zt1 20 (by rfl) rfl
set_option maxRecDepth 20000 in
theorem kw_1_21 : Cond.instantiable "ClassOfMany" 9 ∈ zTw := zt1 21 (by rfl) rfl
set_option maxRecDepth 20000 in
theorem kw_1_22 : Cond.methodLink "ClassOfManyLaw" 9 ⟨"ClassOfMany", "<init>", "()V"⟩ ∈ zTw := zt1 22 (by rfl) rfl
set_option maxRecDepth 20000 in
theorem kw_1_23 : Cond.instanceMethod ⟨"ClassOfMany", "<init>", "()V"⟩ ∈ zTw := zt1 23 (by rfl) rfl
set_option maxRecDepth 20000 in
theorem kw_1_24 : Cond.code ⟨"ClassOfMany", "<init>", "()V"⟩ prog_1_method_1_code 1 none ∈ zTw := zt1 24 (by rfl) rfl
set_option maxRecDepth 20000 in
theorem kw_5_217 : Cond.classLink "ClassOfManyLaw" 10 "ClassOfManyModel" ∈ zTw := zt5 217 (by rfl) rfl
set_option maxRecDepth 20000 in
theorem kw_5_218 : Cond.instantiable "ClassOfManyModel" 37 ∈ zTw := zt5 218 (by rfl) rfl
set_option maxRecDepth 20000 in
theorem kw_5_219 : Cond.methodLink "ClassOfManyLaw" 12 ⟨"ClassOfManyModel", "<init>", "()V"⟩ ∈ zTw := zt5 219 (by rfl) rfl
set_option maxRecDepth 20000 in
theorem kw_5_220 : Cond.instanceMethod ⟨"ClassOfManyModel", "<init>", "()V"⟩ ∈ zTw := zt5 220 (by rfl) rfl
set_option maxRecDepth 20000 in
theorem kw_5_221 : Cond.code ⟨"ClassOfManyModel", "<init>", "()V"⟩ prog_12_method_1_code 1 none ∈ zTw := zt5 221 (by rfl) rfl
/-! FROM THE ENTRY TO THE PURE WORDS: the two constructors, then the law as a function -/
def zM0L : List (Nat → Int32) := [fun j => [1, 0, 0, 0, 0, 0, 0, 0, 0].getD j 0, fun j => [0, 0, 0, 0, 0, 0, 0, 0, 0, 0, 99, 0, 0, 0, 0, 0, 0].getD j 0, fun _ => 0, fun _ => 0, fun _ => 0, fun _ => 0, fun _ => 0, fun _ => 0, fun _ => 0, fun _ => 0, fun _ => 0, fun _ => 0, fun j => [0, 0, -2, 0, 0, 0, 0, 0, 0, 0, 99, 0].getD j 0, fun _ => 0, fun j => [0, 0, -2, 0, 0, 0, 0, 0, 0, 0, 99, 0].getD j 0, fun _ => 0, fun j => [0, 0, 0].getD j 0, fun _ => 0, fun j => [0, 0, -2, 0, 0, 0, 0, 0, 0, 0, 99, 0].getD j 0, fun _ => 0, fun j => [0, 0, -2, 0, 0, 0, 0, 0, 0, 0, 99, 0].getD j 0, fun _ => 0, fun j => [0, 0, -2, 0, 0, 0, 0, 0, 0, 0, 99, 0].getD j 0, fun _ => 0, fun j => [0, 0, -2, 0, 0, 0, 0, 0, 0, 0, 99, 0].getD j 0, fun _ => 0, fun j => [0, 0, -2, 0, 0, 0, 0, 0, 0, 0, 99, 0].getD j 0, fun _ => 0, fun j => [0, 0, -2, 0, 0, 0, 0, 0, 0, 0, 99, 0].getD j 0, fun _ => 0, fun j => [0, 0, -2, 0, 0, 0, 0, 0, 0, 0, 99, 0].getD j 0, fun _ => 0, fun j => [0, 0, -2, 0, 0, 0, 0, 0, 0, 0, 99, 0].getD j 0, fun _ => 0, fun j => [0, 0, -2, 0, 0, 0, 0, 0, 0, 0, 99, 0].getD j 0, fun _ => 0, fun j => [0, 0, -2, 0, 0, 0, 0, 0, 0, 0, 99, 0].getD j 0, fun _ => 0, fun j => [0, 0, -2, 0, 0, 0, 0, 0, 0, 0, 99, 0].getD j 0, fun _ => 0, fun j => [0, 0, -2, 0, 0, 0, 0, 0, 0, 0, 99, 0].getD j 0, fun _ => 0, fun j => [0, 0, 0, 0, 0, 0, 44, 0].getD j 0, fun _ => 0, fun j => [0, 0, 0, 0, 0, 0, 0, 0, 0, 0, 99, 0, 0, 0, 0, 0, 0].getD j 0, fun _ => 0, fun _ => 0, fun _ => 0, fun _ => 0, fun _ => 0, fun _ => 0, fun _ => 0, fun _ => 0, fun _ => 0, fun _ => 0, fun j => [0, 0, -2, 0, 0, 0, 0, 0, 0, 0, 99, 0].getD j 0, fun _ => 0, fun j => [0, 0, 0, 0, 0, 0, 0, 61, 62].getD j 0, fun _ => 0, fun _ => 0, fun _ => 0, fun _ => 0, fun _ => 0, fun j => [0, 0, 0, 0, 0, 0, 0, 0, 0, 0, 0, 0, 0, 0, 0, 0, 0, 0].getD j 0, fun _ => 0, fun _ => 0, fun _ => 0, fun _ => 0, fun _ => 0, fun _ => 0, fun _ => 0, fun j => [0, 0, 0, 0, 0, 0, 0].getD j 0, fun _ => 0, fun _ => 0, fun _ => 0, fun j => [0, 0].getD j 0, fun _ => 0, fun j => [0, 0, 0, 0, 0, 0, 0, 0, 0, 0, 0, 0, 0, 0, 0, 0, 0, 0, 0, 0, 0, 0, 0, 0, 0, 0, 0, 0, 0, 0, 0, 0, 0, 0, 0, 0, 0].getD j 0, yk_now, fun _ => 0, fun _ => 0, fun _ => 0, fun _ => 0, fun _ => 0, fun _ => 0, fun _ => 0, fun _ => 0, fun _ => 0, fun _ => 0, fun _ => 0, fun _ => 0, fun _ => 0, fun _ => 0, fun _ => 0]
def zM0 : ZMem := fun k => zM0L.getD k (fun _ => 0)
abbrev YS : Type := (Nat × (Nat → Nat) × Nat × (Nat → Nat) × Nat × (Nat → Nat) × Nat × (Nat → Nat) × Nat × (Nat × Nat × (Nat → Nat) × Nat × (Nat → Nat)) × Nat × (Nat → Nat) × Nat × (Nat → Nat) × Nat × (Nat → Nat) × Nat × (Nat → Nat))
def zadL (q r : Nat) (s : YS) (v : Nat → Nat) : List Nat := [q, s.1, s.2.1 1, s.2.1 2, s.2.1 3, s.2.1 4, s.2.1 5, s.2.1 6, s.2.1 7, s.2.1 8, s.2.1 9, s.2.1 10, s.2.2.1, s.2.2.2.1 1, s.2.2.2.2.1, s.2.2.2.2.2.1 1, s.2.2.2.2.2.2.1, s.2.2.2.2.2.2.2.1 1, s.2.2.2.2.2.2.2.1 2, s.2.2.2.2.2.2.2.1 3, s.2.2.2.2.2.2.2.1 4, s.2.2.2.2.2.2.2.1 5, s.2.2.2.2.2.2.2.1 6, s.2.2.2.2.2.2.2.1 7, s.2.2.2.2.2.2.2.1 8, s.2.2.2.2.2.2.2.1 9, s.2.2.2.2.2.2.2.1 10, s.2.2.2.2.2.2.2.1 11, s.2.2.2.2.2.2.2.1 12, s.2.2.2.2.2.2.2.1 13, s.2.2.2.2.2.2.2.1 14, s.2.2.2.2.2.2.2.1 15, s.2.2.2.2.2.2.2.1 16, s.2.2.2.2.2.2.2.1 17, s.2.2.2.2.2.2.2.1 18, s.2.2.2.2.2.2.2.1 19, s.2.2.2.2.2.2.2.1 20, s.2.2.2.2.2.2.2.1 21, s.2.2.2.2.2.2.2.1 22, s.2.2.2.2.2.2.2.1 23, s.2.2.2.2.2.2.2.1 24, s.2.2.2.2.2.2.2.1 25, s.2.2.2.2.2.2.2.2.1, s.2.2.2.2.2.2.2.2.2.1.1, s.2.2.2.2.2.2.2.2.2.1.2.1, s.2.2.2.2.2.2.2.2.2.1.2.2.1 1, s.2.2.2.2.2.2.2.2.2.1.2.2.1 2, s.2.2.2.2.2.2.2.2.2.1.2.2.1 3, s.2.2.2.2.2.2.2.2.2.1.2.2.1 4, s.2.2.2.2.2.2.2.2.2.1.2.2.1 5, s.2.2.2.2.2.2.2.2.2.1.2.2.1 6, s.2.2.2.2.2.2.2.2.2.1.2.2.1 7, s.2.2.2.2.2.2.2.2.2.1.2.2.1 8, s.2.2.2.2.2.2.2.2.2.1.2.2.1 9, s.2.2.2.2.2.2.2.2.2.1.2.2.1 10, s.2.2.2.2.2.2.2.2.2.1.2.2.2.1, s.2.2.2.2.2.2.2.2.2.1.2.2.2.2 1, s.2.2.2.2.2.2.2.2.2.2.1, s.2.2.2.2.2.2.2.2.2.2.2.1 1, s.2.2.2.2.2.2.2.2.2.2.2.1 2, s.2.2.2.2.2.2.2.2.2.2.2.1 3, s.2.2.2.2.2.2.2.2.2.2.2.1 4, s.2.2.2.2.2.2.2.2.2.2.2.1 5, s.2.2.2.2.2.2.2.2.2.2.2.2.1, s.2.2.2.2.2.2.2.2.2.2.2.2.2.1 1, s.2.2.2.2.2.2.2.2.2.2.2.2.2.1 2, s.2.2.2.2.2.2.2.2.2.2.2.2.2.1 3, s.2.2.2.2.2.2.2.2.2.2.2.2.2.1 4, s.2.2.2.2.2.2.2.2.2.2.2.2.2.1 5, s.2.2.2.2.2.2.2.2.2.2.2.2.2.1 6, s.2.2.2.2.2.2.2.2.2.2.2.2.2.1 7, s.2.2.2.2.2.2.2.2.2.2.2.2.2.2.1, s.2.2.2.2.2.2.2.2.2.2.2.2.2.2.2.1 1, s.2.2.2.2.2.2.2.2.2.2.2.2.2.2.2.1 2, s.2.2.2.2.2.2.2.2.2.2.2.2.2.2.2.1 3, s.2.2.2.2.2.2.2.2.2.2.2.2.2.2.2.2.1, s.2.2.2.2.2.2.2.2.2.2.2.2.2.2.2.2.2 1, r, v 1, v 2, v 3, v 4, v 5, v 6, v 7, v 8, v 9, v 10, v 11, v 12, v 13, v 14, v 15, v 16]
def zadF (q r : Nat) (s : YS) (v sk sv : Nat → Nat) : Nat → Nat := fun k => if k < 94 then (zadL q r s v).getD k 0 else if k < 2000 then sk (k - 1000) else sv (k - 2000)
set_option maxRecDepth 20000 in
theorem yn_1_30 : Cond.methodLinkNest "ClassOfMany" 11 ⟨"ClassOfMany$Told", "<init>", "()V"⟩ "ClassOfMany" ∈ lw_tbl := List.mem_append_right _ (List.mem_append_left _ (List.mem_of_getElem? (i := 30) (by rfl)))
set_option maxRecDepth 20000 in
theorem yn_1_128 : Cond.methodLinkNest "ClassOfMany" 18 ⟨"ClassOfMany$Standing", "<init>", "()V"⟩ "ClassOfMany" ∈ lw_tbl := List.mem_append_right _ (List.mem_append_left _ (List.mem_of_getElem? (i := 128) (by rfl)))
set_option maxRecDepth 20000 in
theorem yn_1_205 : Cond.methodLinkNest "ClassOfMany$Journal" 17 ⟨"ClassOfMany$Standing", "<init>", "()V"⟩ "ClassOfMany" ∈ lw_tbl := List.mem_append_right _ (List.mem_append_left _ (List.mem_of_getElem? (i := 205) (by rfl)))
set_option maxRecDepth 20000 in
theorem yn_1_219 : Cond.methodLinkNest "ClassOfMany" 35 ⟨"ClassOfMany$Reader", "<init>", "()V"⟩ "ClassOfMany" ∈ lw_tbl := List.mem_append_right _ (List.mem_append_left _ (List.mem_of_getElem? (i := 219) (by rfl)))
set_option maxRecDepth 20000 in
theorem yn_1_224 : Cond.methodLinkNest "ClassOfMany$Reader" 17 ⟨"ClassOfMany$Told", "<init>", "()V"⟩ "ClassOfMany" ∈ lw_tbl := List.mem_append_right _ (List.mem_append_left _ (List.mem_of_getElem? (i := 224) (by rfl)))
set_option maxRecDepth 20000 in
theorem yn_1_226 : Cond.methodLinkNest "ClassOfMany$Reader" 24 ⟨"ClassOfMany$Standing", "<init>", "()V"⟩ "ClassOfMany" ∈ lw_tbl := List.mem_append_right _ (List.mem_append_left _ (List.mem_of_getElem? (i := 226) (by rfl)))
set_option maxRecDepth 20000 in
theorem yn_2_17 : Cond.methodLinkNest "ClassOfMany" 42 ⟨"ClassOfMany$Splitter", "<init>", "()V"⟩ "ClassOfMany" ∈ lw_tbl := List.mem_append_right _ (List.mem_append_right _ (List.mem_append_left _ (List.mem_of_getElem? (i := 17) (by rfl))))
set_option maxRecDepth 20000 in
theorem yn_2_54 : Cond.methodLinkNest "ClassOfMany" 49 ⟨"ClassOfMany$Payer", "<init>", "()V"⟩ "ClassOfMany" ∈ lw_tbl := List.mem_append_right _ (List.mem_append_right _ (List.mem_append_left _ (List.mem_of_getElem? (i := 54) (by rfl))))
set_option maxRecDepth 20000 in
theorem yn_2_126 : Cond.methodLinkNest "ClassOfMany" 56 ⟨"ClassOfMany$Resting", "<init>", "()V"⟩ "ClassOfMany" ∈ lw_tbl := List.mem_append_right _ (List.mem_append_right _ (List.mem_append_left _ (List.mem_of_getElem? (i := 126) (by rfl))))
set_option maxRecDepth 20000 in
theorem yn_2_156 : Cond.methodLinkNest "ClassOfMany" 63 ⟨"ClassOfMany$Page", "<init>", "()V"⟩ "ClassOfMany" ∈ lw_tbl := List.mem_append_right _ (List.mem_append_right _ (List.mem_append_left _ (List.mem_of_getElem? (i := 156) (by rfl))))
set_option maxRecDepth 20000 in
theorem yn_3_11 : Cond.methodLinkNest "ClassOfMany$Reader" 114 ⟨"ClassOfMany", "wordOf", "(I)Ljava/lang/String;"⟩ "ClassOfMany" ∈ lw_tbl := List.mem_append_right _ (List.mem_append_right _ (List.mem_append_right _ (List.mem_append_left _ (List.mem_of_getElem? (i := 11) (by rfl)))))
set_option maxRecDepth 20000 in
theorem yn_3_78 : Cond.methodLinkNest "ClassOfMany$Reader" 129 ⟨"ClassOfMany", "has", "(II)Z"⟩ "ClassOfMany" ∈ lw_tbl := List.mem_append_right _ (List.mem_append_right _ (List.mem_append_right _ (List.mem_append_left _ (List.mem_of_getElem? (i := 78) (by rfl)))))
set_option maxRecDepth 20000 in
theorem yn_3_192 : Cond.methodLinkNest "ClassOfMany$Mail" 38 ⟨"ClassOfMany", "has", "(II)Z"⟩ "ClassOfMany" ∈ lw_tbl := List.mem_append_right _ (List.mem_append_right _ (List.mem_append_right _ (List.mem_append_left _ (List.mem_of_getElem? (i := 192) (by rfl)))))
set_option maxRecDepth 20000 in
theorem yn_4_105 : Cond.methodLinkNest "ClassOfMany$Splitter" 74 ⟨"ClassOfMany", "has", "(II)Z"⟩ "ClassOfMany" ∈ lw_tbl := List.mem_append_right _ (List.mem_append_right _ (List.mem_append_right _ (List.mem_append_right _ (List.mem_append_left _ (List.mem_of_getElem? (i := 105) (by rfl))))))
set_option maxRecDepth 20000 in
theorem yn_4_206 : Cond.methodLinkNest "ClassOfMany$Payer" 119 ⟨"ClassOfMany", "has", "(II)Z"⟩ "ClassOfMany" ∈ lw_tbl := List.mem_append_right _ (List.mem_append_right _ (List.mem_append_right _ (List.mem_append_right _ (List.mem_append_left _ (List.mem_of_getElem? (i := 206) (by rfl))))))
set_option maxRecDepth 20000 in
theorem yn_4_212 : Cond.methodLinkNest "ClassOfMany$Payer" 52 ⟨"ClassOfMany", "netOf", "(LClassOfMany$Told;II)I"⟩ "ClassOfMany" ∈ lw_tbl := List.mem_append_right _ (List.mem_append_right _ (List.mem_append_right _ (List.mem_append_right _ (List.mem_append_left _ (List.mem_of_getElem? (i := 212) (by rfl))))))
set_option maxRecDepth 20000 in
theorem yn_5_122 : Cond.methodLinkNest "ClassOfMany$Resting" 75 ⟨"ClassOfMany", "has", "(II)Z"⟩ "ClassOfMany" ∈ lw_tbl := List.mem_append_right _ (List.mem_append_right _ (List.mem_append_right _ (List.mem_append_right _ (List.mem_append_right _ (List.mem_append_left _ (List.mem_of_getElem? (i := 122) (by rfl)))))))
theorem yn_all : ∀ q ∈ zNest, Cond.methodLinkNest q.1 q.2.1 q.2.2 "ClassOfMany" ∈ lw_tbl := List.forall_mem_cons.mpr ⟨yn_1_30, List.forall_mem_cons.mpr ⟨yn_1_128, List.forall_mem_cons.mpr ⟨yn_1_205, List.forall_mem_cons.mpr ⟨yn_1_219, List.forall_mem_cons.mpr ⟨yn_1_224, List.forall_mem_cons.mpr ⟨yn_1_226, List.forall_mem_cons.mpr ⟨yn_2_17, List.forall_mem_cons.mpr ⟨yn_2_54, List.forall_mem_cons.mpr ⟨yn_2_126, List.forall_mem_cons.mpr ⟨yn_2_156, List.forall_mem_cons.mpr ⟨yn_3_11, List.forall_mem_cons.mpr ⟨yn_3_78, List.forall_mem_cons.mpr ⟨yn_3_192, List.forall_mem_cons.mpr ⟨yn_4_105, List.forall_mem_cons.mpr ⟨yn_4_206, List.forall_mem_cons.mpr ⟨yn_4_212, List.forall_mem_cons.mpr ⟨yn_5_122, fun _ h => absurd h List.not_mem_nil⟩⟩⟩⟩⟩⟩⟩⟩⟩⟩⟩⟩⟩⟩⟩⟩⟩
set_option maxRecDepth 20000 in
theorem yo_ao : Cond.arrayOver (.object "ClassOfMany$Standing") ∈ lw_tbl := List.mem_append_right _ (List.mem_append_left _ (List.mem_of_getElem? (i := 204) (by rfl)))
set_option maxRecDepth 20000 in
theorem yo_ls : Cond.laysStatic "java/lang/String" "COMPACT_STRINGS" "Z" ∈ lw_tbl := List.mem_append_right _ (List.mem_append_right _ (List.mem_append_right _ (List.mem_append_left _ (List.mem_of_getElem? (i := 35) (by rfl)))))
set_option maxRecDepth 20000 in
theorem yo_lf : Cond.laysStatic "jdk/internal/util/Preconditions" "SIOOBE_FORMATTER" "Ljava/util/function/BiFunction;" ∈ lw_tbl := List.mem_append_right _ (List.mem_append_right _ (List.mem_append_right _ (List.mem_append_left _ (List.mem_of_getElem? (i := 51) (by rfl)))))
set_option maxRecDepth 20000 in
theorem yr_C_433 : Cond.stringRef "ClassOfMany" 433 "fund" ∈ lw_tbl := List.mem_append_right _ (List.mem_append_right _ (List.mem_append_right _ (List.mem_append_left _ (List.mem_of_getElem? (i := 14) (by rfl)))))
set_option maxRecDepth 20000 in
theorem yr_C_434 : Cond.stringRef "ClassOfMany" 434 "fee" ∈ lw_tbl := List.mem_append_right _ (List.mem_append_right _ (List.mem_append_right _ (List.mem_append_left _ (List.mem_of_getElem? (i := 15) (by rfl)))))
set_option maxRecDepth 20000 in
theorem yr_C_435 : Cond.stringRef "ClassOfMany" 435 "least" ∈ lw_tbl := List.mem_append_right _ (List.mem_append_right _ (List.mem_append_right _ (List.mem_append_left _ (List.mem_of_getElem? (i := 16) (by rfl)))))
set_option maxRecDepth 20000 in
theorem yr_C_436 : Cond.stringRef "ClassOfMany" 436 "till" ∈ lw_tbl := List.mem_append_right _ (List.mem_append_right _ (List.mem_append_right _ (List.mem_append_left _ (List.mem_of_getElem? (i := 17) (by rfl)))))
set_option maxRecDepth 20000 in
theorem yr_C_437 : Cond.stringRef "ClassOfMany" 437 "period" ∈ lw_tbl := List.mem_append_right _ (List.mem_append_right _ (List.mem_append_right _ (List.mem_append_left _ (List.mem_of_getElem? (i := 18) (by rfl)))))
set_option maxRecDepth 20000 in
theorem yr_C_439 : Cond.stringRef "ClassOfMany" 439 "channel" ∈ lw_tbl := List.mem_append_right _ (List.mem_append_right _ (List.mem_append_right _ (List.mem_append_left _ (List.mem_of_getElem? (i := 19) (by rfl)))))
set_option maxRecDepth 20000 in
theorem yr_C_441 : Cond.stringRef "ClassOfMany" 441 "member" ∈ lw_tbl := List.mem_append_right _ (List.mem_append_right _ (List.mem_append_right _ (List.mem_append_left _ (List.mem_of_getElem? (i := 20) (by rfl)))))
set_option maxRecDepth 20000 in
theorem yr_C_443 : Cond.stringRef "ClassOfMany" 443 "conflict" ∈ lw_tbl := List.mem_append_right _ (List.mem_append_right _ (List.mem_append_right _ (List.mem_append_left _ (List.mem_of_getElem? (i := 21) (by rfl)))))
set_option maxRecDepth 20000 in
theorem yr_CReader_163 : Cond.stringRef "ClassOfMany$Reader" 163 "by" ∈ lw_tbl := List.mem_append_right _ (List.mem_append_right _ (List.mem_append_right _ (List.mem_append_left _ (List.mem_of_getElem? (i := 118) (by rfl)))))
set_option maxRecDepth 20000 in
theorem yr_CPage_27 : Cond.stringRef "ClassOfMany$Page" 27 ";" ∈ lw_tbl := List.mem_append_right _ (List.mem_append_right _ (List.mem_append_right _ (List.mem_append_right _ (List.mem_append_right _ (List.mem_append_left _ (List.mem_of_getElem? (i := 182) (by rfl)))))))
set_option maxRecDepth 20000 in
theorem yr_C_422 : Cond.stringRef "ClassOfMany" 422 " by" ∈ lw_tbl := List.mem_append_right _ (List.mem_append_right _ (List.mem_append_right _ (List.mem_append_right _ (List.mem_append_right _ (List.mem_append_left _ (List.mem_of_getElem? (i := 193) (by rfl)))))))
set_option maxRecDepth 20000 in
theorem yr_C_424 : Cond.stringRef "ClassOfMany" 424 ";" ∈ lw_tbl := List.mem_append_right _ (List.mem_append_right _ (List.mem_append_right _ (List.mem_append_right _ (List.mem_append_right _ (List.mem_append_left _ (List.mem_of_getElem? (i := 194) (by rfl)))))))
set_option maxRecDepth 20000 in
theorem yr_C_426 : Cond.stringRef "ClassOfMany" 426 "paid" ∈ lw_tbl := List.mem_append_right _ (List.mem_append_right _ (List.mem_append_right _ (List.mem_append_right _ (List.mem_append_right _ (List.mem_append_left _ (List.mem_of_getElem? (i := 207) (by rfl)))))))
set_option maxRecDepth 20000 in
theorem yr_C_428 : Cond.stringRef "ClassOfMany" 428 "next" ∈ lw_tbl := List.mem_append_right _ (List.mem_append_right _ (List.mem_append_right _ (List.mem_append_right _ (List.mem_append_right _ (List.mem_append_left _ (List.mem_of_getElem? (i := 208) (by rfl)))))))
def yTmL : List Term := [Term.string "ClassOfMany" 433, Term.string "ClassOfMany" 434, Term.string "ClassOfMany" 435, Term.string "ClassOfMany" 436, Term.string "ClassOfMany" 437, Term.string "ClassOfMany" 439, Term.string "ClassOfMany" 441, Term.string "ClassOfMany" 443, Term.string "ClassOfMany$Reader" 163, Term.string "ClassOfMany$Page" 27, Term.string "ClassOfMany" 422, Term.string "ClassOfMany" 426, Term.string "ClassOfMany" 428]
def yTm (i : Nat) : Term := yTmL.getD i (Term.string "" 0)
abbrev yFl : List Cond := flatC (Jvm.Cond.and given_1 narrow_1)
theorem yinst : ∀ (k : Nat) (q : vw_C), vwCl[k]? = some q → Cond.instantiable q.1 q.2.2 ∈ zTw := by
  intro k q hq
  match k, hq with
  | 0, hq => cases hq; exact kw_1_198
  | 1, hq => cases hq; exact kw_2_155
  | 2, hq => cases hq; exact kw_2_53
  | 3, hq => cases hq; exact kw_1_218
  | 4, hq => cases hq; exact kw_2_125
  | 5, hq => cases hq; exact kw_2_16
  | 6, hq => cases hq; exact kw_1_127
  | 7, hq => cases hq; exact kw_1_29
  | 8, hq => cases hq; exact kw_1_21
  | 9, hq => cases hq; exact kw_5_218
  | k + 10, hq => simp [vwCl] at hq
theorem yK {s : State} {args : Array Value} (hts : ∀ w ∈ lw_tbl, w.before args s = true) : ∃ (D : va_G) (cA : Nat → ClassId), va_K D vwCl (ztys cA) s := by
  have h0 : ∀ k : Nat, ∃ q : ClassId × (Nat → Nat), ∀ r : vw_C, vwCl[k]? = some r → u_Kn s r.1 r.2.1 r.2.2 q.1 q.2 := by
    intro k
    cases hk : vwCl[k]? with
    | none => exact ⟨(0, fun _ => 0), fun r h => by cases h⟩
    | some r =>
      obtain ⟨c, i, h⟩ := u_known (C := r.1) (T := r.2.1) (N := r.2.2) (n := r.2.2) hts (fun w hw => zTw_in _ ((zcls k r hk).1 w hw)) (hts _ (zTw_in _ (yinst k r hk)))
      exact ⟨(c, i), fun r' h' => by cases h'; exact h⟩
  obtain ⟨f, hf⟩ := Classical.axiomOfChoice h0
  obtain ⟨c1, k1, p1, e1, e2, e3⟩ := Cond.arrayClass_spec (type := .int) (hts _ (zTw_in _ kw_1_125))
  obtain ⟨c2, k2, p2, g1, g2, g3⟩ := Cond.arrayClass_spec (type := .byte) (hts _ (zTw_in _ kw_2_167))
  obtain ⟨c3, k3, p3, i1, i2, i3⟩ := Cond.arrayClass_spec (type := .boolean) (hts _ (zTw_in _ kw_2_51))
  obtain ⟨p4, c4, k4, j1, j2, j3, j4, j5⟩ := Cond.arrayOver_spec (hts _ yo_ao)
  refine ⟨(fun k => (f k).1, fun k => (f k).2), fun k => if k = 10 then c1 else if k = 11 then c2 else if k = 12 then c3 else c4, fun k q hq => hf k q hq, fun k q hq => ?_⟩
  match k, hq with
  | 0, hq => cases hq; exact ⟨fun n z => ⟨fun k h => (by cases h), k1, e2, p1, e3⟩, e1⟩
  | 1, hq => cases hq; exact ⟨fun n z => ⟨fun k h => (by cases h), k2, g2, p2, g3⟩, g1⟩
  | 2, hq => cases hq; exact ⟨fun n z => ⟨fun k h => (by cases h), k3, i2, p3, i3⟩, i1⟩
  | 3, hq => cases hq; exact ⟨fun n z => ⟨fun k h => (by cases h), k4, j3, p4, j4⟩, k4, p4, j3, j4, j1, j5⟩
  | k + 4, hq => simp [ztys] at hq
theorem yw_astore_n {E : YEnv} {cc : ByteArray} {own : String} {d mc ms pc cells slots : Nat} {lv lv' : List (Nat × Value)} {st : List Value} {ws : va_W} (hC : YCx E cc own d mc ms) {f : Fin 4} {i nL : Nat} {x : Nat} (hd : decode cc pc = .ok (.astore_n f, 1)) (hi : (f : Nat) = i) (hN : E.2.2.2.2.2.2.2.2.2.2.2.2.2.2 = nL) (hn : i < nL) (h : (i, Value.ref x) :: lv.filter (fun q => !(q.1 == i) && !(q.1 + 1 == i && q.2.category == 2)) = lv') (kk : YW E (pc + 1) lv' st ws cells slots) : YW E pc lv (.ref x :: st) ws cells slots := by
  subst hN
  obtain ⟨p, l, e, R, s, m, args, below, meth, c, Q, D, cA, A, nL⟩ := E
  intro H locs ls hP hD hS hl
  exact lv_astore_n hC.1 hC.2.1 hd hi hl hn h (fun ls' hl' => kk H locs ls' hP hD hS hl')

