set_option maxRecDepth 20000 in
theorem kw_1_2 : Cond.initialized "ClassOfMany$Told" ∈ zTw := zt1 2 (by rfl) rfl
set_option maxRecDepth 20000 in
theorem kw_1_3 : Cond.initialized "ClassOfMany$Standing" ∈ zTw := zt1 3 (by rfl) rfl
set_option maxRecDepth 20000 in
theorem kw_1_4 : Cond.initialized "ClassOfMany$Journal" ∈ zTw := zt1 4 (by rfl) rfl
set_option maxRecDepth 20000 in
theorem kw_1_11 : Cond.initialized "java/util/Arrays" ∈ zTw := zt1 11 (by rfl) rfl
set_option maxRecDepth 20000 in
theorem kw_1_16 : Cond.initialized "ClassOfMany$Mail" ∈ zTw := zt1 16 (by rfl) rfl
set_option maxRecDepth 20000 in
theorem kw_1_17 : Cond.initialized "java/lang/System" ∈ zTw := zt1 17 (by rfl) rfl
set_option maxRecDepth 20000 in
theorem kw_1_18 : Cond.initialized "java/lang/Math" ∈ zTw := zt1 18 (by rfl) rfl
set_option maxRecDepth 20000 in
theorem kw_1_19 : Cond.initialized "java/lang/Integer" ∈ zTw := zt1 19 (by rfl) rfl
set_option maxRecDepth 20000 in
theorem kw_1_34 : Cond.fieldLink "ClassOfMany$Told" 46 "ClassOfMany$Told" "members" "I" ∈ zTw := zt1 34 (by rfl) rfl
set_option maxRecDepth 20000 in
theorem kw_1_41 : Cond.fieldLink "ClassOfMany$Told" 49 "ClassOfMany$Told" "channels" "I" ∈ zTw := zt1 41 (by rfl) rfl
set_option maxRecDepth 20000 in
theorem kw_1_46 : Cond.fieldLink "ClassOfMany$Standing" 61 "ClassOfMany$Told" "from" "[I" ∈ zTw := zt1 46 (by rfl) rfl
set_option maxRecDepth 20000 in
theorem kw_1_50 : Cond.fieldLink "ClassOfMany$Standing" 72 "ClassOfMany$Told" "to" "[I" ∈ zTw := zt1 50 (by rfl) rfl
set_option maxRecDepth 20000 in
theorem kw_1_54 : Cond.fieldLink "ClassOfMany$Standing" 78 "ClassOfMany$Told" "rate" "[I" ∈ zTw := zt1 54 (by rfl) rfl
set_option maxRecDepth 20000 in
theorem kw_1_69 : Cond.fieldLink "ClassOfMany$Told" 52 "ClassOfMany$Told" "fee" "I" ∈ zTw := zt1 69 (by rfl) rfl
set_option maxRecDepth 20000 in
theorem kw_1_72 : Cond.fieldLink "ClassOfMany$Told" 55 "ClassOfMany$Told" "least" "I" ∈ zTw := zt1 72 (by rfl) rfl
set_option maxRecDepth 20000 in
theorem kw_1_76 : Cond.fieldLink "ClassOfMany$Told" 30 "ClassOfMany$Told" "till" "I" ∈ zTw := zt1 76 (by rfl) rfl
set_option maxRecDepth 20000 in
theorem kw_1_79 : Cond.fieldLink "ClassOfMany$Told" 58 "ClassOfMany$Told" "lines" "I" ∈ zTw := zt1 79 (by rfl) rfl
set_option maxRecDepth 20000 in
theorem kw_1_81 : Cond.fieldLink "ClassOfMany$Told" 34 "ClassOfMany$Told" "sorts" "[I" ∈ zTw := zt1 81 (by rfl) rfl
set_option maxRecDepth 20000 in
theorem kw_1_83 : Cond.fieldLink "ClassOfMany$Told" 37 "ClassOfMany$Told" "starts" "[I" ∈ zTw := zt1 83 (by rfl) rfl
set_option maxRecDepth 20000 in
theorem kw_1_85 : Cond.fieldLink "ClassOfMany$Told" 40 "ClassOfMany$Told" "sizes" "[I" ∈ zTw := zt1 85 (by rfl) rfl
set_option maxRecDepth 20000 in
theorem kw_1_87 : Cond.fieldLink "ClassOfMany$Told" 61 "ClassOfMany$Told" "used" "I" ∈ zTw := zt1 87 (by rfl) rfl
set_option maxRecDepth 20000 in
theorem kw_1_88 : Cond.fieldLink "ClassOfMany$Told" 43 "ClassOfMany$Told" "numbers" "[I" ∈ zTw := zt1 88 (by rfl) rfl
set_option maxRecDepth 20000 in
theorem kw_1_132 : Cond.fieldLink "ClassOfMany$Standing" 22 "ClassOfMany$Standing" "today" "I" ∈ zTw := zt1 132 (by rfl) rfl
set_option maxRecDepth 20000 in
theorem kw_1_134 : Cond.fieldLink "ClassOfMany$Standing" 25 "ClassOfMany$Standing" "order" "I" ∈ zTw := zt1 134 (by rfl) rfl
set_option maxRecDepth 20000 in
theorem kw_1_137 : Cond.fieldLink "ClassOfMany$Standing" 9 "ClassOfMany$Standing" "sentDay" "I" ∈ zTw := zt1 137 (by rfl) rfl
set_option maxRecDepth 20000 in
theorem kw_1_140 : Cond.fieldLink "ClassOfMany$Standing" 28 "ClassOfMany$Standing" "costs" "I" ∈ zTw := zt1 140 (by rfl) rfl
set_option maxRecDepth 20000 in
theorem kw_1_143 : Cond.fieldLink "ClassOfMany$Standing" 31 "ClassOfMany$Standing" "out" "I" ∈ zTw := zt1 143 (by rfl) rfl
set_option maxRecDepth 20000 in
theorem kw_1_147 : Cond.fieldLink "ClassOfMany$Standing" 34 "ClassOfMany$Standing" "filed" "I" ∈ zTw := zt1 147 (by rfl) rfl
set_option maxRecDepth 20000 in
theorem kw_1_151 : Cond.fieldLink "ClassOfMany$Standing" 37 "ClassOfMany$Standing" "lazy" "I" ∈ zTw := zt1 151 (by rfl) rfl
set_option maxRecDepth 20000 in
theorem kw_1_156 : Cond.fieldLink "ClassOfMany$Standing" 40 "ClassOfMany$Standing" "fund" "I" ∈ zTw := zt1 156 (by rfl) rfl
set_option maxRecDepth 20000 in
theorem kw_1_159 : Cond.fieldLink "ClassOfMany$Standing" 43 "ClassOfMany$Standing" "rule" "I" ∈ zTw := zt1 159 (by rfl) rfl
set_option maxRecDepth 20000 in
theorem kw_1_162 : Cond.fieldLink "ClassOfMany$Standing" 46 "ClassOfMany$Standing" "periodFrom" "I" ∈ zTw := zt1 162 (by rfl) rfl
set_option maxRecDepth 20000 in
theorem kw_1_165 : Cond.fieldLink "ClassOfMany$Standing" 15 "ClassOfMany$Standing" "periodTo" "I" ∈ zTw := zt1 165 (by rfl) rfl
set_option maxRecDepth 20000 in
theorem kw_1_168 : Cond.fieldLink "ClassOfMany$Standing" 18 "ClassOfMany$Standing" "foes" "[I" ∈ zTw := zt1 168 (by rfl) rfl
set_option maxRecDepth 20000 in
theorem kw_1_206 : Cond.fieldLink "ClassOfMany$Journal" 11 "ClassOfMany$Journal" "kept" "[LClassOfMany$Standing;" ∈ zTw := zt1 206 (by rfl) rfl
set_option maxRecDepth 20000 in
theorem kw_1_207 : Cond.fieldLink "ClassOfMany$Journal" 18 "ClassOfMany$Journal" "next" "I" ∈ zTw := zt1 207 (by rfl) rfl
set_option maxRecDepth 20000 in
theorem kw_1_208 : Cond.fieldLink "ClassOfMany$Journal" 26 "ClassOfMany$Journal" "size" "I" ∈ zTw := zt1 208 (by rfl) rfl
set_option maxRecDepth 20000 in
theorem kw_2_217 : Cond.instanceMethod ⟨"ClassOfMany$Told", "clear", "()V"⟩ ∈ zTw := zt2 217 (by rfl) rfl
set_option maxRecDepth 20000 in
theorem kw_2_218 : Cond.selects "ClassOfMany$Told" ⟨"ClassOfMany$Told", "clear", "()V"⟩ ⟨"ClassOfMany$Told", "clear", "()V"⟩ ∈ zTw := zt2 218 (by rfl) rfl
set_option maxRecDepth 20000 in
theorem kw_2_219 : Cond.code ⟨"ClassOfMany$Told", "clear", "()V"⟩ prog_10_method_2_code 1 none ∈ zTw := zt2 219 (by rfl) rfl
set_option maxRecDepth 20000 in
theorem kw_2_221 : Cond.instanceMethod ⟨"ClassOfMany$Standing", "clear", "()V"⟩ ∈ zTw := zt2 221 (by rfl) rfl
set_option maxRecDepth 20000 in
theorem kw_2_222 : Cond.selects "ClassOfMany$Standing" ⟨"ClassOfMany$Standing", "clear", "()V"⟩ ⟨"ClassOfMany$Standing", "clear", "()V"⟩ ∈ zTw := zt2 222 (by rfl) rfl
set_option maxRecDepth 20000 in
theorem kw_2_223 : Cond.code ⟨"ClassOfMany$Standing", "clear", "()V"⟩ prog_9_method_2_code 1 none ∈ zTw := zt2 223 (by rfl) rfl
set_option maxRecDepth 20000 in
theorem kw_2_224 : Cond.methodLink "ClassOfMany$Standing" 49 ⟨"java/util/Arrays", "fill", "([II)V"⟩ ∈ zTw := zt2 224 (by rfl) rfl
set_option maxRecDepth 20000 in
theorem kw_2_225 : Cond.static ⟨"java/util/Arrays", "fill", "([II)V"⟩ ∈ zTw := zt2 225 (by rfl) rfl
set_option maxRecDepth 20000 in
theorem kw_2_226 : Cond.code ⟨"java/util/Arrays", "fill", "([II)V"⟩ prog_19_method_103_code 4 none ∈ zTw := zt2 226 (by rfl) rfl
set_option maxRecDepth 20000 in
theorem kw_3_86 : Cond.instanceMethod ⟨"ClassOfMany$Told", "openLine", "(I)V"⟩ ∈ zTw := zt3 86 (by rfl) rfl
set_option maxRecDepth 20000 in
theorem kw_3_87 : Cond.selects "ClassOfMany$Told" ⟨"ClassOfMany$Told", "openLine", "(I)V"⟩ ⟨"ClassOfMany$Told", "openLine", "(I)V"⟩ ∈ zTw := zt3 87 (by rfl) rfl
set_option maxRecDepth 20000 in
theorem kw_3_88 : Cond.code ⟨"ClassOfMany$Told", "openLine", "(I)V"⟩ prog_10_method_3_code 2 none ∈ zTw := zt3 88 (by rfl) rfl
set_option maxRecDepth 20000 in
theorem kw_3_103 : Cond.instanceMethod ⟨"ClassOfMany$Told", "addNumber", "(I)V"⟩ ∈ zTw := zt3 103 (by rfl) rfl
set_option maxRecDepth 20000 in
theorem kw_3_104 : Cond.selects "ClassOfMany$Told" ⟨"ClassOfMany$Told", "addNumber", "(I)V"⟩ ⟨"ClassOfMany$Told", "addNumber", "(I)V"⟩ ∈ zTw := zt3 104 (by rfl) rfl
set_option maxRecDepth 20000 in
theorem kw_3_105 : Cond.code ⟨"ClassOfMany$Told", "addNumber", "(I)V"⟩ prog_10_method_4_code 2 none ∈ zTw := zt3 105 (by rfl) rfl
set_option maxRecDepth 20000 in
theorem kw_3_124 : Cond.instanceMethod ⟨"ClassOfMany$Standing", "toggleConflict", "(II)V"⟩ ∈ zTw := zt3 124 (by rfl) rfl
set_option maxRecDepth 20000 in
theorem kw_3_125 : Cond.selects "ClassOfMany$Standing" ⟨"ClassOfMany$Standing", "toggleConflict", "(II)V"⟩ ⟨"ClassOfMany$Standing", "toggleConflict", "(II)V"⟩ ∈ zTw := zt3 125 (by rfl) rfl
set_option maxRecDepth 20000 in
theorem kw_3_126 : Cond.code ⟨"ClassOfMany$Standing", "toggleConflict", "(II)V"⟩ prog_9_method_5_code 3 none ∈ zTw := zt3 126 (by rfl) rfl
set_option maxRecDepth 20000 in
theorem kw_3_135 : Cond.instanceMethod ⟨"ClassOfMany$Standing", "copyFrom", "(LClassOfMany$Standing;)V"⟩ ∈ zTw := zt3 135 (by rfl) rfl
set_option maxRecDepth 20000 in
theorem kw_3_136 : Cond.selects "ClassOfMany$Standing" ⟨"ClassOfMany$Standing", "copyFrom", "(LClassOfMany$Standing;)V"⟩ ⟨"ClassOfMany$Standing", "copyFrom", "(LClassOfMany$Standing;)V"⟩ ∈ zTw := zt3 136 (by rfl) rfl
set_option maxRecDepth 20000 in
theorem kw_3_137 : Cond.code ⟨"ClassOfMany$Standing", "copyFrom", "(LClassOfMany$Standing;)V"⟩ prog_9_method_3_code 2 none ∈ zTw := zt3 137 (by rfl) rfl
set_option maxRecDepth 20000 in
theorem kw_3_138 : Cond.methodLink "ClassOfMany$Standing" 55 ⟨"java/lang/System", "arraycopy", "(Ljava/lang/Object;ILjava/lang/Object;II)V"⟩ ∈ zTw := zt3 138 (by rfl) rfl
set_option maxRecDepth 20000 in
theorem kw_3_139 : Cond.static ⟨"java/lang/System", "arraycopy", "(Ljava/lang/Object;ILjava/lang/Object;II)V"⟩ ∈ zTw := zt3 139 (by rfl) rfl
set_option maxRecDepth 20000 in
theorem kw_3_140 : Cond.native ⟨"java/lang/System", "arraycopy", "(Ljava/lang/Object;ILjava/lang/Object;II)V"⟩ ∈ zTw := zt3 140 (by rfl) rfl
set_option maxRecDepth 20000 in
theorem kw_3_142 : Cond.instanceMethod ⟨"ClassOfMany$Journal", "forget", "()V"⟩ ∈ zTw := zt3 142 (by rfl) rfl
set_option maxRecDepth 20000 in
theorem kw_3_143 : Cond.selects "ClassOfMany$Journal" ⟨"ClassOfMany$Journal", "forget", "()V"⟩ ⟨"ClassOfMany$Journal", "forget", "()V"⟩ ∈ zTw := zt3 143 (by rfl) rfl
set_option maxRecDepth 20000 in
theorem kw_3_144 : Cond.code ⟨"ClassOfMany$Journal", "forget", "()V"⟩ prog_2_method_4_code 1 none ∈ zTw := zt3 144 (by rfl) rfl
set_option maxRecDepth 20000 in
theorem kw_3_158 : Cond.instanceMethod ⟨"ClassOfMany$Journal", "keep", "(LClassOfMany$Standing;)V"⟩ ∈ zTw := zt3 158 (by rfl) rfl
set_option maxRecDepth 20000 in
theorem kw_3_159 : Cond.selects "ClassOfMany$Journal" ⟨"ClassOfMany$Journal", "keep", "(LClassOfMany$Standing;)V"⟩ ⟨"ClassOfMany$Journal", "keep", "(LClassOfMany$Standing;)V"⟩ ∈ zTw := zt3 159 (by rfl) rfl
set_option maxRecDepth 20000 in
theorem kw_3_160 : Cond.code ⟨"ClassOfMany$Journal", "keep", "(LClassOfMany$Standing;)V"⟩ prog_2_method_2_code 2 none ∈ zTw := zt3 160 (by rfl) rfl
set_option maxRecDepth 20000 in
theorem kw_3_161 : Cond.methodLink "ClassOfMany$Journal" 22 ⟨"ClassOfMany$Standing", "copyFrom", "(LClassOfMany$Standing;)V"⟩ ∈ zTw := zt3 161 (by rfl) rfl
set_option maxRecDepth 20000 in
theorem kw_3_162 : Cond.methodLink "ClassOfMany$Journal" 29 ⟨"java/lang/Math", "min", "(II)I"⟩ ∈ zTw := zt3 162 (by rfl) rfl
set_option maxRecDepth 20000 in
theorem kw_3_163 : Cond.static ⟨"java/lang/Math", "min", "(II)I"⟩ ∈ zTw := zt3 163 (by rfl) rfl
set_option maxRecDepth 20000 in
theorem kw_3_164 : Cond.code ⟨"java/lang/Math", "min", "(II)I"⟩ prog_14_method_69_code 2 (some .int) ∈ zTw := zt3 164 (by rfl) rfl
set_option maxRecDepth 20000 in
theorem kw_3_173 : Cond.static ⟨"ClassOfMany$Mail", "numbersOf", "(I)I"⟩ ∈ zTw := zt3 173 (by rfl) rfl
set_option maxRecDepth 20000 in
theorem kw_3_174 : Cond.code ⟨"ClassOfMany$Mail", "numbersOf", "(I)I"⟩ prog_3_method_2_code 1 (some .int) ∈ zTw := zt3 174 (by rfl) rfl
set_option maxRecDepth 20000 in
theorem kw_3_179 : Cond.instanceMethod ⟨"ClassOfMany$Standing", "isSent", "()Z"⟩ ∈ zTw := zt3 179 (by rfl) rfl
set_option maxRecDepth 20000 in
theorem kw_3_180 : Cond.selects "ClassOfMany$Standing" ⟨"ClassOfMany$Standing", "isSent", "()Z"⟩ ⟨"ClassOfMany$Standing", "isSent", "()Z"⟩ ∈ zTw := zt3 180 (by rfl) rfl
set_option maxRecDepth 20000 in
theorem kw_3_181 : Cond.code ⟨"ClassOfMany$Standing", "isSent", "()Z"⟩ prog_9_method_4_code 1 (some .boolean) ∈ zTw := zt3 181 (by rfl) rfl
set_option maxRecDepth 20000 in
theorem kw_3_214 : Cond.static ⟨"java/lang/Integer", "bitCount", "(I)I"⟩ ∈ zTw := zt3 214 (by rfl) rfl
set_option maxRecDepth 20000 in
theorem kw_3_215 : Cond.code ⟨"java/lang/Integer", "bitCount", "(I)I"⟩ prog_13_method_49_code 1 (some .int) ∈ zTw := zt3 215 (by rfl) rfl
set_option maxRecDepth 20000 in
theorem kw_3_216 : Cond.constant "java/lang/Integer" 265 (1431655765 : Int32) ∈ zTw := zt3 216 (by rfl) rfl
set_option maxRecDepth 20000 in
theorem kw_3_217 : Cond.constant "java/lang/Integer" 266 (858993459 : Int32) ∈ zTw := zt3 217 (by rfl) rfl
set_option maxRecDepth 20000 in
theorem kw_3_218 : Cond.constant "java/lang/Integer" 267 (252645135 : Int32) ∈ zTw := zt3 218 (by rfl) rfl
set_option maxRecDepth 20000 in
theorem kw_4_15 : Cond.instanceMethod ⟨"ClassOfMany$Standing", "claimOf", "(LClassOfMany$Told;I)I"⟩ ∈ zTw := zt4 15 (by rfl) rfl
set_option maxRecDepth 20000 in
theorem kw_4_16 : Cond.selects "ClassOfMany$Standing" ⟨"ClassOfMany$Standing", "claimOf", "(LClassOfMany$Told;I)I"⟩ ⟨"ClassOfMany$Standing", "claimOf", "(LClassOfMany$Told;I)I"⟩ ∈ zTw := zt4 16 (by rfl) rfl
set_option maxRecDepth 20000 in
theorem kw_4_17 : Cond.code ⟨"ClassOfMany$Standing", "claimOf", "(LClassOfMany$Told;I)I"⟩ prog_9_method_6_code 5 (some .int) ∈ zTw := zt4 17 (by rfl) rfl
set_option maxRecDepth 20000 in
theorem kw_4_18 : Cond.methodLink "ClassOfMany$Standing" 66 ⟨"java/lang/Math", "max", "(II)I"⟩ ∈ zTw := zt4 18 (by rfl) rfl
set_option maxRecDepth 20000 in
theorem kw_4_19 : Cond.static ⟨"java/lang/Math", "max", "(II)I"⟩ ∈ zTw := zt4 19 (by rfl) rfl
set_option maxRecDepth 20000 in
theorem kw_4_20 : Cond.code ⟨"java/lang/Math", "max", "(II)I"⟩ prog_14_method_65_code 2 (some .int) ∈ zTw := zt4 20 (by rfl) rfl
set_option maxRecDepth 20000 in
theorem kw_4_21 : Cond.methodLink "ClassOfMany$Standing" 75 ⟨"java/lang/Math", "min", "(II)I"⟩ ∈ zTw := zt4 21 (by rfl) rfl
set_option maxRecDepth 20000 in
theorem kw_4_36 : Cond.instanceMethod ⟨"ClassOfMany$Journal", "restore", "(LClassOfMany$Standing;)V"⟩ ∈ zTw := zt4 36 (by rfl) rfl
set_option maxRecDepth 20000 in
theorem kw_4_37 : Cond.selects "ClassOfMany$Journal" ⟨"ClassOfMany$Journal", "restore", "(LClassOfMany$Standing;)V"⟩ ⟨"ClassOfMany$Journal", "restore", "(LClassOfMany$Standing;)V"⟩ ∈ zTw := zt4 37 (by rfl) rfl
set_option maxRecDepth 20000 in
theorem kw_4_38 : Cond.code ⟨"ClassOfMany$Journal", "restore", "(LClassOfMany$Standing;)V"⟩ prog_2_method_3_code 2 none ∈ zTw := zt4 38 (by rfl) rfl
