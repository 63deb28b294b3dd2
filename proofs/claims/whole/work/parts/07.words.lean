set_option maxRecDepth 20000 in
theorem kw_1_1 : Cond.initialized "ClassOfMany" ∈ zTw := zt1 1 (by rfl) rfl
set_option maxRecDepth 20000 in
theorem kw_1_2 : Cond.initialized "ClassOfMany$Told" ∈ zTw := zt1 2 (by rfl) rfl
set_option maxRecDepth 20000 in
theorem kw_1_3 : Cond.initialized "ClassOfMany$Standing" ∈ zTw := zt1 3 (by rfl) rfl
set_option maxRecDepth 20000 in
theorem kw_1_4 : Cond.initialized "ClassOfMany$Journal" ∈ zTw := zt1 4 (by rfl) rfl
set_option maxRecDepth 20000 in
theorem kw_1_5 : Cond.initialized "ClassOfMany$Reader" ∈ zTw := zt1 5 (by rfl) rfl
set_option maxRecDepth 20000 in
theorem kw_1_6 : Cond.initialized "ClassOfMany$Splitter" ∈ zTw := zt1 6 (by rfl) rfl
set_option maxRecDepth 20000 in
theorem kw_1_7 : Cond.initialized "ClassOfMany$Payer" ∈ zTw := zt1 7 (by rfl) rfl
set_option maxRecDepth 20000 in
theorem kw_1_8 : Cond.initialized "ClassOfMany$Resting" ∈ zTw := zt1 8 (by rfl) rfl
set_option maxRecDepth 20000 in
theorem kw_1_9 : Cond.initialized "ClassOfMany$Page" ∈ zTw := zt1 9 (by rfl) rfl
set_option maxRecDepth 20000 in
theorem kw_1_10 : Cond.initialized "ClassOfManyModel" ∈ zTw := zt1 10 (by rfl) rfl
set_option maxRecDepth 20000 in
theorem kw_1_11 : Cond.initialized "java/util/Arrays" ∈ zTw := zt1 11 (by rfl) rfl
set_option maxRecDepth 20000 in
theorem kw_1_12 : Cond.initialized "java/lang/String" ∈ zTw := zt1 12 (by rfl) rfl
set_option maxRecDepth 20000 in
theorem kw_1_13 : Cond.initialized "java/lang/StringLatin1" ∈ zTw := zt1 13 (by rfl) rfl
set_option maxRecDepth 20000 in
theorem kw_1_14 : Cond.initialized "jdk/internal/util/Preconditions" ∈ zTw := zt1 14 (by rfl) rfl
set_option maxRecDepth 20000 in
theorem kw_1_16 : Cond.initialized "ClassOfMany$Mail" ∈ zTw := zt1 16 (by rfl) rfl
set_option maxRecDepth 20000 in
theorem kw_1_17 : Cond.initialized "java/lang/System" ∈ zTw := zt1 17 (by rfl) rfl
set_option maxRecDepth 20000 in
theorem kw_1_18 : Cond.initialized "java/lang/Math" ∈ zTw := zt1 18 (by rfl) rfl
set_option maxRecDepth 20000 in
theorem kw_1_19 : Cond.initialized "java/lang/Integer" ∈ zTw := zt1 19 (by rfl) rfl
set_option maxRecDepth 20000 in
theorem kw_1_34 : Cond.fieldLink "ClassOfMany$Told" 46 "ClassOfMany$Told" "members" "I" ∈ zTw := zt1 34 (by rfl) rfl
set_option maxRecDepth 20000 in
theorem kw_1_35 : Cond.fieldLink "ClassOfMany$Splitter" 28 "ClassOfMany$Told" "members" "I" ∈ zTw := zt1 35 (by rfl) rfl
set_option maxRecDepth 20000 in
theorem kw_1_36 : Cond.fieldLink "ClassOfMany$Payer" 83 "ClassOfMany$Told" "members" "I" ∈ zTw := zt1 36 (by rfl) rfl
set_option maxRecDepth 20000 in
theorem kw_1_37 : Cond.fieldLink "ClassOfMany$Resting" 35 "ClassOfMany$Told" "members" "I" ∈ zTw := zt1 37 (by rfl) rfl
set_option maxRecDepth 20000 in
theorem kw_1_38 : Cond.fieldLink "ClassOfMany" 92 "ClassOfMany$Told" "members" "I" ∈ zTw := zt1 38 (by rfl) rfl
set_option maxRecDepth 20000 in
theorem kw_1_39 : Cond.fieldLink "ClassOfMany$Mail" 25 "ClassOfMany$Told" "members" "I" ∈ zTw := zt1 39 (by rfl) rfl
set_option maxRecDepth 20000 in
theorem kw_1_40 : Cond.fieldLink "ClassOfMany$Reader" 133 "ClassOfMany$Told" "members" "I" ∈ zTw := zt1 40 (by rfl) rfl
set_option maxRecDepth 20000 in
theorem kw_1_41 : Cond.fieldLink "ClassOfMany$Told" 49 "ClassOfMany$Told" "channels" "I" ∈ zTw := zt1 41 (by rfl) rfl
set_option maxRecDepth 20000 in
theorem kw_1_42 : Cond.fieldLink "ClassOfMany$Reader" 56 "ClassOfMany$Told" "channels" "I" ∈ zTw := zt1 42 (by rfl) rfl
set_option maxRecDepth 20000 in
theorem kw_1_43 : Cond.fieldLink "ClassOfMany$Mail" 9 "ClassOfMany$Told" "channels" "I" ∈ zTw := zt1 43 (by rfl) rfl
set_option maxRecDepth 20000 in
theorem kw_1_44 : Cond.fieldLink "ClassOfMany" 117 "ClassOfMany$Told" "channels" "I" ∈ zTw := zt1 44 (by rfl) rfl
set_option maxRecDepth 20000 in
theorem kw_1_46 : Cond.fieldLink "ClassOfMany$Standing" 61 "ClassOfMany$Told" "from" "[I" ∈ zTw := zt1 46 (by rfl) rfl
set_option maxRecDepth 20000 in
theorem kw_1_47 : Cond.fieldLink "ClassOfMany$Reader" 145 "ClassOfMany$Told" "from" "[I" ∈ zTw := zt1 47 (by rfl) rfl
set_option maxRecDepth 20000 in
theorem kw_1_48 : Cond.fieldLink "ClassOfMany" 200 "ClassOfMany$Told" "from" "[I" ∈ zTw := zt1 48 (by rfl) rfl
set_option maxRecDepth 20000 in
theorem kw_1_50 : Cond.fieldLink "ClassOfMany$Standing" 72 "ClassOfMany$Told" "to" "[I" ∈ zTw := zt1 50 (by rfl) rfl
set_option maxRecDepth 20000 in
theorem kw_1_51 : Cond.fieldLink "ClassOfMany$Reader" 148 "ClassOfMany$Told" "to" "[I" ∈ zTw := zt1 51 (by rfl) rfl
set_option maxRecDepth 20000 in
theorem kw_1_52 : Cond.fieldLink "ClassOfMany" 203 "ClassOfMany$Told" "to" "[I" ∈ zTw := zt1 52 (by rfl) rfl
set_option maxRecDepth 20000 in
theorem kw_1_54 : Cond.fieldLink "ClassOfMany$Standing" 78 "ClassOfMany$Told" "rate" "[I" ∈ zTw := zt1 54 (by rfl) rfl
set_option maxRecDepth 20000 in
theorem kw_1_55 : Cond.fieldLink "ClassOfMany$Reader" 151 "ClassOfMany$Told" "rate" "[I" ∈ zTw := zt1 55 (by rfl) rfl
set_option maxRecDepth 20000 in
theorem kw_1_56 : Cond.fieldLink "ClassOfMany" 206 "ClassOfMany$Told" "rate" "[I" ∈ zTw := zt1 56 (by rfl) rfl
set_option maxRecDepth 20000 in
theorem kw_1_58 : Cond.fieldLink "ClassOfMany$Mail" 35 "ClassOfMany$Told" "reach" "[I" ∈ zTw := zt1 58 (by rfl) rfl
set_option maxRecDepth 20000 in
theorem kw_1_59 : Cond.fieldLink "ClassOfMany$Reader" 154 "ClassOfMany$Told" "reach" "[I" ∈ zTw := zt1 59 (by rfl) rfl
set_option maxRecDepth 20000 in
theorem kw_1_60 : Cond.fieldLink "ClassOfMany" 209 "ClassOfMany$Told" "reach" "[I" ∈ zTw := zt1 60 (by rfl) rfl
set_option maxRecDepth 20000 in
theorem kw_1_62 : Cond.fieldLink "ClassOfMany$Mail" 31 "ClassOfMany$Told" "cost" "[I" ∈ zTw := zt1 62 (by rfl) rfl
set_option maxRecDepth 20000 in
theorem kw_1_63 : Cond.fieldLink "ClassOfMany$Reader" 136 "ClassOfMany$Told" "cost" "[I" ∈ zTw := zt1 63 (by rfl) rfl
set_option maxRecDepth 20000 in
theorem kw_1_64 : Cond.fieldLink "ClassOfMany" 222 "ClassOfMany$Told" "cost" "[I" ∈ zTw := zt1 64 (by rfl) rfl
set_option maxRecDepth 20000 in
theorem kw_1_66 : Cond.fieldLink "ClassOfMany$Mail" 42 "ClassOfMany$Told" "wait" "[I" ∈ zTw := zt1 66 (by rfl) rfl
set_option maxRecDepth 20000 in
theorem kw_1_67 : Cond.fieldLink "ClassOfMany$Reader" 139 "ClassOfMany$Told" "wait" "[I" ∈ zTw := zt1 67 (by rfl) rfl
set_option maxRecDepth 20000 in
theorem kw_1_68 : Cond.fieldLink "ClassOfMany" 225 "ClassOfMany$Told" "wait" "[I" ∈ zTw := zt1 68 (by rfl) rfl
set_option maxRecDepth 20000 in
theorem kw_1_69 : Cond.fieldLink "ClassOfMany$Told" 52 "ClassOfMany$Told" "fee" "I" ∈ zTw := zt1 69 (by rfl) rfl
set_option maxRecDepth 20000 in
theorem kw_1_70 : Cond.fieldLink "ClassOfMany$Reader" 84 "ClassOfMany$Told" "fee" "I" ∈ zTw := zt1 70 (by rfl) rfl
set_option maxRecDepth 20000 in
theorem kw_1_71 : Cond.fieldLink "ClassOfMany" 396 "ClassOfMany$Told" "fee" "I" ∈ zTw := zt1 71 (by rfl) rfl
set_option maxRecDepth 20000 in
theorem kw_1_72 : Cond.fieldLink "ClassOfMany$Told" 55 "ClassOfMany$Told" "least" "I" ∈ zTw := zt1 72 (by rfl) rfl
set_option maxRecDepth 20000 in
theorem kw_1_73 : Cond.fieldLink "ClassOfMany$Payer" 89 "ClassOfMany$Told" "least" "I" ∈ zTw := zt1 73 (by rfl) rfl
set_option maxRecDepth 20000 in
theorem kw_1_74 : Cond.fieldLink "ClassOfMany$Reader" 87 "ClassOfMany$Told" "least" "I" ∈ zTw := zt1 74 (by rfl) rfl
set_option maxRecDepth 20000 in
theorem kw_1_75 : Cond.fieldLink "ClassOfMany" 399 "ClassOfMany$Told" "least" "I" ∈ zTw := zt1 75 (by rfl) rfl
set_option maxRecDepth 20000 in
theorem kw_1_76 : Cond.fieldLink "ClassOfMany$Told" 30 "ClassOfMany$Told" "till" "I" ∈ zTw := zt1 76 (by rfl) rfl
set_option maxRecDepth 20000 in
theorem kw_1_77 : Cond.fieldLink "ClassOfMany$Reader" 90 "ClassOfMany$Told" "till" "I" ∈ zTw := zt1 77 (by rfl) rfl
set_option maxRecDepth 20000 in
theorem kw_1_78 : Cond.fieldLink "ClassOfMany" 144 "ClassOfMany$Told" "till" "I" ∈ zTw := zt1 78 (by rfl) rfl
set_option maxRecDepth 20000 in
theorem kw_1_79 : Cond.fieldLink "ClassOfMany$Told" 58 "ClassOfMany$Told" "lines" "I" ∈ zTw := zt1 79 (by rfl) rfl
set_option maxRecDepth 20000 in
theorem kw_1_80 : Cond.fieldLink "ClassOfMany" 231 "ClassOfMany$Told" "lines" "I" ∈ zTw := zt1 80 (by rfl) rfl
set_option maxRecDepth 20000 in
theorem kw_1_81 : Cond.fieldLink "ClassOfMany$Told" 34 "ClassOfMany$Told" "sorts" "[I" ∈ zTw := zt1 81 (by rfl) rfl
set_option maxRecDepth 20000 in
theorem kw_1_82 : Cond.fieldLink "ClassOfMany" 234 "ClassOfMany$Told" "sorts" "[I" ∈ zTw := zt1 82 (by rfl) rfl
set_option maxRecDepth 20000 in
theorem kw_1_83 : Cond.fieldLink "ClassOfMany$Told" 37 "ClassOfMany$Told" "starts" "[I" ∈ zTw := zt1 83 (by rfl) rfl
set_option maxRecDepth 20000 in
theorem kw_1_84 : Cond.fieldLink "ClassOfMany" 243 "ClassOfMany$Told" "starts" "[I" ∈ zTw := zt1 84 (by rfl) rfl
set_option maxRecDepth 20000 in
theorem kw_1_85 : Cond.fieldLink "ClassOfMany$Told" 40 "ClassOfMany$Told" "sizes" "[I" ∈ zTw := zt1 85 (by rfl) rfl
set_option maxRecDepth 20000 in
theorem kw_1_86 : Cond.fieldLink "ClassOfMany" 237 "ClassOfMany$Told" "sizes" "[I" ∈ zTw := zt1 86 (by rfl) rfl
set_option maxRecDepth 20000 in
theorem kw_1_87 : Cond.fieldLink "ClassOfMany$Told" 61 "ClassOfMany$Told" "used" "I" ∈ zTw := zt1 87 (by rfl) rfl
set_option maxRecDepth 20000 in
theorem kw_1_88 : Cond.fieldLink "ClassOfMany$Told" 43 "ClassOfMany$Told" "numbers" "[I" ∈ zTw := zt1 88 (by rfl) rfl
set_option maxRecDepth 20000 in
theorem kw_1_89 : Cond.fieldLink "ClassOfMany" 240 "ClassOfMany$Told" "numbers" "[I" ∈ zTw := zt1 89 (by rfl) rfl
set_option maxRecDepth 20000 in
theorem kw_1_132 : Cond.fieldLink "ClassOfMany$Standing" 22 "ClassOfMany$Standing" "today" "I" ∈ zTw := zt1 132 (by rfl) rfl
set_option maxRecDepth 20000 in
theorem kw_1_133 : Cond.fieldLink "ClassOfMany" 98 "ClassOfMany$Standing" "today" "I" ∈ zTw := zt1 133 (by rfl) rfl
set_option maxRecDepth 20000 in
theorem kw_1_134 : Cond.fieldLink "ClassOfMany$Standing" 25 "ClassOfMany$Standing" "order" "I" ∈ zTw := zt1 134 (by rfl) rfl
set_option maxRecDepth 20000 in
theorem kw_1_135 : Cond.fieldLink "ClassOfMany$Reader" 65 "ClassOfMany$Standing" "order" "I" ∈ zTw := zt1 135 (by rfl) rfl
set_option maxRecDepth 20000 in
theorem kw_1_136 : Cond.fieldLink "ClassOfMany" 110 "ClassOfMany$Standing" "order" "I" ∈ zTw := zt1 136 (by rfl) rfl
set_option maxRecDepth 20000 in
theorem kw_1_137 : Cond.fieldLink "ClassOfMany$Standing" 9 "ClassOfMany$Standing" "sentDay" "I" ∈ zTw := zt1 137 (by rfl) rfl
set_option maxRecDepth 20000 in
theorem kw_1_138 : Cond.fieldLink "ClassOfMany" 120 "ClassOfMany$Standing" "sentDay" "I" ∈ zTw := zt1 138 (by rfl) rfl
set_option maxRecDepth 20000 in
theorem kw_1_139 : Cond.fieldLink "ClassOfMany$Payer" 43 "ClassOfMany$Standing" "costs" "I" ∈ zTw := zt1 139 (by rfl) rfl
set_option maxRecDepth 20000 in
theorem kw_1_140 : Cond.fieldLink "ClassOfMany$Standing" 28 "ClassOfMany$Standing" "costs" "I" ∈ zTw := zt1 140 (by rfl) rfl
set_option maxRecDepth 20000 in
theorem kw_1_141 : Cond.fieldLink "ClassOfMany" 127 "ClassOfMany$Standing" "costs" "I" ∈ zTw := zt1 141 (by rfl) rfl
set_option maxRecDepth 20000 in
theorem kw_1_142 : Cond.fieldLink "ClassOfMany$Splitter" 35 "ClassOfMany$Standing" "out" "I" ∈ zTw := zt1 142 (by rfl) rfl
set_option maxRecDepth 20000 in
theorem kw_1_143 : Cond.fieldLink "ClassOfMany$Standing" 31 "ClassOfMany$Standing" "out" "I" ∈ zTw := zt1 143 (by rfl) rfl
set_option maxRecDepth 20000 in
theorem kw_1_144 : Cond.fieldLink "ClassOfMany$Payer" 116 "ClassOfMany$Standing" "out" "I" ∈ zTw := zt1 144 (by rfl) rfl
set_option maxRecDepth 20000 in
theorem kw_1_145 : Cond.fieldLink "ClassOfMany$Resting" 58 "ClassOfMany$Standing" "out" "I" ∈ zTw := zt1 145 (by rfl) rfl
set_option maxRecDepth 20000 in
theorem kw_1_146 : Cond.fieldLink "ClassOfMany" 134 "ClassOfMany$Standing" "out" "I" ∈ zTw := zt1 146 (by rfl) rfl
set_option maxRecDepth 20000 in
theorem kw_1_147 : Cond.fieldLink "ClassOfMany$Standing" 34 "ClassOfMany$Standing" "filed" "I" ∈ zTw := zt1 147 (by rfl) rfl
set_option maxRecDepth 20000 in
theorem kw_1_148 : Cond.fieldLink "ClassOfMany$Payer" 113 "ClassOfMany$Standing" "filed" "I" ∈ zTw := zt1 148 (by rfl) rfl
set_option maxRecDepth 20000 in
theorem kw_1_149 : Cond.fieldLink "ClassOfMany$Resting" 52 "ClassOfMany$Standing" "filed" "I" ∈ zTw := zt1 149 (by rfl) rfl
set_option maxRecDepth 20000 in
theorem kw_1_150 : Cond.fieldLink "ClassOfMany" 153 "ClassOfMany$Standing" "filed" "I" ∈ zTw := zt1 150 (by rfl) rfl
set_option maxRecDepth 20000 in
theorem kw_1_151 : Cond.fieldLink "ClassOfMany$Standing" 37 "ClassOfMany$Standing" "lazy" "I" ∈ zTw := zt1 151 (by rfl) rfl
set_option maxRecDepth 20000 in
theorem kw_1_152 : Cond.fieldLink "ClassOfMany$Payer" 130 "ClassOfMany$Standing" "lazy" "I" ∈ zTw := zt1 152 (by rfl) rfl
set_option maxRecDepth 20000 in
theorem kw_1_153 : Cond.fieldLink "ClassOfMany$Resting" 55 "ClassOfMany$Standing" "lazy" "I" ∈ zTw := zt1 153 (by rfl) rfl
set_option maxRecDepth 20000 in
theorem kw_1_154 : Cond.fieldLink "ClassOfMany" 156 "ClassOfMany$Standing" "lazy" "I" ∈ zTw := zt1 154 (by rfl) rfl
set_option maxRecDepth 20000 in
theorem kw_1_155 : Cond.fieldLink "ClassOfMany$Payer" 49 "ClassOfMany$Standing" "fund" "I" ∈ zTw := zt1 155 (by rfl) rfl
set_option maxRecDepth 20000 in
theorem kw_1_156 : Cond.fieldLink "ClassOfMany$Standing" 40 "ClassOfMany$Standing" "fund" "I" ∈ zTw := zt1 156 (by rfl) rfl
set_option maxRecDepth 20000 in
theorem kw_1_157 : Cond.fieldLink "ClassOfMany$Reader" 81 "ClassOfMany$Standing" "fund" "I" ∈ zTw := zt1 157 (by rfl) rfl
set_option maxRecDepth 20000 in
theorem kw_1_158 : Cond.fieldLink "ClassOfMany" 162 "ClassOfMany$Standing" "fund" "I" ∈ zTw := zt1 158 (by rfl) rfl
set_option maxRecDepth 20000 in
theorem kw_1_159 : Cond.fieldLink "ClassOfMany$Standing" 43 "ClassOfMany$Standing" "rule" "I" ∈ zTw := zt1 159 (by rfl) rfl
set_option maxRecDepth 20000 in
theorem kw_1_160 : Cond.fieldLink "ClassOfMany$Payer" 93 "ClassOfMany$Standing" "rule" "I" ∈ zTw := zt1 160 (by rfl) rfl
set_option maxRecDepth 20000 in
theorem kw_1_161 : Cond.fieldLink "ClassOfMany" 168 "ClassOfMany$Standing" "rule" "I" ∈ zTw := zt1 161 (by rfl) rfl
set_option maxRecDepth 20000 in
theorem kw_1_162 : Cond.fieldLink "ClassOfMany$Standing" 46 "ClassOfMany$Standing" "periodFrom" "I" ∈ zTw := zt1 162 (by rfl) rfl
set_option maxRecDepth 20000 in
theorem kw_1_163 : Cond.fieldLink "ClassOfMany$Reader" 93 "ClassOfMany$Standing" "periodFrom" "I" ∈ zTw := zt1 163 (by rfl) rfl
set_option maxRecDepth 20000 in
theorem kw_1_164 : Cond.fieldLink "ClassOfMany" 171 "ClassOfMany$Standing" "periodFrom" "I" ∈ zTw := zt1 164 (by rfl) rfl
set_option maxRecDepth 20000 in
theorem kw_1_165 : Cond.fieldLink "ClassOfMany$Standing" 15 "ClassOfMany$Standing" "periodTo" "I" ∈ zTw := zt1 165 (by rfl) rfl
set_option maxRecDepth 20000 in
theorem kw_1_166 : Cond.fieldLink "ClassOfMany$Reader" 96 "ClassOfMany$Standing" "periodTo" "I" ∈ zTw := zt1 166 (by rfl) rfl
set_option maxRecDepth 20000 in
theorem kw_1_167 : Cond.fieldLink "ClassOfMany" 174 "ClassOfMany$Standing" "periodTo" "I" ∈ zTw := zt1 167 (by rfl) rfl
set_option maxRecDepth 20000 in
theorem kw_1_168 : Cond.fieldLink "ClassOfMany$Standing" 18 "ClassOfMany$Standing" "foes" "[I" ∈ zTw := zt1 168 (by rfl) rfl
set_option maxRecDepth 20000 in
theorem kw_1_169 : Cond.fieldLink "ClassOfMany$Splitter" 46 "ClassOfMany$Standing" "foes" "[I" ∈ zTw := zt1 169 (by rfl) rfl
set_option maxRecDepth 20000 in
theorem kw_1_170 : Cond.fieldLink "ClassOfMany$Reader" 171 "ClassOfMany$Standing" "foes" "[I" ∈ zTw := zt1 170 (by rfl) rfl
set_option maxRecDepth 20000 in
theorem kw_1_171 : Cond.fieldLink "ClassOfMany" 190 "ClassOfMany$Standing" "foes" "[I" ∈ zTw := zt1 171 (by rfl) rfl
set_option maxRecDepth 20000 in
theorem kw_1_206 : Cond.fieldLink "ClassOfMany$Journal" 11 "ClassOfMany$Journal" "kept" "[LClassOfMany$Standing;" ∈ zTw := zt1 206 (by rfl) rfl
set_option maxRecDepth 20000 in
theorem kw_1_207 : Cond.fieldLink "ClassOfMany$Journal" 18 "ClassOfMany$Journal" "next" "I" ∈ zTw := zt1 207 (by rfl) rfl
set_option maxRecDepth 20000 in
theorem kw_1_208 : Cond.fieldLink "ClassOfMany$Journal" 26 "ClassOfMany$Journal" "size" "I" ∈ zTw := zt1 208 (by rfl) rfl
set_option maxRecDepth 20000 in
theorem kw_1_209 : Cond.fieldLink "ClassOfMany" 194 "ClassOfMany$Journal" "size" "I" ∈ zTw := zt1 209 (by rfl) rfl
set_option maxRecDepth 20000 in
theorem kw_1_227 : Cond.fieldLink "ClassOfMany$Reader" 9 "ClassOfMany$Reader" "tape" "[I" ∈ zTw := zt1 227 (by rfl) rfl
set_option maxRecDepth 20000 in
theorem kw_1_228 : Cond.fieldLink "ClassOfMany" 68 "ClassOfMany$Reader" "length" "I" ∈ zTw := zt1 228 (by rfl) rfl
set_option maxRecDepth 20000 in
theorem kw_1_229 : Cond.fieldLink "ClassOfMany$Reader" 29 "ClassOfMany$Reader" "length" "I" ∈ zTw := zt1 229 (by rfl) rfl
set_option maxRecDepth 20000 in
theorem kw_1_230 : Cond.fieldLink "ClassOfMany$Reader" 37 "ClassOfMany$Reader" "at" "I" ∈ zTw := zt1 230 (by rfl) rfl
set_option maxRecDepth 20000 in
theorem kw_1_231 : Cond.fieldLink "ClassOfMany$Reader" 165 "ClassOfMany$Reader" "lastNumber" "I" ∈ zTw := zt1 231 (by rfl) rfl
set_option maxRecDepth 20000 in
theorem kw_1_232 : Cond.fieldLink "ClassOfMany$Reader" 40 "ClassOfMany$Reader" "fault" "I" ∈ zTw := zt1 232 (by rfl) rfl
set_option maxRecDepth 20000 in
theorem kw_1_233 : Cond.fieldLink "ClassOfMany$Reader" 43 "ClassOfMany$Reader" "seenSorts" "I" ∈ zTw := zt1 233 (by rfl) rfl
set_option maxRecDepth 20000 in
theorem kw_1_234 : Cond.fieldLink "ClassOfMany$Reader" 18 "ClassOfMany$Reader" "told" "LClassOfMany$Told;" ∈ zTw := zt1 234 (by rfl) rfl
set_option maxRecDepth 20000 in
theorem kw_1_235 : Cond.fieldLink "ClassOfMany" 80 "ClassOfMany$Reader" "told" "LClassOfMany$Told;" ∈ zTw := zt1 235 (by rfl) rfl
set_option maxRecDepth 20000 in
theorem kw_1_236 : Cond.fieldLink "ClassOfMany$Reader" 25 "ClassOfMany$Reader" "standing" "LClassOfMany$Standing;" ∈ zTw := zt1 236 (by rfl) rfl
set_option maxRecDepth 20000 in
theorem kw_1_237 : Cond.fieldLink "ClassOfMany" 81 "ClassOfMany$Reader" "standing" "LClassOfMany$Standing;" ∈ zTw := zt1 237 (by rfl) rfl
set_option maxRecDepth 20000 in
theorem kw_2_21 : Cond.fieldLink "ClassOfMany$Splitter" 34 "ClassOfMany$Splitter" "members" "I" ∈ zTw := zt2 21 (by rfl) rfl
set_option maxRecDepth 20000 in
theorem kw_2_22 : Cond.fieldLink "ClassOfMany$Splitter" 40 "ClassOfMany$Splitter" "in" "I" ∈ zTw := zt2 22 (by rfl) rfl
set_option maxRecDepth 20000 in
theorem kw_2_23 : Cond.fieldLink "ClassOfMany$Splitter" 61 "ClassOfMany$Splitter" "limit" "I" ∈ zTw := zt2 23 (by rfl) rfl
set_option maxRecDepth 20000 in
theorem kw_2_24 : Cond.fieldLink "ClassOfMany$Splitter" 9 "ClassOfMany$Splitter" "foes" "[I" ∈ zTw := zt2 24 (by rfl) rfl
set_option maxRecDepth 20000 in
theorem kw_2_25 : Cond.fieldLink "ClassOfMany$Splitter" 15 "ClassOfMany$Splitter" "groups" "[I" ∈ zTw := zt2 25 (by rfl) rfl
set_option maxRecDepth 20000 in
theorem kw_2_26 : Cond.fieldLink "ClassOfMany" 274 "ClassOfMany$Splitter" "groups" "[I" ∈ zTw := zt2 26 (by rfl) rfl
set_option maxRecDepth 20000 in
theorem kw_2_27 : Cond.fieldLink "ClassOfMany$Splitter" 43 "ClassOfMany$Splitter" "size" "I" ∈ zTw := zt2 27 (by rfl) rfl
set_option maxRecDepth 20000 in
theorem kw_2_28 : Cond.fieldLink "ClassOfMany" 267 "ClassOfMany$Splitter" "size" "I" ∈ zTw := zt2 28 (by rfl) rfl
set_option maxRecDepth 20000 in
theorem kw_2_29 : Cond.fieldLink "ClassOfMany$Splitter" 18 "ClassOfMany$Splitter" "peaceful" "[Z" ∈ zTw := zt2 29 (by rfl) rfl
set_option maxRecDepth 20000 in
theorem kw_2_30 : Cond.fieldLink "ClassOfMany$Splitter" 22 "ClassOfMany$Splitter" "ways" "[I" ∈ zTw := zt2 30 (by rfl) rfl
set_option maxRecDepth 20000 in
theorem kw_2_31 : Cond.fieldLink "ClassOfMany$Splitter" 25 "ClassOfMany$Splitter" "fewerWays" "[I" ∈ zTw := zt2 31 (by rfl) rfl
set_option maxRecDepth 20000 in
theorem kw_2_58 : Cond.fieldLink "ClassOfMany$Payer" 9 "ClassOfMany$Payer" "claims" "[I" ∈ zTw := zt2 58 (by rfl) rfl
set_option maxRecDepth 20000 in
theorem kw_2_59 : Cond.fieldLink "ClassOfMany" 341 "ClassOfMany$Payer" "claims" "[I" ∈ zTw := zt2 59 (by rfl) rfl
set_option maxRecDepth 20000 in
theorem kw_2_60 : Cond.fieldLink "ClassOfMany$Payer" 15 "ClassOfMany$Payer" "groupOf" "[I" ∈ zTw := zt2 60 (by rfl) rfl
set_option maxRecDepth 20000 in
theorem kw_2_61 : Cond.fieldLink "ClassOfMany$Payer" 18 "ClassOfMany$Payer" "groupClaims" "[I" ∈ zTw := zt2 61 (by rfl) rfl
set_option maxRecDepth 20000 in
theorem kw_2_62 : Cond.fieldLink "ClassOfMany$Payer" 21 "ClassOfMany$Payer" "groupHeads" "[I" ∈ zTw := zt2 62 (by rfl) rfl
set_option maxRecDepth 20000 in
theorem kw_2_63 : Cond.fieldLink "ClassOfMany$Payer" 24 "ClassOfMany$Payer" "pots" "[I" ∈ zTw := zt2 63 (by rfl) rfl
set_option maxRecDepth 20000 in
theorem kw_2_64 : Cond.fieldLink "ClassOfMany" 323 "ClassOfMany$Payer" "pots" "[I" ∈ zTw := zt2 64 (by rfl) rfl
set_option maxRecDepth 20000 in
theorem kw_2_65 : Cond.fieldLink "ClassOfMany$Payer" 27 "ClassOfMany$Payer" "paidTo" "[I" ∈ zTw := zt2 65 (by rfl) rfl
set_option maxRecDepth 20000 in
theorem kw_2_66 : Cond.fieldLink "ClassOfMany$Resting" 78 "ClassOfMany$Payer" "paidTo" "[I" ∈ zTw := zt2 66 (by rfl) rfl
set_option maxRecDepth 20000 in
theorem kw_2_67 : Cond.fieldLink "ClassOfMany" 326 "ClassOfMany$Payer" "paidTo" "[I" ∈ zTw := zt2 67 (by rfl) rfl
set_option maxRecDepth 20000 in
theorem kw_2_68 : Cond.fieldLink "ClassOfMany$Payer" 30 "ClassOfMany$Payer" "hadIn" "[I" ∈ zTw := zt2 68 (by rfl) rfl
set_option maxRecDepth 20000 in
theorem kw_2_69 : Cond.fieldLink "ClassOfMany" 329 "ClassOfMany$Payer" "hadIn" "[I" ∈ zTw := zt2 69 (by rfl) rfl
set_option maxRecDepth 20000 in
theorem kw_2_70 : Cond.fieldLink "ClassOfMany$Payer" 88 "ClassOfMany$Payer" "members" "I" ∈ zTw := zt2 70 (by rfl) rfl
set_option maxRecDepth 20000 in
theorem kw_2_71 : Cond.fieldLink "ClassOfMany$Payer" 92 "ClassOfMany$Payer" "least" "I" ∈ zTw := zt2 71 (by rfl) rfl
set_option maxRecDepth 20000 in
theorem kw_2_72 : Cond.fieldLink "ClassOfMany$Payer" 96 "ClassOfMany$Payer" "rule" "I" ∈ zTw := zt2 72 (by rfl) rfl
set_option maxRecDepth 20000 in
theorem kw_2_73 : Cond.fieldLink "ClassOfMany$Payer" 97 "ClassOfMany$Payer" "counted" "I" ∈ zTw := zt2 73 (by rfl) rfl
set_option maxRecDepth 20000 in
theorem kw_2_74 : Cond.fieldLink "ClassOfMany" 338 "ClassOfMany$Payer" "counted" "I" ∈ zTw := zt2 74 (by rfl) rfl
set_option maxRecDepth 20000 in
theorem kw_2_75 : Cond.fieldLink "ClassOfMany$Payer" 133 "ClassOfMany$Payer" "hungry" "I" ∈ zTw := zt2 75 (by rfl) rfl
set_option maxRecDepth 20000 in
theorem kw_2_76 : Cond.fieldLink "ClassOfMany$Payer" 103 "ClassOfMany$Payer" "claimsInAll" "I" ∈ zTw := zt2 76 (by rfl) rfl
set_option maxRecDepth 20000 in
theorem kw_2_77 : Cond.fieldLink "ClassOfMany" 332 "ClassOfMany$Payer" "claimsInAll" "I" ∈ zTw := zt2 77 (by rfl) rfl
set_option maxRecDepth 20000 in
theorem kw_2_78 : Cond.fieldLink "ClassOfMany$Payer" 100 "ClassOfMany$Payer" "heads" "I" ∈ zTw := zt2 78 (by rfl) rfl
set_option maxRecDepth 20000 in
theorem kw_2_79 : Cond.fieldLink "ClassOfMany" 317 "ClassOfMany$Payer" "heads" "I" ∈ zTw := zt2 79 (by rfl) rfl
set_option maxRecDepth 20000 in
theorem kw_2_80 : Cond.fieldLink "ClassOfMany$Payer" 106 "ClassOfMany$Payer" "groupsPaid" "I" ∈ zTw := zt2 80 (by rfl) rfl
set_option maxRecDepth 20000 in
theorem kw_2_81 : Cond.fieldLink "ClassOfMany$Payer" 56 "ClassOfMany$Payer" "net" "I" ∈ zTw := zt2 81 (by rfl) rfl
set_option maxRecDepth 20000 in
theorem kw_2_82 : Cond.fieldLink "ClassOfMany" 308 "ClassOfMany$Payer" "net" "I" ∈ zTw := zt2 82 (by rfl) rfl
set_option maxRecDepth 20000 in
theorem kw_2_83 : Cond.fieldLink "ClassOfMany$Payer" 69 "ClassOfMany$Payer" "rounds" "I" ∈ zTw := zt2 83 (by rfl) rfl
set_option maxRecDepth 20000 in
theorem kw_2_84 : Cond.fieldLink "ClassOfMany" 314 "ClassOfMany$Payer" "rounds" "I" ∈ zTw := zt2 84 (by rfl) rfl
set_option maxRecDepth 20000 in
theorem kw_2_85 : Cond.fieldLink "ClassOfMany$Payer" 72 "ClassOfMany$Payer" "left" "I" ∈ zTw := zt2 85 (by rfl) rfl
set_option maxRecDepth 20000 in
theorem kw_2_86 : Cond.fieldLink "ClassOfMany" 311 "ClassOfMany$Payer" "left" "I" ∈ zTw := zt2 86 (by rfl) rfl
set_option maxRecDepth 20000 in
theorem kw_2_130 : Cond.fieldLink "ClassOfMany$Resting" 21 "ClassOfMany$Resting" "known" "Z" ∈ zTw := zt2 130 (by rfl) rfl
set_option maxRecDepth 20000 in
theorem kw_2_131 : Cond.fieldLink "ClassOfMany$Resting" 25 "ClassOfMany$Resting" "odds" "I" ∈ zTw := zt2 131 (by rfl) rfl
set_option maxRecDepth 20000 in
theorem kw_2_132 : Cond.fieldLink "ClassOfMany$Resting" 29 "ClassOfMany$Resting" "suit" "I" ∈ zTw := zt2 132 (by rfl) rfl
set_option maxRecDepth 20000 in
theorem kw_2_133 : Cond.fieldLink "ClassOfMany$Resting" 32 "ClassOfMany$Resting" "size" "I" ∈ zTw := zt2 133 (by rfl) rfl
set_option maxRecDepth 20000 in
theorem kw_2_134 : Cond.fieldLink "ClassOfMany" 371 "ClassOfMany$Resting" "size" "I" ∈ zTw := zt2 134 (by rfl) rfl
set_option maxRecDepth 20000 in
theorem kw_2_135 : Cond.fieldLink "ClassOfMany$Resting" 9 "ClassOfMany$Resting" "sets" "[I" ∈ zTw := zt2 135 (by rfl) rfl
set_option maxRecDepth 20000 in
theorem kw_2_136 : Cond.fieldLink "ClassOfMany" 372 "ClassOfMany$Resting" "sets" "[I" ∈ zTw := zt2 136 (by rfl) rfl
set_option maxRecDepth 20000 in
theorem kw_2_137 : Cond.fieldLink "ClassOfMany$Resting" 15 "ClassOfMany$Resting" "gladIn" "[I" ∈ zTw := zt2 137 (by rfl) rfl
set_option maxRecDepth 20000 in
theorem kw_2_138 : Cond.fieldLink "ClassOfMany$Resting" 18 "ClassOfMany$Resting" "outside" "[I" ∈ zTw := zt2 138 (by rfl) rfl
set_option maxRecDepth 20000 in
theorem kw_2_160 : Cond.fieldLink "ClassOfMany$Page" 9 "ClassOfMany$Page" "row" "[B" ∈ zTw := zt2 160 (by rfl) rfl
set_option maxRecDepth 20000 in
theorem kw_2_161 : Cond.fieldLink "ClassOfMany$Page" 15 "ClassOfMany$Page" "size" "I" ∈ zTw := zt2 161 (by rfl) rfl
set_option maxRecDepth 20000 in
theorem kw_2_168 : Cond.fieldLink "ClassOfMany" 12 "ClassOfMany" "told" "LClassOfMany$Told;" ∈ zTw := zt2 168 (by rfl) rfl
set_option maxRecDepth 20000 in
theorem kw_2_169 : Cond.fieldLink "ClassOfMany" 19 "ClassOfMany" "now" "LClassOfMany$Standing;" ∈ zTw := zt2 169 (by rfl) rfl
set_option maxRecDepth 20000 in
theorem kw_2_170 : Cond.fieldLink "ClassOfMany" 23 "ClassOfMany" "were" "LClassOfMany$Standing;" ∈ zTw := zt2 170 (by rfl) rfl
set_option maxRecDepth 20000 in
theorem kw_2_171 : Cond.fieldLink "ClassOfMany" 29 "ClassOfMany" "journal" "LClassOfMany$Journal;" ∈ zTw := zt2 171 (by rfl) rfl
set_option maxRecDepth 20000 in
theorem kw_2_172 : Cond.fieldLink "ClassOfMany" 36 "ClassOfMany" "reader" "LClassOfMany$Reader;" ∈ zTw := zt2 172 (by rfl) rfl
set_option maxRecDepth 20000 in
theorem kw_2_173 : Cond.fieldLink "ClassOfMany" 43 "ClassOfMany" "splitter" "LClassOfMany$Splitter;" ∈ zTw := zt2 173 (by rfl) rfl
set_option maxRecDepth 20000 in
theorem kw_2_174 : Cond.fieldLink "ClassOfMany" 50 "ClassOfMany" "payer" "LClassOfMany$Payer;" ∈ zTw := zt2 174 (by rfl) rfl
set_option maxRecDepth 20000 in
theorem kw_2_175 : Cond.fieldLink "ClassOfMany" 57 "ClassOfMany" "resting" "LClassOfMany$Resting;" ∈ zTw := zt2 175 (by rfl) rfl
set_option maxRecDepth 20000 in
theorem kw_2_176 : Cond.fieldLink "ClassOfMany" 64 "ClassOfMany" "page" "LClassOfMany$Page;" ∈ zTw := zt2 176 (by rfl) rfl
set_option maxRecDepth 20000 in
theorem kw_2_197 : Cond.instanceMethod ⟨"ClassOfMany", "feed", "(IIIII)I"⟩ ∈ zTw := zt2 197 (by rfl) rfl
set_option maxRecDepth 20000 in
theorem kw_2_198 : Cond.selects "ClassOfMany" ⟨"ClassOfMany", "feed", "(IIIII)I"⟩ ⟨"ClassOfMany", "feed", "(IIIII)I"⟩ ∈ zTw := zt2 198 (by rfl) rfl
set_option maxRecDepth 20000 in
theorem kw_2_199 : Cond.code ⟨"ClassOfMany", "feed", "(IIIII)I"⟩ prog_1_method_2_code 6 (some .int) ∈ zTw := zt2 199 (by rfl) rfl
set_option maxRecDepth 20000 in
theorem kw_2_200 : Cond.methodLink "ClassOfMany" 72 ⟨"ClassOfMany$Reader", "putFour", "(I)V"⟩ ∈ zTw := zt2 200 (by rfl) rfl
set_option maxRecDepth 20000 in
theorem kw_2_201 : Cond.instanceMethod ⟨"ClassOfMany$Reader", "putFour", "(I)V"⟩ ∈ zTw := zt2 201 (by rfl) rfl
set_option maxRecDepth 20000 in
theorem kw_2_202 : Cond.selects "ClassOfMany$Reader" ⟨"ClassOfMany$Reader", "putFour", "(I)V"⟩ ⟨"ClassOfMany$Reader", "putFour", "(I)V"⟩ ∈ zTw := zt2 202 (by rfl) rfl
set_option maxRecDepth 20000 in
theorem kw_2_203 : Cond.code ⟨"ClassOfMany$Reader", "putFour", "(I)V"⟩ prog_6_method_2_code 3 none ∈ zTw := zt2 203 (by rfl) rfl
set_option maxRecDepth 20000 in
theorem kw_2_205 : Cond.instanceMethod ⟨"ClassOfMany", "back", "(I)I"⟩ ∈ zTw := zt2 205 (by rfl) rfl
set_option maxRecDepth 20000 in
theorem kw_2_206 : Cond.selects "ClassOfMany" ⟨"ClassOfMany", "back", "(I)I"⟩ ⟨"ClassOfMany", "back", "(I)I"⟩ ∈ zTw := zt2 206 (by rfl) rfl
set_option maxRecDepth 20000 in
theorem kw_2_207 : Cond.code ⟨"ClassOfMany", "back", "(I)I"⟩ prog_1_method_3_code 2 (some .int) ∈ zTw := zt2 207 (by rfl) rfl
set_option maxRecDepth 20000 in
theorem kw_2_209 : Cond.instanceMethod ⟨"ClassOfMany", "text", "()I"⟩ ∈ zTw := zt2 209 (by rfl) rfl
set_option maxRecDepth 20000 in
theorem kw_2_210 : Cond.selects "ClassOfMany" ⟨"ClassOfMany", "text", "()I"⟩ ⟨"ClassOfMany", "text", "()I"⟩ ∈ zTw := zt2 210 (by rfl) rfl
set_option maxRecDepth 20000 in
theorem kw_2_211 : Cond.code ⟨"ClassOfMany", "text", "()I"⟩ prog_1_method_4_code 3 (some .int) ∈ zTw := zt2 211 (by rfl) rfl
set_option maxRecDepth 20000 in
theorem kw_2_212 : Cond.methodLink "ClassOfMany" 76 ⟨"ClassOfMany$Reader", "read", "()I"⟩ ∈ zTw := zt2 212 (by rfl) rfl
set_option maxRecDepth 20000 in
theorem kw_2_213 : Cond.instanceMethod ⟨"ClassOfMany$Reader", "read", "()I"⟩ ∈ zTw := zt2 213 (by rfl) rfl
set_option maxRecDepth 20000 in
theorem kw_2_214 : Cond.selects "ClassOfMany$Reader" ⟨"ClassOfMany$Reader", "read", "()I"⟩ ⟨"ClassOfMany$Reader", "read", "()I"⟩ ∈ zTw := zt2 214 (by rfl) rfl
set_option maxRecDepth 20000 in
theorem kw_2_215 : Cond.code ⟨"ClassOfMany$Reader", "read", "()I"⟩ prog_6_method_3_code 2 (some .int) ∈ zTw := zt2 215 (by rfl) rfl
set_option maxRecDepth 20000 in
theorem kw_2_216 : Cond.methodLink "ClassOfMany$Reader" 33 ⟨"ClassOfMany$Told", "clear", "()V"⟩ ∈ zTw := zt2 216 (by rfl) rfl
set_option maxRecDepth 20000 in
theorem kw_2_217 : Cond.instanceMethod ⟨"ClassOfMany$Told", "clear", "()V"⟩ ∈ zTw := zt2 217 (by rfl) rfl
set_option maxRecDepth 20000 in
theorem kw_2_218 : Cond.selects "ClassOfMany$Told" ⟨"ClassOfMany$Told", "clear", "()V"⟩ ⟨"ClassOfMany$Told", "clear", "()V"⟩ ∈ zTw := zt2 218 (by rfl) rfl
set_option maxRecDepth 20000 in
theorem kw_2_219 : Cond.code ⟨"ClassOfMany$Told", "clear", "()V"⟩ prog_10_method_2_code 1 none ∈ zTw := zt2 219 (by rfl) rfl
set_option maxRecDepth 20000 in
theorem kw_2_220 : Cond.methodLink "ClassOfMany$Reader" 36 ⟨"ClassOfMany$Standing", "clear", "()V"⟩ ∈ zTw := zt2 220 (by rfl) rfl
set_option maxRecDepth 20000 in
theorem kw_2_221 : Cond.instanceMethod ⟨"ClassOfMany$Standing", "clear", "()V"⟩ ∈ zTw := zt2 221 (by rfl) rfl
set_option maxRecDepth 20000 in
theorem kw_2_222 : Cond.selects "ClassOfMany$Standing" ⟨"ClassOfMany$Standing", "clear", "()V"⟩ ⟨"ClassOfMany$Standing", "clear", "()V"⟩ ∈ zTw := zt2 222 (by rfl) rfl
set_option maxRecDepth 20000 in
theorem kw_2_223 : Cond.code ⟨"ClassOfMany$Standing", "clear", "()V"⟩ prog_9_method_2_code 1 none ∈ zTw := zt2 223 (by rfl) rfl
set_option maxRecDepth 20000 in
theorem kw_2_224 : Cond.methodLink "ClassOfMany$Standing" 49 ⟨"java/util/Arrays", "fill", "([II)V"⟩ ∈ zTw := zt2 224 (by rfl) rfl
set_option maxRecDepth 20000 in
theorem kw_2_225 : Cond.static ⟨"java/util/Arrays", "fill", "([II)V"⟩ ∈ zTw := zt2 225 (by rfl) rfl
set_option maxRecDepth 20000 in
theorem kw_2_226 : Cond.code ⟨"java/util/Arrays", "fill", "([II)V"⟩ prog_19_method_103_code 4 none ∈ zTw := zt2 226 (by rfl) rfl
set_option maxRecDepth 20000 in
theorem kw_2_227 : Cond.methodLink "ClassOfMany$Reader" 46 ⟨"ClassOfMany$Reader", "skipBlanks", "()V"⟩ ∈ zTw := zt2 227 (by rfl) rfl
set_option maxRecDepth 20000 in
theorem kw_2_229 : Cond.instanceMethod ⟨"ClassOfMany$Reader", "skipBlanks", "()V"⟩ ∈ zTw := zt2 229 (by rfl) rfl
set_option maxRecDepth 20000 in
theorem kw_2_230 : Cond.code ⟨"ClassOfMany$Reader", "skipBlanks", "()V"⟩ prog_6_method_15_code 1 none ∈ zTw := zt2 230 (by rfl) rfl
set_option maxRecDepth 20000 in
theorem kw_2_231 : Cond.methodLink "ClassOfMany$Reader" 49 ⟨"ClassOfMany$Reader", "isRight", "()Z"⟩ ∈ zTw := zt2 231 (by rfl) rfl
set_option maxRecDepth 20000 in
theorem kw_2_233 : Cond.instanceMethod ⟨"ClassOfMany$Reader", "isRight", "()Z"⟩ ∈ zTw := zt2 233 (by rfl) rfl
set_option maxRecDepth 20000 in
theorem kw_2_234 : Cond.code ⟨"ClassOfMany$Reader", "isRight", "()Z"⟩ prog_6_method_4_code 1 (some .boolean) ∈ zTw := zt2 234 (by rfl) rfl
set_option maxRecDepth 20000 in
theorem kw_2_235 : Cond.methodLink "ClassOfMany$Reader" 53 ⟨"ClassOfMany$Reader", "readLine", "()V"⟩ ∈ zTw := zt2 235 (by rfl) rfl
set_option maxRecDepth 20000 in
theorem kw_2_237 : Cond.instanceMethod ⟨"ClassOfMany$Reader", "readLine", "()V"⟩ ∈ zTw := zt2 237 (by rfl) rfl
set_option maxRecDepth 20000 in
theorem kw_2_238 : Cond.code ⟨"ClassOfMany$Reader", "readLine", "()V"⟩ prog_6_method_6_code 2 none ∈ zTw := zt2 238 (by rfl) rfl
set_option maxRecDepth 20000 in
theorem kw_2_239 : Cond.methodLink "ClassOfMany$Reader" 68 ⟨"ClassOfMany$Reader", "readSort", "()I"⟩ ∈ zTw := zt2 239 (by rfl) rfl
set_option maxRecDepth 20000 in
theorem kw_3_1 : Cond.instanceMethod ⟨"ClassOfMany$Reader", "readSort", "()I"⟩ ∈ zTw := zt3 1 (by rfl) rfl
set_option maxRecDepth 20000 in
theorem kw_3_2 : Cond.code ⟨"ClassOfMany$Reader", "readSort", "()I"⟩ prog_6_method_7_code 4 (some .int) ∈ zTw := zt3 2 (by rfl) rfl
set_option maxRecDepth 20000 in
theorem kw_3_3 : Cond.methodLink "ClassOfMany$Reader" 111 ⟨"ClassOfMany$Reader", "wordEnd", "(I)I"⟩ ∈ zTw := zt3 3 (by rfl) rfl
set_option maxRecDepth 20000 in
theorem kw_3_5 : Cond.instanceMethod ⟨"ClassOfMany$Reader", "wordEnd", "(I)I"⟩ ∈ zTw := zt3 5 (by rfl) rfl
set_option maxRecDepth 20000 in
theorem kw_3_6 : Cond.code ⟨"ClassOfMany$Reader", "wordEnd", "(I)I"⟩ prog_6_method_16_code 3 (some .int) ∈ zTw := zt3 6 (by rfl) rfl
set_option maxRecDepth 20000 in
theorem kw_3_7 : Cond.methodLink "ClassOfMany$Reader" 157 ⟨"ClassOfMany$Reader", "isLetterAt", "(I)Z"⟩ ∈ zTw := zt3 7 (by rfl) rfl
set_option maxRecDepth 20000 in
theorem kw_3_9 : Cond.instanceMethod ⟨"ClassOfMany$Reader", "isLetterAt", "(I)Z"⟩ ∈ zTw := zt3 9 (by rfl) rfl
set_option maxRecDepth 20000 in
theorem kw_3_10 : Cond.code ⟨"ClassOfMany$Reader", "isLetterAt", "(I)Z"⟩ prog_6_method_18_code 2 (some .boolean) ∈ zTw := zt3 10 (by rfl) rfl
set_option maxRecDepth 20000 in
theorem kw_3_12 : Cond.static ⟨"ClassOfMany", "wordOf", "(I)Ljava/lang/String;"⟩ ∈ zTw := zt3 12 (by rfl) rfl
set_option maxRecDepth 20000 in
theorem kw_3_13 : Cond.code ⟨"ClassOfMany", "wordOf", "(I)Ljava/lang/String;"⟩ prog_1_method_81_code 1 (Option.some (.object "java/lang/String")) ∈ zTw := zt3 13 (by rfl) rfl
set_option maxRecDepth 20000 in
theorem kw_3_22 : Cond.methodLink "ClassOfMany$Reader" 118 ⟨"ClassOfMany$Reader", "isWord", "(Ljava/lang/String;II)Z"⟩ ∈ zTw := zt3 22 (by rfl) rfl
set_option maxRecDepth 20000 in
theorem kw_3_24 : Cond.instanceMethod ⟨"ClassOfMany$Reader", "isWord", "(Ljava/lang/String;II)Z"⟩ ∈ zTw := zt3 24 (by rfl) rfl
set_option maxRecDepth 20000 in
theorem kw_3_25 : Cond.code ⟨"ClassOfMany$Reader", "isWord", "(Ljava/lang/String;II)Z"⟩ prog_6_method_17_code 5 (some .boolean) ∈ zTw := zt3 25 (by rfl) rfl
set_option maxRecDepth 20000 in
theorem kw_3_26 : Cond.methodLink "ClassOfMany$Reader" 181 ⟨"java/lang/String", "length", "()I"⟩ ∈ zTw := zt3 26 (by rfl) rfl
set_option maxRecDepth 20000 in
theorem kw_3_27 : Cond.instanceMethod ⟨"java/lang/String", "length", "()I"⟩ ∈ zTw := zt3 27 (by rfl) rfl
set_option maxRecDepth 20000 in
theorem kw_3_28 : Cond.selects "java/lang/String" ⟨"java/lang/String", "length", "()I"⟩ ⟨"java/lang/String", "length", "()I"⟩ ∈ zTw := zt3 28 (by rfl) rfl
set_option maxRecDepth 20000 in
theorem kw_3_29 : Cond.code ⟨"java/lang/String", "length", "()I"⟩ prog_15_method_54_code 1 (some .int) ∈ zTw := zt3 29 (by rfl) rfl
set_option maxRecDepth 20000 in
theorem kw_3_30 : Cond.methodLink "java/lang/String" 335 ⟨"java/lang/String", "coder", "()B"⟩ ∈ zTw := zt3 30 (by rfl) rfl
set_option maxRecDepth 20000 in
theorem kw_3_31 : Cond.instanceMethod ⟨"java/lang/String", "coder", "()B"⟩ ∈ zTw := zt3 31 (by rfl) rfl
set_option maxRecDepth 20000 in
theorem kw_3_32 : Cond.selects "java/lang/String" ⟨"java/lang/String", "coder", "()B"⟩ ⟨"java/lang/String", "coder", "()B"⟩ ∈ zTw := zt3 32 (by rfl) rfl
set_option maxRecDepth 20000 in
theorem kw_3_33 : Cond.code ⟨"java/lang/String", "coder", "()B"⟩ prog_15_method_152_code 1 (some .byte) ∈ zTw := zt3 33 (by rfl) rfl
set_option maxRecDepth 20000 in
theorem kw_3_34 : Cond.fieldLink "java/lang/String" 38 "java/lang/String" "COMPACT_STRINGS" "Z" ∈ zTw := zt3 34 (by rfl) rfl
set_option maxRecDepth 20000 in
theorem kw_3_36 : Cond.methodLink "ClassOfMany$Reader" 185 ⟨"java/lang/String", "charAt", "(I)C"⟩ ∈ zTw := zt3 36 (by rfl) rfl
set_option maxRecDepth 20000 in
theorem kw_3_37 : Cond.instanceMethod ⟨"java/lang/String", "charAt", "(I)C"⟩ ∈ zTw := zt3 37 (by rfl) rfl
set_option maxRecDepth 20000 in
theorem kw_3_38 : Cond.selects "java/lang/String" ⟨"java/lang/String", "charAt", "(I)C"⟩ ⟨"java/lang/String", "charAt", "(I)C"⟩ ∈ zTw := zt3 38 (by rfl) rfl
set_option maxRecDepth 20000 in
theorem kw_3_39 : Cond.code ⟨"java/lang/String", "charAt", "(I)C"⟩ prog_15_method_56_code 2 (some .char) ∈ zTw := zt3 39 (by rfl) rfl
set_option maxRecDepth 20000 in
theorem kw_3_40 : Cond.methodLink "java/lang/String" 492 ⟨"java/lang/String", "isLatin1", "()Z"⟩ ∈ zTw := zt3 40 (by rfl) rfl
set_option maxRecDepth 20000 in
theorem kw_3_41 : Cond.instanceMethod ⟨"java/lang/String", "isLatin1", "()Z"⟩ ∈ zTw := zt3 41 (by rfl) rfl
set_option maxRecDepth 20000 in
theorem kw_3_42 : Cond.selects "java/lang/String" ⟨"java/lang/String", "isLatin1", "()Z"⟩ ⟨"java/lang/String", "isLatin1", "()Z"⟩ ∈ zTw := zt3 42 (by rfl) rfl
set_option maxRecDepth 20000 in
theorem kw_3_43 : Cond.code ⟨"java/lang/String", "isLatin1", "()Z"⟩ prog_15_method_154_code 1 (some .boolean) ∈ zTw := zt3 43 (by rfl) rfl
set_option maxRecDepth 20000 in
theorem kw_3_44 : Cond.methodLink "java/lang/String" 495 ⟨"java/lang/StringLatin1", "charAt", "([BI)C"⟩ ∈ zTw := zt3 44 (by rfl) rfl
set_option maxRecDepth 20000 in
theorem kw_3_45 : Cond.static ⟨"java/lang/StringLatin1", "charAt", "([BI)C"⟩ ∈ zTw := zt3 45 (by rfl) rfl
set_option maxRecDepth 20000 in
theorem kw_3_46 : Cond.code ⟨"java/lang/StringLatin1", "charAt", "([BI)C"⟩ prog_16_method_2_code 2 (some .char) ∈ zTw := zt3 46 (by rfl) rfl
set_option maxRecDepth 20000 in
theorem kw_3_47 : Cond.methodLink "java/lang/StringLatin1" 9 ⟨"java/lang/String", "checkIndex", "(II)V"⟩ ∈ zTw := zt3 47 (by rfl) rfl
set_option maxRecDepth 20000 in
theorem kw_3_48 : Cond.static ⟨"java/lang/String", "checkIndex", "(II)V"⟩ ∈ zTw := zt3 48 (by rfl) rfl
set_option maxRecDepth 20000 in
theorem kw_3_49 : Cond.code ⟨"java/lang/String", "checkIndex", "(II)V"⟩ prog_15_method_155_code 2 none ∈ zTw := zt3 49 (by rfl) rfl
set_option maxRecDepth 20000 in
theorem kw_3_50 : Cond.fieldLink "java/lang/String" 1053 "jdk/internal/util/Preconditions" "SIOOBE_FORMATTER" "Ljava/util/function/BiFunction;" ∈ zTw := zt3 50 (by rfl) rfl
set_option maxRecDepth 20000 in
theorem kw_3_52 : Cond.methodLink "java/lang/String" 1059 ⟨"jdk/internal/util/Preconditions", "checkIndex", "(IILjava/util/function/BiFunction;)I"⟩ ∈ zTw := zt3 52 (by rfl) rfl
set_option maxRecDepth 20000 in
theorem kw_3_53 : Cond.static ⟨"jdk/internal/util/Preconditions", "checkIndex", "(IILjava/util/function/BiFunction;)I"⟩ ∈ zTw := zt3 53 (by rfl) rfl
set_option maxRecDepth 20000 in
theorem kw_3_54 : Cond.code ⟨"jdk/internal/util/Preconditions", "checkIndex", "(IILjava/util/function/BiFunction;)I"⟩ prog_20_method_11_code 3 (some .int) ∈ zTw := zt3 54 (by rfl) rfl
set_option maxRecDepth 20000 in
theorem kw_3_74 : Cond.methodLink "ClassOfMany$Reader" 122 ⟨"ClassOfMany$Reader", "mayStand", "(I)Z"⟩ ∈ zTw := zt3 74 (by rfl) rfl
set_option maxRecDepth 20000 in
theorem kw_3_76 : Cond.instanceMethod ⟨"ClassOfMany$Reader", "mayStand", "(I)Z"⟩ ∈ zTw := zt3 76 (by rfl) rfl
set_option maxRecDepth 20000 in
theorem kw_3_77 : Cond.code ⟨"ClassOfMany$Reader", "mayStand", "(I)Z"⟩ prog_6_method_8_code 2 (some .boolean) ∈ zTw := zt3 77 (by rfl) rfl
set_option maxRecDepth 20000 in
theorem kw_3_79 : Cond.static ⟨"ClassOfMany", "has", "(II)Z"⟩ ∈ zTw := zt3 79 (by rfl) rfl
set_option maxRecDepth 20000 in
theorem kw_3_80 : Cond.code ⟨"ClassOfMany", "has", "(II)Z"⟩ prog_1_method_75_code 2 (some .boolean) ∈ zTw := zt3 80 (by rfl) rfl
set_option maxRecDepth 20000 in
theorem kw_3_81 : Cond.methodLink "ClassOfMany$Reader" 126 ⟨"ClassOfMany$Reader", "fail", "(I)V"⟩ ∈ zTw := zt3 81 (by rfl) rfl
set_option maxRecDepth 20000 in
theorem kw_3_83 : Cond.instanceMethod ⟨"ClassOfMany$Reader", "fail", "(I)V"⟩ ∈ zTw := zt3 83 (by rfl) rfl
set_option maxRecDepth 20000 in
theorem kw_3_84 : Cond.code ⟨"ClassOfMany$Reader", "fail", "(I)V"⟩ prog_6_method_5_code 2 none ∈ zTw := zt3 84 (by rfl) rfl
set_option maxRecDepth 20000 in
theorem kw_3_85 : Cond.methodLink "ClassOfMany$Reader" 72 ⟨"ClassOfMany$Told", "openLine", "(I)V"⟩ ∈ zTw := zt3 85 (by rfl) rfl
set_option maxRecDepth 20000 in
theorem kw_3_86 : Cond.instanceMethod ⟨"ClassOfMany$Told", "openLine", "(I)V"⟩ ∈ zTw := zt3 86 (by rfl) rfl
set_option maxRecDepth 20000 in
theorem kw_3_87 : Cond.selects "ClassOfMany$Told" ⟨"ClassOfMany$Told", "openLine", "(I)V"⟩ ⟨"ClassOfMany$Told", "openLine", "(I)V"⟩ ∈ zTw := zt3 87 (by rfl) rfl
set_option maxRecDepth 20000 in
theorem kw_3_88 : Cond.code ⟨"ClassOfMany$Told", "openLine", "(I)V"⟩ prog_10_method_3_code 2 none ∈ zTw := zt3 88 (by rfl) rfl
set_option maxRecDepth 20000 in
theorem kw_3_89 : Cond.constant "ClassOfMany$Reader" 76 (99999 : Int32) ∈ zTw := zt3 89 (by rfl) rfl
set_option maxRecDepth 20000 in
theorem kw_3_90 : Cond.methodLink "ClassOfMany$Reader" 77 ⟨"ClassOfMany$Reader", "readNumber", "(II)I"⟩ ∈ zTw := zt3 90 (by rfl) rfl
set_option maxRecDepth 20000 in
theorem kw_3_92 : Cond.instanceMethod ⟨"ClassOfMany$Reader", "readNumber", "(II)I"⟩ ∈ zTw := zt3 92 (by rfl) rfl
set_option maxRecDepth 20000 in
theorem kw_3_93 : Cond.code ⟨"ClassOfMany$Reader", "readNumber", "(II)I"⟩ prog_6_method_13_code 4 (some .int) ∈ zTw := zt3 93 (by rfl) rfl
set_option maxRecDepth 20000 in
theorem kw_3_94 : Cond.methodLink "ClassOfMany$Reader" 168 ⟨"ClassOfMany$Reader", "isDigitAt", "(I)Z"⟩ ∈ zTw := zt3 94 (by rfl) rfl
set_option maxRecDepth 20000 in
theorem kw_3_96 : Cond.instanceMethod ⟨"ClassOfMany$Reader", "isDigitAt", "(I)Z"⟩ ∈ zTw := zt3 96 (by rfl) rfl
set_option maxRecDepth 20000 in
theorem kw_3_97 : Cond.code ⟨"ClassOfMany$Reader", "isDigitAt", "(I)Z"⟩ prog_6_method_19_code 2 (some .boolean) ∈ zTw := zt3 97 (by rfl) rfl
set_option maxRecDepth 20000 in
theorem kw_3_98 : Cond.methodLink "ClassOfMany$Reader" 160 ⟨"ClassOfMany$Reader", "isBlankAt", "(I)Z"⟩ ∈ zTw := zt3 98 (by rfl) rfl
set_option maxRecDepth 20000 in
theorem kw_3_100 : Cond.instanceMethod ⟨"ClassOfMany$Reader", "isBlankAt", "(I)Z"⟩ ∈ zTw := zt3 100 (by rfl) rfl
set_option maxRecDepth 20000 in
theorem kw_3_101 : Cond.code ⟨"ClassOfMany$Reader", "isBlankAt", "(I)Z"⟩ prog_6_method_20_code 2 (some .boolean) ∈ zTw := zt3 101 (by rfl) rfl
set_option maxRecDepth 20000 in
theorem kw_3_102 : Cond.methodLink "ClassOfMany$Reader" 178 ⟨"ClassOfMany$Told", "addNumber", "(I)V"⟩ ∈ zTw := zt3 102 (by rfl) rfl
set_option maxRecDepth 20000 in
theorem kw_3_103 : Cond.instanceMethod ⟨"ClassOfMany$Told", "addNumber", "(I)V"⟩ ∈ zTw := zt3 103 (by rfl) rfl
set_option maxRecDepth 20000 in
theorem kw_3_104 : Cond.selects "ClassOfMany$Told" ⟨"ClassOfMany$Told", "addNumber", "(I)V"⟩ ⟨"ClassOfMany$Told", "addNumber", "(I)V"⟩ ∈ zTw := zt3 104 (by rfl) rfl
set_option maxRecDepth 20000 in
theorem kw_3_105 : Cond.code ⟨"ClassOfMany$Told", "addNumber", "(I)V"⟩ prog_10_method_4_code 2 none ∈ zTw := zt3 105 (by rfl) rfl
set_option maxRecDepth 20000 in
theorem kw_3_106 : Cond.methodLink "ClassOfMany$Reader" 99 ⟨"ClassOfMany$Reader", "readChannel", "()V"⟩ ∈ zTw := zt3 106 (by rfl) rfl
set_option maxRecDepth 20000 in
theorem kw_3_108 : Cond.instanceMethod ⟨"ClassOfMany$Reader", "readChannel", "()V"⟩ ∈ zTw := zt3 108 (by rfl) rfl
set_option maxRecDepth 20000 in
theorem kw_3_109 : Cond.code ⟨"ClassOfMany$Reader", "readChannel", "()V"⟩ prog_6_method_9_code 3 none ∈ zTw := zt3 109 (by rfl) rfl
set_option maxRecDepth 20000 in
theorem kw_3_110 : Cond.methodLink "ClassOfMany$Reader" 102 ⟨"ClassOfMany$Reader", "readMember", "()V"⟩ ∈ zTw := zt3 110 (by rfl) rfl
set_option maxRecDepth 20000 in
theorem kw_3_112 : Cond.instanceMethod ⟨"ClassOfMany$Reader", "readMember", "()V"⟩ ∈ zTw := zt3 112 (by rfl) rfl
set_option maxRecDepth 20000 in
theorem kw_3_113 : Cond.code ⟨"ClassOfMany$Reader", "readMember", "()V"⟩ prog_6_method_10_code 5 none ∈ zTw := zt3 113 (by rfl) rfl
set_option maxRecDepth 20000 in
theorem kw_3_114 : Cond.methodLink "ClassOfMany$Reader" 142 ⟨"ClassOfMany$Reader", "readReach", "()I"⟩ ∈ zTw := zt3 114 (by rfl) rfl
set_option maxRecDepth 20000 in
theorem kw_3_116 : Cond.instanceMethod ⟨"ClassOfMany$Reader", "readReach", "()I"⟩ ∈ zTw := zt3 116 (by rfl) rfl
set_option maxRecDepth 20000 in
theorem kw_3_117 : Cond.code ⟨"ClassOfMany$Reader", "readReach", "()I"⟩ prog_6_method_11_code 5 (some .int) ∈ zTw := zt3 117 (by rfl) rfl
set_option maxRecDepth 20000 in
theorem kw_3_119 : Cond.methodLink "ClassOfMany$Reader" 105 ⟨"ClassOfMany$Reader", "readConflict", "()V"⟩ ∈ zTw := zt3 119 (by rfl) rfl
set_option maxRecDepth 20000 in
theorem kw_3_121 : Cond.instanceMethod ⟨"ClassOfMany$Reader", "readConflict", "()V"⟩ ∈ zTw := zt3 121 (by rfl) rfl
set_option maxRecDepth 20000 in
theorem kw_3_122 : Cond.code ⟨"ClassOfMany$Reader", "readConflict", "()V"⟩ prog_6_method_12_code 3 none ∈ zTw := zt3 122 (by rfl) rfl
set_option maxRecDepth 20000 in
theorem kw_3_123 : Cond.methodLink "ClassOfMany$Reader" 174 ⟨"ClassOfMany$Standing", "toggleConflict", "(II)V"⟩ ∈ zTw := zt3 123 (by rfl) rfl
set_option maxRecDepth 20000 in
theorem kw_3_124 : Cond.instanceMethod ⟨"ClassOfMany$Standing", "toggleConflict", "(II)V"⟩ ∈ zTw := zt3 124 (by rfl) rfl
set_option maxRecDepth 20000 in
theorem kw_3_125 : Cond.selects "ClassOfMany$Standing" ⟨"ClassOfMany$Standing", "toggleConflict", "(II)V"⟩ ⟨"ClassOfMany$Standing", "toggleConflict", "(II)V"⟩ ∈ zTw := zt3 125 (by rfl) rfl
set_option maxRecDepth 20000 in
theorem kw_3_126 : Cond.code ⟨"ClassOfMany$Standing", "toggleConflict", "(II)V"⟩ prog_9_method_5_code 3 none ∈ zTw := zt3 126 (by rfl) rfl
set_option maxRecDepth 20000 in
theorem kw_3_127 : Cond.methodLink "ClassOfMany$Reader" 108 ⟨"ClassOfMany$Reader", "readEnd", "()V"⟩ ∈ zTw := zt3 127 (by rfl) rfl
set_option maxRecDepth 20000 in
theorem kw_3_129 : Cond.instanceMethod ⟨"ClassOfMany$Reader", "readEnd", "()V"⟩ ∈ zTw := zt3 129 (by rfl) rfl
set_option maxRecDepth 20000 in
theorem kw_3_130 : Cond.code ⟨"ClassOfMany$Reader", "readEnd", "()V"⟩ prog_6_method_14_code 1 none ∈ zTw := zt3 130 (by rfl) rfl
set_option maxRecDepth 20000 in
theorem kw_3_131 : Cond.methodLink "ClassOfMany$Reader" 59 ⟨"ClassOfMany$Mail", "orderAsTold", "(I)I"⟩ ∈ zTw := zt3 131 (by rfl) rfl
set_option maxRecDepth 20000 in
theorem kw_3_132 : Cond.static ⟨"ClassOfMany$Mail", "orderAsTold", "(I)I"⟩ ∈ zTw := zt3 132 (by rfl) rfl
set_option maxRecDepth 20000 in
theorem kw_3_133 : Cond.code ⟨"ClassOfMany$Mail", "orderAsTold", "(I)I"⟩ prog_3_method_3_code 3 (some .int) ∈ zTw := zt3 133 (by rfl) rfl
set_option maxRecDepth 20000 in
theorem kw_3_134 : Cond.methodLink "ClassOfMany" 84 ⟨"ClassOfMany$Standing", "copyFrom", "(LClassOfMany$Standing;)V"⟩ ∈ zTw := zt3 134 (by rfl) rfl
set_option maxRecDepth 20000 in
theorem kw_3_135 : Cond.instanceMethod ⟨"ClassOfMany$Standing", "copyFrom", "(LClassOfMany$Standing;)V"⟩ ∈ zTw := zt3 135 (by rfl) rfl
set_option maxRecDepth 20000 in
theorem kw_3_136 : Cond.selects "ClassOfMany$Standing" ⟨"ClassOfMany$Standing", "copyFrom", "(LClassOfMany$Standing;)V"⟩ ⟨"ClassOfMany$Standing", "copyFrom", "(LClassOfMany$Standing;)V"⟩ ∈ zTw := zt3 136 (by rfl) rfl
set_option maxRecDepth 20000 in
theorem kw_3_137 : Cond.code ⟨"ClassOfMany$Standing", "copyFrom", "(LClassOfMany$Standing;)V"⟩ prog_9_method_3_code 2 none ∈ zTw := zt3 137 (by rfl) rfl
set_option maxRecDepth 20000 in
theorem kw_3_138 : Cond.methodLink "ClassOfMany$Standing" 55 ⟨"java/lang/System", "arraycopy", "(Ljava/lang/Object;ILjava/lang/Object;II)V"⟩ ∈ zTw := zt3 138 (by rfl) rfl
set_option maxRecDepth 20000 in
theorem kw_3_139 : Cond.static ⟨"java/lang/System", "arraycopy", "(Ljava/lang/Object;ILjava/lang/Object;II)V"⟩ ∈ zTw := zt3 139 (by rfl) rfl
set_option maxRecDepth 20000 in
theorem kw_3_140 : Cond.native ⟨"java/lang/System", "arraycopy", "(Ljava/lang/Object;ILjava/lang/Object;II)V"⟩ ∈ zTw := zt3 140 (by rfl) rfl
set_option maxRecDepth 20000 in
theorem kw_3_141 : Cond.methodLink "ClassOfMany" 88 ⟨"ClassOfMany$Journal", "forget", "()V"⟩ ∈ zTw := zt3 141 (by rfl) rfl
set_option maxRecDepth 20000 in
theorem kw_3_142 : Cond.instanceMethod ⟨"ClassOfMany$Journal", "forget", "()V"⟩ ∈ zTw := zt3 142 (by rfl) rfl
set_option maxRecDepth 20000 in
theorem kw_3_143 : Cond.selects "ClassOfMany$Journal" ⟨"ClassOfMany$Journal", "forget", "()V"⟩ ⟨"ClassOfMany$Journal", "forget", "()V"⟩ ∈ zTw := zt3 143 (by rfl) rfl
set_option maxRecDepth 20000 in
theorem kw_3_144 : Cond.code ⟨"ClassOfMany$Journal", "forget", "()V"⟩ prog_2_method_4_code 1 none ∈ zTw := zt3 144 (by rfl) rfl
set_option maxRecDepth 20000 in
theorem kw_3_145 : Cond.methodLink "ClassOfMany" 91 ⟨"ClassOfMany$Resting", "forget", "()V"⟩ ∈ zTw := zt3 145 (by rfl) rfl
set_option maxRecDepth 20000 in
theorem kw_3_146 : Cond.instanceMethod ⟨"ClassOfMany$Resting", "forget", "()V"⟩ ∈ zTw := zt3 146 (by rfl) rfl
set_option maxRecDepth 20000 in
theorem kw_3_147 : Cond.selects "ClassOfMany$Resting" ⟨"ClassOfMany$Resting", "forget", "()V"⟩ ⟨"ClassOfMany$Resting", "forget", "()V"⟩ ∈ zTw := zt3 147 (by rfl) rfl
set_option maxRecDepth 20000 in
theorem kw_3_148 : Cond.code ⟨"ClassOfMany$Resting", "forget", "()V"⟩ prog_7_method_2_code 1 none ∈ zTw := zt3 148 (by rfl) rfl
set_option maxRecDepth 20000 in
theorem kw_3_150 : Cond.instanceMethod ⟨"ClassOfMany", "days", "(I)I"⟩ ∈ zTw := zt3 150 (by rfl) rfl
set_option maxRecDepth 20000 in
theorem kw_3_151 : Cond.selects "ClassOfMany" ⟨"ClassOfMany", "days", "(I)I"⟩ ⟨"ClassOfMany", "days", "(I)I"⟩ ∈ zTw := zt3 151 (by rfl) rfl
set_option maxRecDepth 20000 in
theorem kw_3_152 : Cond.code ⟨"ClassOfMany", "days", "(I)I"⟩ prog_1_method_6_code 2 (some .int) ∈ zTw := zt3 152 (by rfl) rfl
set_option maxRecDepth 20000 in
theorem kw_3_153 : Cond.methodLink "ClassOfMany" 101 ⟨"ClassOfMany", "remember", "()V"⟩ ∈ zTw := zt3 153 (by rfl) rfl
set_option maxRecDepth 20000 in
theorem kw_3_155 : Cond.instanceMethod ⟨"ClassOfMany", "remember", "()V"⟩ ∈ zTw := zt3 155 (by rfl) rfl
set_option maxRecDepth 20000 in
theorem kw_3_156 : Cond.code ⟨"ClassOfMany", "remember", "()V"⟩ prog_1_method_5_code 1 none ∈ zTw := zt3 156 (by rfl) rfl
set_option maxRecDepth 20000 in
theorem kw_3_157 : Cond.methodLink "ClassOfMany" 95 ⟨"ClassOfMany$Journal", "keep", "(LClassOfMany$Standing;)V"⟩ ∈ zTw := zt3 157 (by rfl) rfl
set_option maxRecDepth 20000 in
theorem kw_3_158 : Cond.instanceMethod ⟨"ClassOfMany$Journal", "keep", "(LClassOfMany$Standing;)V"⟩ ∈ zTw := zt3 158 (by rfl) rfl
set_option maxRecDepth 20000 in
theorem kw_3_159 : Cond.selects "ClassOfMany$Journal" ⟨"ClassOfMany$Journal", "keep", "(LClassOfMany$Standing;)V"⟩ ⟨"ClassOfMany$Journal", "keep", "(LClassOfMany$Standing;)V"⟩ ∈ zTw := zt3 159 (by rfl) rfl
set_option maxRecDepth 20000 in
theorem kw_3_160 : Cond.code ⟨"ClassOfMany$Journal", "keep", "(LClassOfMany$Standing;)V"⟩ prog_2_method_2_code 2 none ∈ zTw := zt3 160 (by rfl) rfl
set_option maxRecDepth 20000 in
theorem kw_3_161 : Cond.methodLink "ClassOfMany$Journal" 22 ⟨"ClassOfMany$Standing", "copyFrom", "(LClassOfMany$Standing;)V"⟩ ∈ zTw := zt3 161 (by rfl) rfl
set_option maxRecDepth 20000 in
theorem kw_3_162 : Cond.methodLink "ClassOfMany$Journal" 29 ⟨"java/lang/Math", "min", "(II)I"⟩ ∈ zTw := zt3 162 (by rfl) rfl
set_option maxRecDepth 20000 in
theorem kw_3_163 : Cond.static ⟨"java/lang/Math", "min", "(II)I"⟩ ∈ zTw := zt3 163 (by rfl) rfl
set_option maxRecDepth 20000 in
theorem kw_3_164 : Cond.code ⟨"java/lang/Math", "min", "(II)I"⟩ prog_14_method_69_code 2 (some .int) ∈ zTw := zt3 164 (by rfl) rfl
set_option maxRecDepth 20000 in
theorem kw_3_166 : Cond.instanceMethod ⟨"ClassOfMany", "order", "(I)I"⟩ ∈ zTw := zt3 166 (by rfl) rfl
set_option maxRecDepth 20000 in
theorem kw_3_167 : Cond.selects "ClassOfMany" ⟨"ClassOfMany", "order", "(I)I"⟩ ⟨"ClassOfMany", "order", "(I)I"⟩ ∈ zTw := zt3 167 (by rfl) rfl
set_option maxRecDepth 20000 in
theorem kw_3_168 : Cond.code ⟨"ClassOfMany", "order", "(I)I"⟩ prog_1_method_7_code 3 (some .int) ∈ zTw := zt3 168 (by rfl) rfl
set_option maxRecDepth 20000 in
theorem kw_3_169 : Cond.methodLink "ClassOfMany" 104 ⟨"ClassOfMany$Mail", "isOrder", "(LClassOfMany$Told;I)Z"⟩ ∈ zTw := zt3 169 (by rfl) rfl
set_option maxRecDepth 20000 in
theorem kw_3_170 : Cond.static ⟨"ClassOfMany$Mail", "isOrder", "(LClassOfMany$Told;I)Z"⟩ ∈ zTw := zt3 170 (by rfl) rfl
set_option maxRecDepth 20000 in
theorem kw_3_171 : Cond.code ⟨"ClassOfMany$Mail", "isOrder", "(LClassOfMany$Told;I)Z"⟩ prog_3_method_5_code 4 (some .boolean) ∈ zTw := zt3 171 (by rfl) rfl
set_option maxRecDepth 20000 in
theorem kw_3_172 : Cond.methodLink "ClassOfMany$Mail" 15 ⟨"ClassOfMany$Mail", "numbersOf", "(I)I"⟩ ∈ zTw := zt3 172 (by rfl) rfl
set_option maxRecDepth 20000 in
theorem kw_3_173 : Cond.static ⟨"ClassOfMany$Mail", "numbersOf", "(I)I"⟩ ∈ zTw := zt3 173 (by rfl) rfl
set_option maxRecDepth 20000 in
theorem kw_3_174 : Cond.code ⟨"ClassOfMany$Mail", "numbersOf", "(I)I"⟩ prog_3_method_2_code 1 (some .int) ∈ zTw := zt3 174 (by rfl) rfl
set_option maxRecDepth 20000 in
theorem kw_3_175 : Cond.methodLink "ClassOfMany$Mail" 21 ⟨"ClassOfMany$Mail", "channelAt", "(LClassOfMany$Told;II)I"⟩ ∈ zTw := zt3 175 (by rfl) rfl
set_option maxRecDepth 20000 in
theorem kw_3_176 : Cond.static ⟨"ClassOfMany$Mail", "channelAt", "(LClassOfMany$Told;II)I"⟩ ∈ zTw := zt3 176 (by rfl) rfl
set_option maxRecDepth 20000 in
theorem kw_3_177 : Cond.code ⟨"ClassOfMany$Mail", "channelAt", "(LClassOfMany$Told;II)I"⟩ prog_3_method_4_code 3 (some .int) ∈ zTw := zt3 177 (by rfl) rfl
set_option maxRecDepth 20000 in
theorem kw_3_178 : Cond.methodLink "ClassOfMany" 113 ⟨"ClassOfMany$Standing", "isSent", "()Z"⟩ ∈ zTw := zt3 178 (by rfl) rfl
set_option maxRecDepth 20000 in
theorem kw_3_179 : Cond.instanceMethod ⟨"ClassOfMany$Standing", "isSent", "()Z"⟩ ∈ zTw := zt3 179 (by rfl) rfl
set_option maxRecDepth 20000 in
theorem kw_3_180 : Cond.selects "ClassOfMany$Standing" ⟨"ClassOfMany$Standing", "isSent", "()Z"⟩ ⟨"ClassOfMany$Standing", "isSent", "()Z"⟩ ∈ zTw := zt3 180 (by rfl) rfl
set_option maxRecDepth 20000 in
theorem kw_3_181 : Cond.code ⟨"ClassOfMany$Standing", "isSent", "()Z"⟩ prog_9_method_4_code 1 (some .boolean) ∈ zTw := zt3 181 (by rfl) rfl
set_option maxRecDepth 20000 in
theorem kw_3_183 : Cond.instanceMethod ⟨"ClassOfMany", "send", "()I"⟩ ∈ zTw := zt3 183 (by rfl) rfl
set_option maxRecDepth 20000 in
theorem kw_3_184 : Cond.selects "ClassOfMany" ⟨"ClassOfMany", "send", "()I"⟩ ⟨"ClassOfMany", "send", "()I"⟩ ∈ zTw := zt3 184 (by rfl) rfl
set_option maxRecDepth 20000 in
theorem kw_3_185 : Cond.code ⟨"ClassOfMany", "send", "()I"⟩ prog_1_method_8_code 1 (some .int) ∈ zTw := zt3 185 (by rfl) rfl
set_option maxRecDepth 20000 in
theorem kw_3_186 : Cond.methodLink "ClassOfMany" 123 ⟨"ClassOfMany$Mail", "costsBy", "(LClassOfMany$Told;I)I"⟩ ∈ zTw := zt3 186 (by rfl) rfl
set_option maxRecDepth 20000 in
theorem kw_3_187 : Cond.static ⟨"ClassOfMany$Mail", "costsBy", "(LClassOfMany$Told;I)I"⟩ ∈ zTw := zt3 187 (by rfl) rfl
set_option maxRecDepth 20000 in
theorem kw_3_188 : Cond.code ⟨"ClassOfMany$Mail", "costsBy", "(LClassOfMany$Told;I)I"⟩ prog_3_method_6_code 4 (some .int) ∈ zTw := zt3 188 (by rfl) rfl
set_option maxRecDepth 20000 in
theorem kw_3_189 : Cond.methodLink "ClassOfMany$Mail" 28 ⟨"ClassOfMany$Mail", "costTo", "(LClassOfMany$Told;II)I"⟩ ∈ zTw := zt3 189 (by rfl) rfl
set_option maxRecDepth 20000 in
theorem kw_3_190 : Cond.static ⟨"ClassOfMany$Mail", "costTo", "(LClassOfMany$Told;II)I"⟩ ∈ zTw := zt3 190 (by rfl) rfl
set_option maxRecDepth 20000 in
theorem kw_3_191 : Cond.code ⟨"ClassOfMany$Mail", "costTo", "(LClassOfMany$Told;II)I"⟩ prog_3_method_7_code 6 (some .int) ∈ zTw := zt3 191 (by rfl) rfl
set_option maxRecDepth 20000 in
theorem kw_3_194 : Cond.instanceMethod ⟨"ClassOfMany", "out", "(I)I"⟩ ∈ zTw := zt3 194 (by rfl) rfl
set_option maxRecDepth 20000 in
theorem kw_3_195 : Cond.selects "ClassOfMany" ⟨"ClassOfMany", "out", "(I)I"⟩ ⟨"ClassOfMany", "out", "(I)I"⟩ ∈ zTw := zt3 195 (by rfl) rfl
set_option maxRecDepth 20000 in
theorem kw_3_196 : Cond.code ⟨"ClassOfMany", "out", "(I)I"⟩ prog_1_method_9_code 2 (some .int) ∈ zTw := zt3 196 (by rfl) rfl
set_option maxRecDepth 20000 in
theorem kw_3_197 : Cond.methodLink "ClassOfMany" 130 ⟨"ClassOfMany", "isMember", "(I)Z"⟩ ∈ zTw := zt3 197 (by rfl) rfl
set_option maxRecDepth 20000 in
theorem kw_3_199 : Cond.instanceMethod ⟨"ClassOfMany", "isMember", "(I)Z"⟩ ∈ zTw := zt3 199 (by rfl) rfl
set_option maxRecDepth 20000 in
theorem kw_3_200 : Cond.code ⟨"ClassOfMany", "isMember", "(I)Z"⟩ prog_1_method_69_code 2 (some .boolean) ∈ zTw := zt3 200 (by rfl) rfl
set_option maxRecDepth 20000 in
theorem kw_3_201 : Cond.methodLink "ClassOfMany" 137 ⟨"ClassOfMany", "has", "(II)Z"⟩ ∈ zTw := zt3 201 (by rfl) rfl
set_option maxRecDepth 20000 in
theorem kw_3_202 : Cond.methodLink "ClassOfMany" 141 ⟨"ClassOfMany", "isReached", "(I)Z"⟩ ∈ zTw := zt3 202 (by rfl) rfl
set_option maxRecDepth 20000 in
theorem kw_3_204 : Cond.instanceMethod ⟨"ClassOfMany", "isReached", "(I)Z"⟩ ∈ zTw := zt3 204 (by rfl) rfl
set_option maxRecDepth 20000 in
theorem kw_3_205 : Cond.code ⟨"ClassOfMany", "isReached", "(I)Z"⟩ prog_1_method_79_code 3 (some .boolean) ∈ zTw := zt3 205 (by rfl) rfl
set_option maxRecDepth 20000 in
theorem kw_3_206 : Cond.methodLink "ClassOfMany" 219 ⟨"ClassOfMany", "reachDay", "(I)I"⟩ ∈ zTw := zt3 206 (by rfl) rfl
set_option maxRecDepth 20000 in
theorem kw_3_208 : Cond.instanceMethod ⟨"ClassOfMany", "reachDay", "(I)I"⟩ ∈ zTw := zt3 208 (by rfl) rfl
set_option maxRecDepth 20000 in
theorem kw_3_209 : Cond.code ⟨"ClassOfMany", "reachDay", "(I)I"⟩ prog_1_method_78_code 3 (some .int) ∈ zTw := zt3 209 (by rfl) rfl
set_option maxRecDepth 20000 in
theorem kw_3_210 : Cond.methodLink "ClassOfMany" 290 ⟨"ClassOfMany$Mail", "daysTo", "(LClassOfMany$Told;II)I"⟩ ∈ zTw := zt3 210 (by rfl) rfl
set_option maxRecDepth 20000 in
theorem kw_3_211 : Cond.static ⟨"ClassOfMany$Mail", "daysTo", "(LClassOfMany$Told;II)I"⟩ ∈ zTw := zt3 211 (by rfl) rfl
set_option maxRecDepth 20000 in
theorem kw_3_212 : Cond.code ⟨"ClassOfMany$Mail", "daysTo", "(LClassOfMany$Told;II)I"⟩ prog_3_method_8_code 6 (some .int) ∈ zTw := zt3 212 (by rfl) rfl
set_option maxRecDepth 20000 in
theorem kw_3_213 : Cond.methodLink "ClassOfMany" 147 ⟨"java/lang/Integer", "bitCount", "(I)I"⟩ ∈ zTw := zt3 213 (by rfl) rfl
set_option maxRecDepth 20000 in
theorem kw_3_214 : Cond.static ⟨"java/lang/Integer", "bitCount", "(I)I"⟩ ∈ zTw := zt3 214 (by rfl) rfl
set_option maxRecDepth 20000 in
theorem kw_3_215 : Cond.code ⟨"java/lang/Integer", "bitCount", "(I)I"⟩ prog_13_method_49_code 1 (some .int) ∈ zTw := zt3 215 (by rfl) rfl
set_option maxRecDepth 20000 in
theorem kw_3_216 : Cond.constant "java/lang/Integer" 265 (1431655765 : Int32) ∈ zTw := zt3 216 (by rfl) rfl
set_option maxRecDepth 20000 in
theorem kw_3_217 : Cond.constant "java/lang/Integer" 266 (858993459 : Int32) ∈ zTw := zt3 217 (by rfl) rfl
set_option maxRecDepth 20000 in
theorem kw_3_218 : Cond.constant "java/lang/Integer" 267 (252645135 : Int32) ∈ zTw := zt3 218 (by rfl) rfl
set_option maxRecDepth 20000 in
theorem kw_3_220 : Cond.instanceMethod ⟨"ClassOfMany", "file", "(I)I"⟩ ∈ zTw := zt3 220 (by rfl) rfl
set_option maxRecDepth 20000 in
theorem kw_3_221 : Cond.selects "ClassOfMany" ⟨"ClassOfMany", "file", "(I)I"⟩ ⟨"ClassOfMany", "file", "(I)I"⟩ ∈ zTw := zt3 221 (by rfl) rfl
set_option maxRecDepth 20000 in
theorem kw_3_222 : Cond.code ⟨"ClassOfMany", "file", "(I)I"⟩ prog_1_method_10_code 2 (some .int) ∈ zTw := zt3 222 (by rfl) rfl
set_option maxRecDepth 20000 in
theorem kw_3_224 : Cond.instanceMethod ⟨"ClassOfMany", "lazy", "(IZ)Z"⟩ ∈ zTw := zt3 224 (by rfl) rfl
set_option maxRecDepth 20000 in
theorem kw_3_225 : Cond.selects "ClassOfMany" ⟨"ClassOfMany", "lazy", "(IZ)Z"⟩ ⟨"ClassOfMany", "lazy", "(IZ)Z"⟩ ∈ zTw := zt3 225 (by rfl) rfl
set_option maxRecDepth 20000 in
theorem kw_3_226 : Cond.code ⟨"ClassOfMany", "lazy", "(IZ)Z"⟩ prog_1_method_11_code 3 (some .boolean) ∈ zTw := zt3 226 (by rfl) rfl
set_option maxRecDepth 20000 in
theorem kw_3_228 : Cond.instanceMethod ⟨"ClassOfMany", "fund", "(I)I"⟩ ∈ zTw := zt3 228 (by rfl) rfl
set_option maxRecDepth 20000 in
theorem kw_3_229 : Cond.selects "ClassOfMany" ⟨"ClassOfMany", "fund", "(I)I"⟩ ⟨"ClassOfMany", "fund", "(I)I"⟩ ∈ zTw := zt3 229 (by rfl) rfl
set_option maxRecDepth 20000 in
theorem kw_3_230 : Cond.code ⟨"ClassOfMany", "fund", "(I)I"⟩ prog_1_method_12_code 3 (some .int) ∈ zTw := zt3 230 (by rfl) rfl
set_option maxRecDepth 20000 in
theorem kw_3_231 : Cond.methodLink "ClassOfMany" 159 ⟨"ClassOfMany", "isFund", "(I)Z"⟩ ∈ zTw := zt3 231 (by rfl) rfl
set_option maxRecDepth 20000 in
theorem kw_3_232 : Cond.static ⟨"ClassOfMany", "isFund", "(I)Z"⟩ ∈ zTw := zt3 232 (by rfl) rfl
set_option maxRecDepth 20000 in
theorem kw_3_233 : Cond.code ⟨"ClassOfMany", "isFund", "(I)Z"⟩ prog_1_method_72_code 1 (some .boolean) ∈ zTw := zt3 233 (by rfl) rfl
set_option maxRecDepth 20000 in
theorem kw_3_234 : Cond.constant "ClassOfMany" 360 (99999 : Int32) ∈ zTw := zt3 234 (by rfl) rfl
set_option maxRecDepth 20000 in
theorem kw_3_236 : Cond.instanceMethod ⟨"ClassOfMany", "rule", "(I)I"⟩ ∈ zTw := zt3 236 (by rfl) rfl
set_option maxRecDepth 20000 in
theorem kw_3_237 : Cond.selects "ClassOfMany" ⟨"ClassOfMany", "rule", "(I)I"⟩ ⟨"ClassOfMany", "rule", "(I)I"⟩ ∈ zTw := zt3 237 (by rfl) rfl
set_option maxRecDepth 20000 in
theorem kw_3_238 : Cond.code ⟨"ClassOfMany", "rule", "(I)I"⟩ prog_1_method_13_code 3 (some .int) ∈ zTw := zt3 238 (by rfl) rfl
set_option maxRecDepth 20000 in
theorem kw_3_239 : Cond.methodLink "ClassOfMany" 165 ⟨"ClassOfMany", "isRule", "(I)Z"⟩ ∈ zTw := zt3 239 (by rfl) rfl
set_option maxRecDepth 20000 in
theorem kw_4_0 : Cond.static ⟨"ClassOfMany", "isRule", "(I)Z"⟩ ∈ zTw := zt4 0 (by rfl) rfl
set_option maxRecDepth 20000 in
theorem kw_4_1 : Cond.code ⟨"ClassOfMany", "isRule", "(I)Z"⟩ prog_1_method_73_code 1 (some .boolean) ∈ zTw := zt4 1 (by rfl) rfl
set_option maxRecDepth 20000 in
theorem kw_4_3 : Cond.instanceMethod ⟨"ClassOfMany", "period", "(II)I"⟩ ∈ zTw := zt4 3 (by rfl) rfl
set_option maxRecDepth 20000 in
theorem kw_4_4 : Cond.selects "ClassOfMany" ⟨"ClassOfMany", "period", "(II)I"⟩ ⟨"ClassOfMany", "period", "(II)I"⟩ ∈ zTw := zt4 4 (by rfl) rfl
set_option maxRecDepth 20000 in
theorem kw_4_5 : Cond.code ⟨"ClassOfMany", "period", "(II)I"⟩ prog_1_method_14_code 3 (some .int) ∈ zTw := zt4 5 (by rfl) rfl
set_option maxRecDepth 20000 in
theorem kw_4_6 : Cond.methodLink "ClassOfMany" 177 ⟨"ClassOfMany", "everyone", "()I"⟩ ∈ zTw := zt4 6 (by rfl) rfl
set_option maxRecDepth 20000 in
theorem kw_4_8 : Cond.instanceMethod ⟨"ClassOfMany", "everyone", "()I"⟩ ∈ zTw := zt4 8 (by rfl) rfl
set_option maxRecDepth 20000 in
theorem kw_4_9 : Cond.code ⟨"ClassOfMany", "everyone", "()I"⟩ prog_1_method_68_code 1 (some .int) ∈ zTw := zt4 9 (by rfl) rfl
set_option maxRecDepth 20000 in
theorem kw_4_10 : Cond.methodLink "ClassOfMany" 180 ⟨"ClassOfMany", "claimsOf", "(I)I"⟩ ∈ zTw := zt4 10 (by rfl) rfl
set_option maxRecDepth 20000 in
theorem kw_4_12 : Cond.instanceMethod ⟨"ClassOfMany", "claimsOf", "(I)I"⟩ ∈ zTw := zt4 12 (by rfl) rfl
set_option maxRecDepth 20000 in
theorem kw_4_13 : Cond.code ⟨"ClassOfMany", "claimsOf", "(I)I"⟩ prog_1_method_77_code 4 (some .int) ∈ zTw := zt4 13 (by rfl) rfl
set_option maxRecDepth 20000 in
theorem kw_4_14 : Cond.methodLink "ClassOfMany" 212 ⟨"ClassOfMany$Standing", "claimOf", "(LClassOfMany$Told;I)I"⟩ ∈ zTw := zt4 14 (by rfl) rfl
set_option maxRecDepth 20000 in
theorem kw_4_15 : Cond.instanceMethod ⟨"ClassOfMany$Standing", "claimOf", "(LClassOfMany$Told;I)I"⟩ ∈ zTw := zt4 15 (by rfl) rfl
set_option maxRecDepth 20000 in
theorem kw_4_16 : Cond.selects "ClassOfMany$Standing" ⟨"ClassOfMany$Standing", "claimOf", "(LClassOfMany$Told;I)I"⟩ ⟨"ClassOfMany$Standing", "claimOf", "(LClassOfMany$Told;I)I"⟩ ∈ zTw := zt4 16 (by rfl) rfl
set_option maxRecDepth 20000 in
theorem kw_4_17 : Cond.code ⟨"ClassOfMany$Standing", "claimOf", "(LClassOfMany$Told;I)I"⟩ prog_9_method_6_code 5 (some .int) ∈ zTw := zt4 17 (by rfl) rfl
set_option maxRecDepth 20000 in
theorem kw_4_18 : Cond.methodLink "ClassOfMany$Standing" 66 ⟨"java/lang/Math", "max", "(II)I"⟩ ∈ zTw := zt4 18 (by rfl) rfl
set_option maxRecDepth 20000 in
theorem kw_4_19 : Cond.static ⟨"java/lang/Math", "max", "(II)I"⟩ ∈ zTw := zt4 19 (by rfl) rfl
set_option maxRecDepth 20000 in
theorem kw_4_20 : Cond.code ⟨"java/lang/Math", "max", "(II)I"⟩ prog_14_method_65_code 2 (some .int) ∈ zTw := zt4 20 (by rfl) rfl
set_option maxRecDepth 20000 in
theorem kw_4_21 : Cond.methodLink "ClassOfMany$Standing" 75 ⟨"java/lang/Math", "min", "(II)I"⟩ ∈ zTw := zt4 21 (by rfl) rfl
set_option maxRecDepth 20000 in
theorem kw_4_23 : Cond.instanceMethod ⟨"ClassOfMany", "quarrel", "(II)I"⟩ ∈ zTw := zt4 23 (by rfl) rfl
set_option maxRecDepth 20000 in
theorem kw_4_24 : Cond.selects "ClassOfMany" ⟨"ClassOfMany", "quarrel", "(II)I"⟩ ⟨"ClassOfMany", "quarrel", "(II)I"⟩ ∈ zTw := zt4 24 (by rfl) rfl
set_option maxRecDepth 20000 in
theorem kw_4_25 : Cond.code ⟨"ClassOfMany", "quarrel", "(II)I"⟩ prog_1_method_15_code 3 (some .int) ∈ zTw := zt4 25 (by rfl) rfl
set_option maxRecDepth 20000 in
theorem kw_4_26 : Cond.methodLink "ClassOfMany" 183 ⟨"ClassOfMany", "arePair", "(II)Z"⟩ ∈ zTw := zt4 26 (by rfl) rfl
set_option maxRecDepth 20000 in
theorem kw_4_28 : Cond.instanceMethod ⟨"ClassOfMany", "arePair", "(II)Z"⟩ ∈ zTw := zt4 28 (by rfl) rfl
set_option maxRecDepth 20000 in
theorem kw_4_29 : Cond.code ⟨"ClassOfMany", "arePair", "(II)Z"⟩ prog_1_method_70_code 3 (some .boolean) ∈ zTw := zt4 29 (by rfl) rfl
set_option maxRecDepth 20000 in
theorem kw_4_30 : Cond.methodLink "ClassOfMany" 186 ⟨"ClassOfMany$Standing", "toggleConflict", "(II)V"⟩ ∈ zTw := zt4 30 (by rfl) rfl
set_option maxRecDepth 20000 in
theorem kw_4_32 : Cond.instanceMethod ⟨"ClassOfMany", "undo", "()I"⟩ ∈ zTw := zt4 32 (by rfl) rfl
set_option maxRecDepth 20000 in
theorem kw_4_33 : Cond.selects "ClassOfMany" ⟨"ClassOfMany", "undo", "()I"⟩ ⟨"ClassOfMany", "undo", "()I"⟩ ∈ zTw := zt4 33 (by rfl) rfl
set_option maxRecDepth 20000 in
theorem kw_4_34 : Cond.code ⟨"ClassOfMany", "undo", "()I"⟩ prog_1_method_16_code 1 (some .int) ∈ zTw := zt4 34 (by rfl) rfl
set_option maxRecDepth 20000 in
theorem kw_4_35 : Cond.methodLink "ClassOfMany" 197 ⟨"ClassOfMany$Journal", "restore", "(LClassOfMany$Standing;)V"⟩ ∈ zTw := zt4 35 (by rfl) rfl
set_option maxRecDepth 20000 in
theorem kw_4_36 : Cond.instanceMethod ⟨"ClassOfMany$Journal", "restore", "(LClassOfMany$Standing;)V"⟩ ∈ zTw := zt4 36 (by rfl) rfl
set_option maxRecDepth 20000 in
theorem kw_4_37 : Cond.selects "ClassOfMany$Journal" ⟨"ClassOfMany$Journal", "restore", "(LClassOfMany$Standing;)V"⟩ ⟨"ClassOfMany$Journal", "restore", "(LClassOfMany$Standing;)V"⟩ ∈ zTw := zt4 37 (by rfl) rfl
set_option maxRecDepth 20000 in
theorem kw_4_38 : Cond.code ⟨"ClassOfMany$Journal", "restore", "(LClassOfMany$Standing;)V"⟩ prog_2_method_3_code 2 none ∈ zTw := zt4 38 (by rfl) rfl
set_option maxRecDepth 20000 in
theorem kw_4_40 : Cond.instanceMethod ⟨"ClassOfMany", "member", "(II)I"⟩ ∈ zTw := zt4 40 (by rfl) rfl
set_option maxRecDepth 20000 in
theorem kw_4_41 : Cond.selects "ClassOfMany" ⟨"ClassOfMany", "member", "(II)I"⟩ ⟨"ClassOfMany", "member", "(II)I"⟩ ∈ zTw := zt4 41 (by rfl) rfl
set_option maxRecDepth 20000 in
theorem kw_4_42 : Cond.code ⟨"ClassOfMany", "member", "(II)I"⟩ prog_1_method_17_code 3 (some .int) ∈ zTw := zt4 42 (by rfl) rfl
set_option maxRecDepth 20000 in
theorem kw_4_43 : Cond.methodLink "ClassOfMany" 215 ⟨"ClassOfMany", "bitOf", "(II)I"⟩ ∈ zTw := zt4 43 (by rfl) rfl
set_option maxRecDepth 20000 in
theorem kw_4_44 : Cond.static ⟨"ClassOfMany", "bitOf", "(II)I"⟩ ∈ zTw := zt4 44 (by rfl) rfl
set_option maxRecDepth 20000 in
theorem kw_4_45 : Cond.code ⟨"ClassOfMany", "bitOf", "(II)I"⟩ prog_1_method_76_code 2 (some .int) ∈ zTw := zt4 45 (by rfl) rfl
set_option maxRecDepth 20000 in
theorem kw_4_47 : Cond.instanceMethod ⟨"ClassOfMany", "channel", "(II)I"⟩ ∈ zTw := zt4 47 (by rfl) rfl
set_option maxRecDepth 20000 in
theorem kw_4_48 : Cond.selects "ClassOfMany" ⟨"ClassOfMany", "channel", "(II)I"⟩ ⟨"ClassOfMany", "channel", "(II)I"⟩ ∈ zTw := zt4 48 (by rfl) rfl
set_option maxRecDepth 20000 in
theorem kw_4_49 : Cond.code ⟨"ClassOfMany", "channel", "(II)I"⟩ prog_1_method_18_code 3 (some .int) ∈ zTw := zt4 49 (by rfl) rfl
set_option maxRecDepth 20000 in
theorem kw_4_50 : Cond.methodLink "ClassOfMany" 228 ⟨"ClassOfMany", "reachedThrough", "(I)I"⟩ ∈ zTw := zt4 50 (by rfl) rfl
set_option maxRecDepth 20000 in
theorem kw_4_52 : Cond.instanceMethod ⟨"ClassOfMany", "reachedThrough", "(I)I"⟩ ∈ zTw := zt4 52 (by rfl) rfl
set_option maxRecDepth 20000 in
theorem kw_4_53 : Cond.code ⟨"ClassOfMany", "reachedThrough", "(I)I"⟩ prog_1_method_19_code 4 (some .int) ∈ zTw := zt4 53 (by rfl) rfl
set_option maxRecDepth 20000 in
theorem kw_4_55 : Cond.instanceMethod ⟨"ClassOfMany", "line", "(II)I"⟩ ∈ zTw := zt4 55 (by rfl) rfl
set_option maxRecDepth 20000 in
theorem kw_4_56 : Cond.selects "ClassOfMany" ⟨"ClassOfMany", "line", "(II)I"⟩ ⟨"ClassOfMany", "line", "(II)I"⟩ ∈ zTw := zt4 56 (by rfl) rfl
set_option maxRecDepth 20000 in
theorem kw_4_57 : Cond.code ⟨"ClassOfMany", "line", "(II)I"⟩ prog_1_method_20_code 3 (some .int) ∈ zTw := zt4 57 (by rfl) rfl
set_option maxRecDepth 20000 in
theorem kw_4_59 : Cond.instanceMethod ⟨"ClassOfMany", "ranked", "(I)I"⟩ ∈ zTw := zt4 59 (by rfl) rfl
set_option maxRecDepth 20000 in
theorem kw_4_60 : Cond.selects "ClassOfMany" ⟨"ClassOfMany", "ranked", "(I)I"⟩ ⟨"ClassOfMany", "ranked", "(I)I"⟩ ∈ zTw := zt4 60 (by rfl) rfl
set_option maxRecDepth 20000 in
theorem kw_4_61 : Cond.code ⟨"ClassOfMany", "ranked", "(I)I"⟩ prog_1_method_21_code 3 (some .int) ∈ zTw := zt4 61 (by rfl) rfl
set_option maxRecDepth 20000 in
theorem kw_4_62 : Cond.methodLink "ClassOfMany" 246 ⟨"ClassOfMany", "rankOf", "(I)I"⟩ ∈ zTw := zt4 62 (by rfl) rfl
set_option maxRecDepth 20000 in
theorem kw_4_64 : Cond.instanceMethod ⟨"ClassOfMany", "rankOf", "(I)I"⟩ ∈ zTw := zt4 64 (by rfl) rfl
set_option maxRecDepth 20000 in
theorem kw_4_65 : Cond.code ⟨"ClassOfMany", "rankOf", "(I)I"⟩ prog_1_method_22_code 6 (some .int) ∈ zTw := zt4 65 (by rfl) rfl
set_option maxRecDepth 20000 in
theorem kw_4_67 : Cond.instanceMethod ⟨"ClassOfMany", "together", "(II)I"⟩ ∈ zTw := zt4 67 (by rfl) rfl
set_option maxRecDepth 20000 in
theorem kw_4_68 : Cond.selects "ClassOfMany" ⟨"ClassOfMany", "together", "(II)I"⟩ ⟨"ClassOfMany", "together", "(II)I"⟩ ∈ zTw := zt4 68 (by rfl) rfl
set_option maxRecDepth 20000 in
theorem kw_4_69 : Cond.code ⟨"ClassOfMany", "together", "(II)I"⟩ prog_1_method_23_code 5 (some .int) ∈ zTw := zt4 69 (by rfl) rfl
set_option maxRecDepth 20000 in
theorem kw_4_70 : Cond.methodLink "ClassOfMany" 249 ⟨"java/lang/Math", "max", "(II)I"⟩ ∈ zTw := zt4 70 (by rfl) rfl
set_option maxRecDepth 20000 in
theorem kw_4_71 : Cond.methodLink "ClassOfMany" 254 ⟨"java/lang/Math", "min", "(II)I"⟩ ∈ zTw := zt4 71 (by rfl) rfl
set_option maxRecDepth 20000 in
theorem kw_4_73 : Cond.instanceMethod ⟨"ClassOfMany", "busiest", "(I)I"⟩ ∈ zTw := zt4 73 (by rfl) rfl
set_option maxRecDepth 20000 in
theorem kw_4_74 : Cond.selects "ClassOfMany" ⟨"ClassOfMany", "busiest", "(I)I"⟩ ⟨"ClassOfMany", "busiest", "(I)I"⟩ ∈ zTw := zt4 74 (by rfl) rfl
set_option maxRecDepth 20000 in
theorem kw_4_75 : Cond.code ⟨"ClassOfMany", "busiest", "(I)I"⟩ prog_1_method_24_code 6 (some .int) ∈ zTw := zt4 75 (by rfl) rfl
set_option maxRecDepth 20000 in
theorem kw_4_76 : Cond.methodLink "ClassOfMany" 257 ⟨"ClassOfMany", "claimantsOn", "(I)I"⟩ ∈ zTw := zt4 76 (by rfl) rfl
set_option maxRecDepth 20000 in
theorem kw_4_78 : Cond.instanceMethod ⟨"ClassOfMany", "claimantsOn", "(I)I"⟩ ∈ zTw := zt4 78 (by rfl) rfl
set_option maxRecDepth 20000 in
theorem kw_4_79 : Cond.code ⟨"ClassOfMany", "claimantsOn", "(I)I"⟩ prog_1_method_25_code 4 (some .int) ∈ zTw := zt4 79 (by rfl) rfl
set_option maxRecDepth 20000 in
theorem kw_4_81 : Cond.instanceMethod ⟨"ClassOfMany", "classes", "()I"⟩ ∈ zTw := zt4 81 (by rfl) rfl
set_option maxRecDepth 20000 in
theorem kw_4_82 : Cond.selects "ClassOfMany" ⟨"ClassOfMany", "classes", "()I"⟩ ⟨"ClassOfMany", "classes", "()I"⟩ ∈ zTw := zt4 82 (by rfl) rfl
set_option maxRecDepth 20000 in
theorem kw_4_83 : Cond.code ⟨"ClassOfMany", "classes", "()I"⟩ prog_1_method_27_code 1 (some .int) ∈ zTw := zt4 83 (by rfl) rfl
set_option maxRecDepth 20000 in
theorem kw_4_84 : Cond.methodLink "ClassOfMany" 264 ⟨"ClassOfMany", "splitNow", "()V"⟩ ∈ zTw := zt4 84 (by rfl) rfl
set_option maxRecDepth 20000 in
theorem kw_4_86 : Cond.instanceMethod ⟨"ClassOfMany", "splitNow", "()V"⟩ ∈ zTw := zt4 86 (by rfl) rfl
set_option maxRecDepth 20000 in
theorem kw_4_87 : Cond.code ⟨"ClassOfMany", "splitNow", "()V"⟩ prog_1_method_26_code 1 none ∈ zTw := zt4 87 (by rfl) rfl
set_option maxRecDepth 20000 in
theorem kw_4_88 : Cond.methodLink "ClassOfMany" 260 ⟨"ClassOfMany$Splitter", "split", "(LClassOfMany$Told;LClassOfMany$Standing;)V"⟩ ∈ zTw := zt4 88 (by rfl) rfl
set_option maxRecDepth 20000 in
theorem kw_4_89 : Cond.instanceMethod ⟨"ClassOfMany$Splitter", "split", "(LClassOfMany$Told;LClassOfMany$Standing;)V"⟩ ∈ zTw := zt4 89 (by rfl) rfl
set_option maxRecDepth 20000 in
theorem kw_4_90 : Cond.selects "ClassOfMany$Splitter" ⟨"ClassOfMany$Splitter", "split", "(LClassOfMany$Told;LClassOfMany$Standing;)V"⟩ ⟨"ClassOfMany$Splitter", "split", "(LClassOfMany$Told;LClassOfMany$Standing;)V"⟩ ∈ zTw := zt4 90 (by rfl) rfl
set_option maxRecDepth 20000 in
theorem kw_4_91 : Cond.code ⟨"ClassOfMany$Splitter", "split", "(LClassOfMany$Told;LClassOfMany$Standing;)V"⟩ prog_8_method_3_code 4 none ∈ zTw := zt4 91 (by rfl) rfl
set_option maxRecDepth 20000 in
theorem kw_4_92 : Cond.methodLink "ClassOfMany$Splitter" 53 ⟨"ClassOfMany$Splitter", "take", "(LClassOfMany$Told;LClassOfMany$Standing;)V"⟩ ∈ zTw := zt4 92 (by rfl) rfl
set_option maxRecDepth 20000 in
theorem kw_4_93 : Cond.instanceMethod ⟨"ClassOfMany$Splitter", "take", "(LClassOfMany$Told;LClassOfMany$Standing;)V"⟩ ∈ zTw := zt4 93 (by rfl) rfl
set_option maxRecDepth 20000 in
theorem kw_4_94 : Cond.selects "ClassOfMany$Splitter" ⟨"ClassOfMany$Splitter", "take", "(LClassOfMany$Told;LClassOfMany$Standing;)V"⟩ ⟨"ClassOfMany$Splitter", "take", "(LClassOfMany$Told;LClassOfMany$Standing;)V"⟩ ∈ zTw := zt4 94 (by rfl) rfl
set_option maxRecDepth 20000 in
theorem kw_4_95 : Cond.code ⟨"ClassOfMany$Splitter", "take", "(LClassOfMany$Told;LClassOfMany$Standing;)V"⟩ prog_8_method_2_code 3 none ∈ zTw := zt4 95 (by rfl) rfl
set_option maxRecDepth 20000 in
theorem kw_4_96 : Cond.methodLink "ClassOfMany$Splitter" 47 ⟨"java/lang/System", "arraycopy", "(Ljava/lang/Object;ILjava/lang/Object;II)V"⟩ ∈ zTw := zt4 96 (by rfl) rfl
set_option maxRecDepth 20000 in
theorem kw_4_97 : Cond.methodLink "ClassOfMany$Splitter" 57 ⟨"ClassOfMany$Splitter", "fitsInto", "(I)Z"⟩ ∈ zTw := zt4 97 (by rfl) rfl
set_option maxRecDepth 20000 in
theorem kw_4_99 : Cond.instanceMethod ⟨"ClassOfMany$Splitter", "fitsInto", "(I)Z"⟩ ∈ zTw := zt4 99 (by rfl) rfl
set_option maxRecDepth 20000 in
theorem kw_4_100 : Cond.code ⟨"ClassOfMany$Splitter", "fitsInto", "(I)Z"⟩ prog_8_method_4_code 2 (some .boolean) ∈ zTw := zt4 100 (by rfl) rfl
set_option maxRecDepth 20000 in
theorem kw_4_101 : Cond.methodLink "ClassOfMany$Splitter" 64 ⟨"java/util/Arrays", "fill", "([II)V"⟩ ∈ zTw := zt4 101 (by rfl) rfl
set_option maxRecDepth 20000 in
theorem kw_4_102 : Cond.methodLink "ClassOfMany$Splitter" 70 ⟨"ClassOfMany$Splitter", "place", "(LClassOfMany$Splitter;II)Z"⟩ ∈ zTw := zt4 102 (by rfl) rfl
set_option maxRecDepth 20000 in
theorem kw_4_103 : Cond.static ⟨"ClassOfMany$Splitter", "place", "(LClassOfMany$Splitter;II)Z"⟩ ∈ zTw := zt4 103 (by rfl) rfl
set_option maxRecDepth 20000 in
theorem kw_4_104 : Cond.code ⟨"ClassOfMany$Splitter", "place", "(LClassOfMany$Splitter;II)Z"⟩ prog_8_method_5_code 5 (some .boolean) ∈ zTw := zt4 104 (by rfl) rfl
set_option maxRecDepth 20000 in
theorem kw_4_106 : Cond.methodLink "ClassOfMany$Splitter" 78 ⟨"java/lang/Math", "min", "(II)I"⟩ ∈ zTw := zt4 106 (by rfl) rfl
set_option maxRecDepth 20000 in
theorem kw_4_107 : Cond.methodLink "ClassOfMany$Splitter" 84 ⟨"java/lang/Math", "max", "(II)I"⟩ ∈ zTw := zt4 107 (by rfl) rfl
set_option maxRecDepth 20000 in
theorem kw_4_109 : Cond.instanceMethod ⟨"ClassOfMany", "classOf", "(I)I"⟩ ∈ zTw := zt4 109 (by rfl) rfl
set_option maxRecDepth 20000 in
theorem kw_4_110 : Cond.selects "ClassOfMany" ⟨"ClassOfMany", "classOf", "(I)I"⟩ ⟨"ClassOfMany", "classOf", "(I)I"⟩ ∈ zTw := zt4 110 (by rfl) rfl
set_option maxRecDepth 20000 in
theorem kw_4_111 : Cond.code ⟨"ClassOfMany", "classOf", "(I)I"⟩ prog_1_method_28_code 2 (some .int) ∈ zTw := zt4 111 (by rfl) rfl
set_option maxRecDepth 20000 in
theorem kw_4_112 : Cond.methodLink "ClassOfMany" 268 ⟨"ClassOfMany$Splitter", "groupOf", "(I)I"⟩ ∈ zTw := zt4 112 (by rfl) rfl
set_option maxRecDepth 20000 in
theorem kw_4_113 : Cond.instanceMethod ⟨"ClassOfMany$Splitter", "groupOf", "(I)I"⟩ ∈ zTw := zt4 113 (by rfl) rfl
set_option maxRecDepth 20000 in
theorem kw_4_114 : Cond.selects "ClassOfMany$Splitter" ⟨"ClassOfMany$Splitter", "groupOf", "(I)I"⟩ ⟨"ClassOfMany$Splitter", "groupOf", "(I)I"⟩ ∈ zTw := zt4 114 (by rfl) rfl
set_option maxRecDepth 20000 in
theorem kw_4_115 : Cond.code ⟨"ClassOfMany$Splitter", "groupOf", "(I)I"⟩ prog_8_method_7_code 3 (some .int) ∈ zTw := zt4 115 (by rfl) rfl
set_option maxRecDepth 20000 in
theorem kw_4_117 : Cond.instanceMethod ⟨"ClassOfMany", "classBits", "(I)I"⟩ ∈ zTw := zt4 117 (by rfl) rfl
set_option maxRecDepth 20000 in
theorem kw_4_118 : Cond.selects "ClassOfMany" ⟨"ClassOfMany", "classBits", "(I)I"⟩ ⟨"ClassOfMany", "classBits", "(I)I"⟩ ∈ zTw := zt4 118 (by rfl) rfl
set_option maxRecDepth 20000 in
theorem kw_4_119 : Cond.code ⟨"ClassOfMany", "classBits", "(I)I"⟩ prog_1_method_29_code 2 (some .int) ∈ zTw := zt4 119 (by rfl) rfl
set_option maxRecDepth 20000 in
theorem kw_4_120 : Cond.methodLink "ClassOfMany" 271 ⟨"ClassOfMany$Splitter", "isGroup", "(I)Z"⟩ ∈ zTw := zt4 120 (by rfl) rfl
set_option maxRecDepth 20000 in
theorem kw_4_121 : Cond.instanceMethod ⟨"ClassOfMany$Splitter", "isGroup", "(I)Z"⟩ ∈ zTw := zt4 121 (by rfl) rfl
set_option maxRecDepth 20000 in
theorem kw_4_122 : Cond.selects "ClassOfMany$Splitter" ⟨"ClassOfMany$Splitter", "isGroup", "(I)Z"⟩ ⟨"ClassOfMany$Splitter", "isGroup", "(I)Z"⟩ ∈ zTw := zt4 122 (by rfl) rfl
set_option maxRecDepth 20000 in
theorem kw_4_123 : Cond.code ⟨"ClassOfMany$Splitter", "isGroup", "(I)Z"⟩ prog_8_method_6_code 2 (some .boolean) ∈ zTw := zt4 123 (by rfl) rfl
set_option maxRecDepth 20000 in
theorem kw_4_125 : Cond.instanceMethod ⟨"ClassOfMany", "splits", "(I)I"⟩ ∈ zTw := zt4 125 (by rfl) rfl
set_option maxRecDepth 20000 in
theorem kw_4_126 : Cond.selects "ClassOfMany" ⟨"ClassOfMany", "splits", "(I)I"⟩ ⟨"ClassOfMany", "splits", "(I)I"⟩ ∈ zTw := zt4 126 (by rfl) rfl
set_option maxRecDepth 20000 in
theorem kw_4_127 : Cond.code ⟨"ClassOfMany", "splits", "(I)I"⟩ prog_1_method_30_code 2 (some .int) ∈ zTw := zt4 127 (by rfl) rfl
set_option maxRecDepth 20000 in
theorem kw_4_128 : Cond.methodLink "ClassOfMany" 277 ⟨"ClassOfMany$Splitter", "take", "(LClassOfMany$Told;LClassOfMany$Standing;)V"⟩ ∈ zTw := zt4 128 (by rfl) rfl
set_option maxRecDepth 20000 in
theorem kw_4_129 : Cond.methodLink "ClassOfMany" 280 ⟨"ClassOfMany$Splitter", "waysInto", "(I)I"⟩ ∈ zTw := zt4 129 (by rfl) rfl
set_option maxRecDepth 20000 in
theorem kw_4_130 : Cond.instanceMethod ⟨"ClassOfMany$Splitter", "waysInto", "(I)I"⟩ ∈ zTw := zt4 130 (by rfl) rfl
set_option maxRecDepth 20000 in
theorem kw_4_131 : Cond.selects "ClassOfMany$Splitter" ⟨"ClassOfMany$Splitter", "waysInto", "(I)I"⟩ ⟨"ClassOfMany$Splitter", "waysInto", "(I)I"⟩ ∈ zTw := zt4 131 (by rfl) rfl
set_option maxRecDepth 20000 in
theorem kw_4_132 : Cond.code ⟨"ClassOfMany$Splitter", "waysInto", "(I)I"⟩ prog_8_method_9_code 6 (some .int) ∈ zTw := zt4 132 (by rfl) rfl
set_option maxRecDepth 20000 in
theorem kw_4_133 : Cond.methodLink "ClassOfMany$Splitter" 87 ⟨"ClassOfMany$Splitter", "markPeaceful", "()V"⟩ ∈ zTw := zt4 133 (by rfl) rfl
set_option maxRecDepth 20000 in
theorem kw_4_135 : Cond.instanceMethod ⟨"ClassOfMany$Splitter", "markPeaceful", "()V"⟩ ∈ zTw := zt4 135 (by rfl) rfl
set_option maxRecDepth 20000 in
theorem kw_4_136 : Cond.code ⟨"ClassOfMany$Splitter", "markPeaceful", "()V"⟩ prog_8_method_10_code 4 none ∈ zTw := zt4 136 (by rfl) rfl
set_option maxRecDepth 20000 in
theorem kw_4_137 : Cond.methodLink "ClassOfMany$Splitter" 90 ⟨"ClassOfMany$Splitter", "waysOf", "(I[I)I"⟩ ∈ zTw := zt4 137 (by rfl) rfl
set_option maxRecDepth 20000 in
theorem kw_4_139 : Cond.instanceMethod ⟨"ClassOfMany$Splitter", "waysOf", "(I[I)I"⟩ ∈ zTw := zt4 139 (by rfl) rfl
set_option maxRecDepth 20000 in
theorem kw_4_140 : Cond.code ⟨"ClassOfMany$Splitter", "waysOf", "(I[I)I"⟩ prog_8_method_11_code 8 (some .int) ∈ zTw := zt4 140 (by rfl) rfl
set_option maxRecDepth 20000 in
theorem kw_4_142 : Cond.instanceMethod ⟨"ClassOfMany", "feud", "()I"⟩ ∈ zTw := zt4 142 (by rfl) rfl
set_option maxRecDepth 20000 in
theorem kw_4_143 : Cond.selects "ClassOfMany" ⟨"ClassOfMany", "feud", "()I"⟩ ⟨"ClassOfMany", "feud", "()I"⟩ ∈ zTw := zt4 143 (by rfl) rfl
set_option maxRecDepth 20000 in
theorem kw_4_144 : Cond.code ⟨"ClassOfMany", "feud", "()I"⟩ prog_1_method_31_code 1 (some .int) ∈ zTw := zt4 144 (by rfl) rfl
set_option maxRecDepth 20000 in
theorem kw_4_145 : Cond.methodLink "ClassOfMany" 283 ⟨"ClassOfMany$Splitter", "greatestFeud", "()I"⟩ ∈ zTw := zt4 145 (by rfl) rfl
set_option maxRecDepth 20000 in
theorem kw_4_146 : Cond.instanceMethod ⟨"ClassOfMany$Splitter", "greatestFeud", "()I"⟩ ∈ zTw := zt4 146 (by rfl) rfl
set_option maxRecDepth 20000 in
theorem kw_4_147 : Cond.selects "ClassOfMany$Splitter" ⟨"ClassOfMany$Splitter", "greatestFeud", "()I"⟩ ⟨"ClassOfMany$Splitter", "greatestFeud", "()I"⟩ ∈ zTw := zt4 147 (by rfl) rfl
set_option maxRecDepth 20000 in
theorem kw_4_148 : Cond.code ⟨"ClassOfMany$Splitter", "greatestFeud", "()I"⟩ prog_8_method_12_code 5 (some .int) ∈ zTw := zt4 148 (by rfl) rfl
set_option maxRecDepth 20000 in
theorem kw_4_149 : Cond.methodLink "ClassOfMany$Splitter" 94 ⟨"java/lang/Integer", "bitCount", "(I)I"⟩ ∈ zTw := zt4 149 (by rfl) rfl
set_option maxRecDepth 20000 in
theorem kw_4_150 : Cond.methodLink "ClassOfMany$Splitter" 100 ⟨"ClassOfMany$Splitter", "isFeud", "(I)Z"⟩ ∈ zTw := zt4 150 (by rfl) rfl
set_option maxRecDepth 20000 in
theorem kw_4_152 : Cond.instanceMethod ⟨"ClassOfMany$Splitter", "isFeud", "(I)Z"⟩ ∈ zTw := zt4 152 (by rfl) rfl
set_option maxRecDepth 20000 in
theorem kw_4_153 : Cond.code ⟨"ClassOfMany$Splitter", "isFeud", "(I)Z"⟩ prog_8_method_13_code 3 (some .boolean) ∈ zTw := zt4 153 (by rfl) rfl
set_option maxRecDepth 20000 in
theorem kw_4_155 : Cond.instanceMethod ⟨"ClassOfMany", "settles", "()I"⟩ ∈ zTw := zt4 155 (by rfl) rfl
set_option maxRecDepth 20000 in
theorem kw_4_156 : Cond.selects "ClassOfMany" ⟨"ClassOfMany", "settles", "()I"⟩ ⟨"ClassOfMany", "settles", "()I"⟩ ∈ zTw := zt4 156 (by rfl) rfl
set_option maxRecDepth 20000 in
theorem kw_4_157 : Cond.code ⟨"ClassOfMany", "settles", "()I"⟩ prog_1_method_32_code 4 (some .int) ∈ zTw := zt4 157 (by rfl) rfl
set_option maxRecDepth 20000 in
theorem kw_4_158 : Cond.methodLink "ClassOfMany" 286 ⟨"ClassOfMany$Splitter", "isFewerWithout", "(III)Z"⟩ ∈ zTw := zt4 158 (by rfl) rfl
set_option maxRecDepth 20000 in
theorem kw_4_159 : Cond.instanceMethod ⟨"ClassOfMany$Splitter", "isFewerWithout", "(III)Z"⟩ ∈ zTw := zt4 159 (by rfl) rfl
set_option maxRecDepth 20000 in
theorem kw_4_160 : Cond.selects "ClassOfMany$Splitter" ⟨"ClassOfMany$Splitter", "isFewerWithout", "(III)Z"⟩ ⟨"ClassOfMany$Splitter", "isFewerWithout", "(III)Z"⟩ ∈ zTw := zt4 160 (by rfl) rfl
set_option maxRecDepth 20000 in
theorem kw_4_161 : Cond.code ⟨"ClassOfMany$Splitter", "isFewerWithout", "(III)Z"⟩ prog_8_method_8_code 5 (some .boolean) ∈ zTw := zt4 161 (by rfl) rfl
set_option maxRecDepth 20000 in
theorem kw_4_163 : Cond.instanceMethod ⟨"ClassOfMany", "lead", "(I)I"⟩ ∈ zTw := zt4 163 (by rfl) rfl
set_option maxRecDepth 20000 in
theorem kw_4_164 : Cond.selects "ClassOfMany" ⟨"ClassOfMany", "lead", "(I)I"⟩ ⟨"ClassOfMany", "lead", "(I)I"⟩ ∈ zTw := zt4 164 (by rfl) rfl
set_option maxRecDepth 20000 in
theorem kw_4_165 : Cond.code ⟨"ClassOfMany", "lead", "(I)I"⟩ prog_1_method_33_code 5 (some .int) ∈ zTw := zt4 165 (by rfl) rfl
set_option maxRecDepth 20000 in
theorem kw_4_167 : Cond.instanceMethod ⟨"ClassOfMany", "costFor", "(I)I"⟩ ∈ zTw := zt4 167 (by rfl) rfl
set_option maxRecDepth 20000 in
theorem kw_4_168 : Cond.selects "ClassOfMany" ⟨"ClassOfMany", "costFor", "(I)I"⟩ ⟨"ClassOfMany", "costFor", "(I)I"⟩ ∈ zTw := zt4 168 (by rfl) rfl
set_option maxRecDepth 20000 in
theorem kw_4_169 : Cond.code ⟨"ClassOfMany", "costFor", "(I)I"⟩ prog_1_method_34_code 2 (some .int) ∈ zTw := zt4 169 (by rfl) rfl
set_option maxRecDepth 20000 in
theorem kw_4_171 : Cond.instanceMethod ⟨"ClassOfMany", "reachFor", "(II)I"⟩ ∈ zTw := zt4 171 (by rfl) rfl
set_option maxRecDepth 20000 in
theorem kw_4_172 : Cond.selects "ClassOfMany" ⟨"ClassOfMany", "reachFor", "(II)I"⟩ ⟨"ClassOfMany", "reachFor", "(II)I"⟩ ∈ zTw := zt4 172 (by rfl) rfl
set_option maxRecDepth 20000 in
theorem kw_4_173 : Cond.code ⟨"ClassOfMany", "reachFor", "(II)I"⟩ prog_1_method_35_code 3 (some .int) ∈ zTw := zt4 173 (by rfl) rfl
set_option maxRecDepth 20000 in
theorem kw_4_175 : Cond.instanceMethod ⟨"ClassOfMany", "cheapest", "(II)I"⟩ ∈ zTw := zt4 175 (by rfl) rfl
set_option maxRecDepth 20000 in
theorem kw_4_176 : Cond.selects "ClassOfMany" ⟨"ClassOfMany", "cheapest", "(II)I"⟩ ⟨"ClassOfMany", "cheapest", "(II)I"⟩ ∈ zTw := zt4 176 (by rfl) rfl
set_option maxRecDepth 20000 in
theorem kw_4_177 : Cond.code ⟨"ClassOfMany", "cheapest", "(II)I"⟩ prog_1_method_36_code 8 (some .int) ∈ zTw := zt4 177 (by rfl) rfl
set_option maxRecDepth 20000 in
theorem kw_4_178 : Cond.methodLink "ClassOfMany" 294 ⟨"ClassOfMany$Mail", "numbersOf", "(I)I"⟩ ∈ zTw := zt4 178 (by rfl) rfl
set_option maxRecDepth 20000 in
theorem kw_4_179 : Cond.methodLink "ClassOfMany" 297 ⟨"ClassOfMany$Mail", "isInTime", "(LClassOfMany$Told;II)Z"⟩ ∈ zTw := zt4 179 (by rfl) rfl
set_option maxRecDepth 20000 in
theorem kw_4_180 : Cond.static ⟨"ClassOfMany$Mail", "isInTime", "(LClassOfMany$Told;II)Z"⟩ ∈ zTw := zt4 180 (by rfl) rfl
set_option maxRecDepth 20000 in
theorem kw_4_181 : Cond.code ⟨"ClassOfMany$Mail", "isInTime", "(LClassOfMany$Told;II)Z"⟩ prog_3_method_9_code 4 (some .boolean) ∈ zTw := zt4 181 (by rfl) rfl
set_option maxRecDepth 20000 in
theorem kw_4_182 : Cond.methodLink "ClassOfMany$Mail" 45 ⟨"ClassOfMany$Mail", "daysTo", "(LClassOfMany$Told;II)I"⟩ ∈ zTw := zt4 182 (by rfl) rfl
set_option maxRecDepth 20000 in
theorem kw_4_184 : Cond.instanceMethod ⟨"ClassOfMany", "reachedBy", "(I)I"⟩ ∈ zTw := zt4 184 (by rfl) rfl
set_option maxRecDepth 20000 in
theorem kw_4_185 : Cond.selects "ClassOfMany" ⟨"ClassOfMany", "reachedBy", "(I)I"⟩ ⟨"ClassOfMany", "reachedBy", "(I)I"⟩ ∈ zTw := zt4 185 (by rfl) rfl
set_option maxRecDepth 20000 in
theorem kw_4_186 : Cond.code ⟨"ClassOfMany", "reachedBy", "(I)I"⟩ prog_1_method_37_code 5 (some .int) ∈ zTw := zt4 186 (by rfl) rfl
set_option maxRecDepth 20000 in
theorem kw_4_188 : Cond.instanceMethod ⟨"ClassOfMany", "fundOf", "(I)I"⟩ ∈ zTw := zt4 188 (by rfl) rfl
set_option maxRecDepth 20000 in
theorem kw_4_189 : Cond.selects "ClassOfMany" ⟨"ClassOfMany", "fundOf", "(I)I"⟩ ⟨"ClassOfMany", "fundOf", "(I)I"⟩ ∈ zTw := zt4 189 (by rfl) rfl
set_option maxRecDepth 20000 in
theorem kw_4_190 : Cond.code ⟨"ClassOfMany", "fundOf", "(I)I"⟩ prog_1_method_39_code 2 (some .int) ∈ zTw := zt4 190 (by rfl) rfl
set_option maxRecDepth 20000 in
theorem kw_4_191 : Cond.methodLink "ClassOfMany" 305 ⟨"ClassOfMany", "payNow", "()V"⟩ ∈ zTw := zt4 191 (by rfl) rfl
set_option maxRecDepth 20000 in
theorem kw_4_193 : Cond.instanceMethod ⟨"ClassOfMany", "payNow", "()V"⟩ ∈ zTw := zt4 193 (by rfl) rfl
set_option maxRecDepth 20000 in
theorem kw_4_194 : Cond.code ⟨"ClassOfMany", "payNow", "()V"⟩ prog_1_method_38_code 1 none ∈ zTw := zt4 194 (by rfl) rfl
set_option maxRecDepth 20000 in
theorem kw_4_195 : Cond.methodLink "ClassOfMany" 301 ⟨"ClassOfMany$Payer", "pay", "(LClassOfMany$Splitter;LClassOfMany$Told;LClassOfMany$Standing;)V"⟩ ∈ zTw := zt4 195 (by rfl) rfl
set_option maxRecDepth 20000 in
theorem kw_4_196 : Cond.instanceMethod ⟨"ClassOfMany$Payer", "pay", "(LClassOfMany$Splitter;LClassOfMany$Told;LClassOfMany$Standing;)V"⟩ ∈ zTw := zt4 196 (by rfl) rfl
set_option maxRecDepth 20000 in
theorem kw_4_197 : Cond.selects "ClassOfMany$Payer" ⟨"ClassOfMany$Payer", "pay", "(LClassOfMany$Splitter;LClassOfMany$Told;LClassOfMany$Standing;)V"⟩ ⟨"ClassOfMany$Payer", "pay", "(LClassOfMany$Splitter;LClassOfMany$Told;LClassOfMany$Standing;)V"⟩ ∈ zTw := zt4 197 (by rfl) rfl
set_option maxRecDepth 20000 in
theorem kw_4_198 : Cond.code ⟨"ClassOfMany$Payer", "pay", "(LClassOfMany$Splitter;LClassOfMany$Told;LClassOfMany$Standing;)V"⟩ prog_5_method_2_code 6 none ∈ zTw := zt4 198 (by rfl) rfl
set_option maxRecDepth 20000 in
theorem kw_4_199 : Cond.methodLink "ClassOfMany$Payer" 33 ⟨"ClassOfMany$Splitter", "split", "(LClassOfMany$Told;LClassOfMany$Standing;)V"⟩ ∈ zTw := zt4 199 (by rfl) rfl
set_option maxRecDepth 20000 in
theorem kw_4_200 : Cond.methodLink "ClassOfMany$Payer" 39 ⟨"ClassOfMany$Payer", "gather", "(LClassOfMany$Splitter;LClassOfMany$Told;LClassOfMany$Standing;)V"⟩ ∈ zTw := zt4 200 (by rfl) rfl
set_option maxRecDepth 20000 in
theorem kw_4_202 : Cond.instanceMethod ⟨"ClassOfMany$Payer", "gather", "(LClassOfMany$Splitter;LClassOfMany$Told;LClassOfMany$Standing;)V"⟩ ∈ zTw := zt4 202 (by rfl) rfl
set_option maxRecDepth 20000 in
theorem kw_4_203 : Cond.code ⟨"ClassOfMany$Payer", "gather", "(LClassOfMany$Splitter;LClassOfMany$Told;LClassOfMany$Standing;)V"⟩ prog_5_method_3_code 5 none ∈ zTw := zt4 203 (by rfl) rfl
set_option maxRecDepth 20000 in
theorem kw_4_204 : Cond.methodLink "ClassOfMany$Payer" 63 ⟨"java/util/Arrays", "fill", "([II)V"⟩ ∈ zTw := zt4 204 (by rfl) rfl
set_option maxRecDepth 20000 in
theorem kw_4_205 : Cond.methodLink "ClassOfMany$Payer" 109 ⟨"ClassOfMany$Standing", "claimOf", "(LClassOfMany$Told;I)I"⟩ ∈ zTw := zt4 205 (by rfl) rfl
set_option maxRecDepth 20000 in
theorem kw_4_207 : Cond.methodLink "ClassOfMany$Payer" 123 ⟨"ClassOfMany$Splitter", "groupOf", "(I)I"⟩ ∈ zTw := zt4 207 (by rfl) rfl
set_option maxRecDepth 20000 in
theorem kw_4_208 : Cond.methodLink "ClassOfMany$Payer" 126 yPay4 ∈ zTw := zt4 208 (by rfl) rfl
set_option maxRecDepth 20000 in
theorem kw_4_210 : Cond.instanceMethod yPay4 ∈ zTw := zt4 210 (by rfl) rfl
set_option maxRecDepth 20000 in
theorem kw_4_211 : Cond.code yPay4 prog_5_method_4_code 3 none ∈ zTw := zt4 211 (by rfl) rfl
set_option maxRecDepth 20000 in
theorem kw_4_213 : Cond.static ⟨"ClassOfMany", "netOf", "(LClassOfMany$Told;II)I"⟩ ∈ zTw := zt4 213 (by rfl) rfl
set_option maxRecDepth 20000 in
theorem kw_4_214 : Cond.code ⟨"ClassOfMany", "netOf", "(LClassOfMany$Told;II)I"⟩ prog_1_method_80_code 3 (some .int) ∈ zTw := zt4 214 (by rfl) rfl
set_option maxRecDepth 20000 in
theorem kw_4_215 : Cond.methodLink "ClassOfMany$Payer" 59 ⟨"ClassOfMany$Payer", "fillPots", "(I)V"⟩ ∈ zTw := zt4 215 (by rfl) rfl
set_option maxRecDepth 20000 in
theorem kw_4_217 : Cond.instanceMethod ⟨"ClassOfMany$Payer", "fillPots", "(I)V"⟩ ∈ zTw := zt4 217 (by rfl) rfl
set_option maxRecDepth 20000 in
theorem kw_4_218 : Cond.code ⟨"ClassOfMany$Payer", "fillPots", "(I)V"⟩ prog_5_method_5_code 3 none ∈ zTw := zt4 218 (by rfl) rfl
set_option maxRecDepth 20000 in
theorem kw_4_219 : Cond.methodLink "ClassOfMany$Payer" 136 ⟨"ClassOfMany$Payer", "weightOf", "(I)I"⟩ ∈ zTw := zt4 219 (by rfl) rfl
set_option maxRecDepth 20000 in
theorem kw_4_221 : Cond.instanceMethod ⟨"ClassOfMany$Payer", "weightOf", "(I)I"⟩ ∈ zTw := zt4 221 (by rfl) rfl
set_option maxRecDepth 20000 in
theorem kw_4_222 : Cond.code ⟨"ClassOfMany$Payer", "weightOf", "(I)I"⟩ prog_5_method_6_code 2 (some .int) ∈ zTw := zt4 222 (by rfl) rfl
set_option maxRecDepth 20000 in
theorem kw_4_223 : Cond.methodLink "ClassOfMany$Payer" 139 ⟨"ClassOfMany$Payer", "weightInAll", "()I"⟩ ∈ zTw := zt4 223 (by rfl) rfl
set_option maxRecDepth 20000 in
theorem kw_4_225 : Cond.instanceMethod ⟨"ClassOfMany$Payer", "weightInAll", "()I"⟩ ∈ zTw := zt4 225 (by rfl) rfl
set_option maxRecDepth 20000 in
theorem kw_4_226 : Cond.code ⟨"ClassOfMany$Payer", "weightInAll", "()I"⟩ prog_5_method_7_code 1 (some .int) ∈ zTw := zt4 226 (by rfl) rfl
set_option maxRecDepth 20000 in
theorem kw_4_227 : Cond.methodLink "ClassOfMany$Payer" 143 ⟨"java/lang/Math", "max", "(II)I"⟩ ∈ zTw := zt4 227 (by rfl) rfl
set_option maxRecDepth 20000 in
theorem kw_4_228 : Cond.methodLink "ClassOfMany$Payer" 75 ⟨"ClassOfMany$Payer", "payFirst", "()Z"⟩ ∈ zTw := zt4 228 (by rfl) rfl
set_option maxRecDepth 20000 in
theorem kw_4_230 : Cond.instanceMethod ⟨"ClassOfMany$Payer", "payFirst", "()Z"⟩ ∈ zTw := zt4 230 (by rfl) rfl
set_option maxRecDepth 20000 in
theorem kw_4_231 : Cond.code ⟨"ClassOfMany$Payer", "payFirst", "()Z"⟩ prog_5_method_9_code 2 (some .boolean) ∈ zTw := zt4 231 (by rfl) rfl
set_option maxRecDepth 20000 in
theorem kw_4_232 : Cond.methodLink "ClassOfMany$Payer" 153 ⟨"ClassOfMany$Payer", "firstSent", "(I)I"⟩ ∈ zTw := zt4 232 (by rfl) rfl
set_option maxRecDepth 20000 in
theorem kw_4_234 : Cond.instanceMethod ⟨"ClassOfMany$Payer", "firstSent", "(I)I"⟩ ∈ zTw := zt4 234 (by rfl) rfl
set_option maxRecDepth 20000 in
theorem kw_4_235 : Cond.code ⟨"ClassOfMany$Payer", "firstSent", "(I)I"⟩ prog_5_method_8_code 6 (some .int) ∈ zTw := zt4 235 (by rfl) rfl
set_option maxRecDepth 20000 in
theorem kw_4_236 : Cond.methodLink "ClassOfMany$Payer" 149 ⟨"java/lang/Math", "min", "(JJ)J"⟩ ∈ zTw := zt4 236 (by rfl) rfl
set_option maxRecDepth 20000 in
theorem kw_4_237 : Cond.static ⟨"java/lang/Math", "min", "(JJ)J"⟩ ∈ zTw := zt4 237 (by rfl) rfl
set_option maxRecDepth 20000 in
theorem kw_4_238 : Cond.code ⟨"java/lang/Math", "min", "(JJ)J"⟩ prog_14_method_70_code 4 (some .long) ∈ zTw := zt4 238 (by rfl) rfl
set_option maxRecDepth 20000 in
theorem kw_4_239 : Cond.methodLink "ClassOfMany$Payer" 156 ⟨"ClassOfMany$Payer", "give", "(III)V"⟩ ∈ zTw := zt4 239 (by rfl) rfl
set_option maxRecDepth 20000 in
theorem kw_5_1 : Cond.instanceMethod ⟨"ClassOfMany$Payer", "give", "(III)V"⟩ ∈ zTw := zt5 1 (by rfl) rfl
set_option maxRecDepth 20000 in
theorem kw_5_2 : Cond.code ⟨"ClassOfMany$Payer", "give", "(III)V"⟩ prog_5_method_11_code 4 none ∈ zTw := zt5 2 (by rfl) rfl
set_option maxRecDepth 20000 in
theorem kw_5_3 : Cond.methodLink "ClassOfMany$Payer" 79 ⟨"ClassOfMany$Payer", "payFurther", "(I)Z"⟩ ∈ zTw := zt5 3 (by rfl) rfl
set_option maxRecDepth 20000 in
theorem kw_5_5 : Cond.instanceMethod ⟨"ClassOfMany$Payer", "payFurther", "(I)Z"⟩ ∈ zTw := zt5 5 (by rfl) rfl
set_option maxRecDepth 20000 in
theorem kw_5_6 : Cond.code ⟨"ClassOfMany$Payer", "payFurther", "(I)Z"⟩ prog_5_method_10_code 8 (some .boolean) ∈ zTw := zt5 6 (by rfl) rfl
set_option maxRecDepth 20000 in
theorem kw_5_7 : Cond.methodLink "ClassOfMany" 320 ⟨"ClassOfMany$Payer", "satisfied", "(I)I"⟩ ∈ zTw := zt5 7 (by rfl) rfl
set_option maxRecDepth 20000 in
theorem kw_5_8 : Cond.instanceMethod ⟨"ClassOfMany$Payer", "satisfied", "(I)I"⟩ ∈ zTw := zt5 8 (by rfl) rfl
set_option maxRecDepth 20000 in
theorem kw_5_9 : Cond.selects "ClassOfMany$Payer" ⟨"ClassOfMany$Payer", "satisfied", "(I)I"⟩ ⟨"ClassOfMany$Payer", "satisfied", "(I)I"⟩ ∈ zTw := zt5 9 (by rfl) rfl
set_option maxRecDepth 20000 in
theorem kw_5_10 : Cond.code ⟨"ClassOfMany$Payer", "satisfied", "(I)I"⟩ prog_5_method_12_code 4 (some .int) ∈ zTw := zt5 10 (by rfl) rfl
set_option maxRecDepth 20000 in
theorem kw_5_12 : Cond.instanceMethod ⟨"ClassOfMany", "pot", "(I)I"⟩ ∈ zTw := zt5 12 (by rfl) rfl
set_option maxRecDepth 20000 in
theorem kw_5_13 : Cond.selects "ClassOfMany" ⟨"ClassOfMany", "pot", "(I)I"⟩ ⟨"ClassOfMany", "pot", "(I)I"⟩ ∈ zTw := zt5 13 (by rfl) rfl
set_option maxRecDepth 20000 in
theorem kw_5_14 : Cond.code ⟨"ClassOfMany", "pot", "(I)I"⟩ prog_1_method_40_code 2 (some .int) ∈ zTw := zt5 14 (by rfl) rfl
set_option maxRecDepth 20000 in
theorem kw_5_16 : Cond.instanceMethod ⟨"ClassOfMany", "paid", "(I)I"⟩ ∈ zTw := zt5 16 (by rfl) rfl
set_option maxRecDepth 20000 in
theorem kw_5_17 : Cond.selects "ClassOfMany" ⟨"ClassOfMany", "paid", "(I)I"⟩ ⟨"ClassOfMany", "paid", "(I)I"⟩ ∈ zTw := zt5 17 (by rfl) rfl
set_option maxRecDepth 20000 in
theorem kw_5_18 : Cond.code ⟨"ClassOfMany", "paid", "(I)I"⟩ prog_1_method_41_code 2 (some .int) ∈ zTw := zt5 18 (by rfl) rfl
set_option maxRecDepth 20000 in
theorem kw_5_20 : Cond.instanceMethod ⟨"ClassOfMany", "had", "(II)I"⟩ ∈ zTw := zt5 20 (by rfl) rfl
set_option maxRecDepth 20000 in
theorem kw_5_21 : Cond.selects "ClassOfMany" ⟨"ClassOfMany", "had", "(II)I"⟩ ⟨"ClassOfMany", "had", "(II)I"⟩ ∈ zTw := zt5 21 (by rfl) rfl
set_option maxRecDepth 20000 in
theorem kw_5_22 : Cond.code ⟨"ClassOfMany", "had", "(II)I"⟩ prog_1_method_42_code 3 (some .int) ∈ zTw := zt5 22 (by rfl) rfl
set_option maxRecDepth 20000 in
theorem kw_5_24 : Cond.instanceMethod ⟨"ClassOfMany", "share", "()I"⟩ ∈ zTw := zt5 24 (by rfl) rfl
set_option maxRecDepth 20000 in
theorem kw_5_25 : Cond.selects "ClassOfMany" ⟨"ClassOfMany", "share", "()I"⟩ ⟨"ClassOfMany", "share", "()I"⟩ ∈ zTw := zt5 25 (by rfl) rfl
set_option maxRecDepth 20000 in
theorem kw_5_26 : Cond.code ⟨"ClassOfMany", "share", "()I"⟩ prog_1_method_43_code 1 (some .int) ∈ zTw := zt5 26 (by rfl) rfl
set_option maxRecDepth 20000 in
theorem kw_5_28 : Cond.instanceMethod ⟨"ClassOfMany", "votes", "(I)I"⟩ ∈ zTw := zt5 28 (by rfl) rfl
set_option maxRecDepth 20000 in
theorem kw_5_29 : Cond.selects "ClassOfMany" ⟨"ClassOfMany", "votes", "(I)I"⟩ ⟨"ClassOfMany", "votes", "(I)I"⟩ ∈ zTw := zt5 29 (by rfl) rfl
set_option maxRecDepth 20000 in
theorem kw_5_30 : Cond.code ⟨"ClassOfMany", "votes", "(I)I"⟩ prog_1_method_44_code 4 (some .int) ∈ zTw := zt5 30 (by rfl) rfl
set_option maxRecDepth 20000 in
theorem kw_5_31 : Cond.methodLink "ClassOfMany" 335 ⟨"ClassOfMany", "isHundredths", "(I)Z"⟩ ∈ zTw := zt5 31 (by rfl) rfl
set_option maxRecDepth 20000 in
theorem kw_5_32 : Cond.static ⟨"ClassOfMany", "isHundredths", "(I)Z"⟩ ∈ zTw := zt5 32 (by rfl) rfl
set_option maxRecDepth 20000 in
theorem kw_5_33 : Cond.code ⟨"ClassOfMany", "isHundredths", "(I)Z"⟩ prog_1_method_74_code 1 (some .boolean) ∈ zTw := zt5 33 (by rfl) rfl
set_option maxRecDepth 20000 in
theorem kw_5_35 : Cond.instanceMethod ⟨"ClassOfMany", "wereOut", "(II)I"⟩ ∈ zTw := zt5 35 (by rfl) rfl
set_option maxRecDepth 20000 in
theorem kw_5_36 : Cond.selects "ClassOfMany" ⟨"ClassOfMany", "wereOut", "(II)I"⟩ ⟨"ClassOfMany", "wereOut", "(II)I"⟩ ∈ zTw := zt5 36 (by rfl) rfl
set_option maxRecDepth 20000 in
theorem kw_5_37 : Cond.code ⟨"ClassOfMany", "wereOut", "(II)I"⟩ prog_1_method_47_code 3 (some .int) ∈ zTw := zt5 37 (by rfl) rfl
set_option maxRecDepth 20000 in
theorem kw_5_38 : Cond.methodLink "ClassOfMany" 344 ⟨"ClassOfMany", "paidIfOut", "(II)I"⟩ ∈ zTw := zt5 38 (by rfl) rfl
set_option maxRecDepth 20000 in
theorem kw_5_40 : Cond.instanceMethod ⟨"ClassOfMany", "paidIfOut", "(II)I"⟩ ∈ zTw := zt5 40 (by rfl) rfl
set_option maxRecDepth 20000 in
theorem kw_5_41 : Cond.code ⟨"ClassOfMany", "paidIfOut", "(II)I"⟩ prog_1_method_45_code 3 (some .int) ∈ zTw := zt5 41 (by rfl) rfl
set_option maxRecDepth 20000 in
theorem kw_5_43 : Cond.instanceMethod ⟨"ClassOfMany", "wereFund", "(II)I"⟩ ∈ zTw := zt5 43 (by rfl) rfl
set_option maxRecDepth 20000 in
theorem kw_5_44 : Cond.selects "ClassOfMany" ⟨"ClassOfMany", "wereFund", "(II)I"⟩ ⟨"ClassOfMany", "wereFund", "(II)I"⟩ ∈ zTw := zt5 44 (by rfl) rfl
set_option maxRecDepth 20000 in
theorem kw_5_45 : Cond.code ⟨"ClassOfMany", "wereFund", "(II)I"⟩ prog_1_method_48_code 3 (some .int) ∈ zTw := zt5 45 (by rfl) rfl
set_option maxRecDepth 20000 in
theorem kw_5_47 : Cond.instanceMethod ⟨"ClassOfMany", "wereRule", "(II)I"⟩ ∈ zTw := zt5 47 (by rfl) rfl
set_option maxRecDepth 20000 in
theorem kw_5_48 : Cond.selects "ClassOfMany" ⟨"ClassOfMany", "wereRule", "(II)I"⟩ ⟨"ClassOfMany", "wereRule", "(II)I"⟩ ∈ zTw := zt5 48 (by rfl) rfl
set_option maxRecDepth 20000 in
theorem kw_5_49 : Cond.code ⟨"ClassOfMany", "wereRule", "(II)I"⟩ prog_1_method_49_code 3 (some .int) ∈ zTw := zt5 49 (by rfl) rfl
set_option maxRecDepth 20000 in
theorem kw_5_50 : Cond.methodLink "ClassOfMany" 347 ⟨"ClassOfMany", "paidIfRule", "(II)I"⟩ ∈ zTw := zt5 50 (by rfl) rfl
set_option maxRecDepth 20000 in
theorem kw_5_52 : Cond.instanceMethod ⟨"ClassOfMany", "paidIfRule", "(II)I"⟩ ∈ zTw := zt5 52 (by rfl) rfl
set_option maxRecDepth 20000 in
theorem kw_5_53 : Cond.code ⟨"ClassOfMany", "paidIfRule", "(II)I"⟩ prog_1_method_46_code 3 (some .int) ∈ zTw := zt5 53 (by rfl) rfl
set_option maxRecDepth 20000 in
theorem kw_5_55 : Cond.instanceMethod ⟨"ClassOfMany", "ruleFor", "(I)I"⟩ ∈ zTw := zt5 55 (by rfl) rfl
set_option maxRecDepth 20000 in
theorem kw_5_56 : Cond.selects "ClassOfMany" ⟨"ClassOfMany", "ruleFor", "(I)I"⟩ ⟨"ClassOfMany", "ruleFor", "(I)I"⟩ ∈ zTw := zt5 56 (by rfl) rfl
set_option maxRecDepth 20000 in
theorem kw_5_57 : Cond.code ⟨"ClassOfMany", "ruleFor", "(I)I"⟩ prog_1_method_50_code 6 (some .int) ∈ zTw := zt5 57 (by rfl) rfl
set_option maxRecDepth 20000 in
theorem kw_5_59 : Cond.instanceMethod ⟨"ClassOfMany", "leaver", "(I)I"⟩ ∈ zTw := zt5 59 (by rfl) rfl
set_option maxRecDepth 20000 in
theorem kw_5_60 : Cond.selects "ClassOfMany" ⟨"ClassOfMany", "leaver", "(I)I"⟩ ⟨"ClassOfMany", "leaver", "(I)I"⟩ ∈ zTw := zt5 60 (by rfl) rfl
set_option maxRecDepth 20000 in
theorem kw_5_61 : Cond.code ⟨"ClassOfMany", "leaver", "(I)I"⟩ prog_1_method_51_code 6 (some .int) ∈ zTw := zt5 61 (by rfl) rfl
set_option maxRecDepth 20000 in
theorem kw_5_63 : Cond.instanceMethod ⟨"ClassOfMany", "alone", "(I)I"⟩ ∈ zTw := zt5 63 (by rfl) rfl
set_option maxRecDepth 20000 in
theorem kw_5_64 : Cond.selects "ClassOfMany" ⟨"ClassOfMany", "alone", "(I)I"⟩ ⟨"ClassOfMany", "alone", "(I)I"⟩ ∈ zTw := zt5 64 (by rfl) rfl
set_option maxRecDepth 20000 in
theorem kw_5_65 : Cond.code ⟨"ClassOfMany", "alone", "(I)I"⟩ prog_1_method_52_code 2 (some .int) ∈ zTw := zt5 65 (by rfl) rfl
set_option maxRecDepth 20000 in
theorem kw_5_66 : Cond.methodLink "ClassOfMany" 350 ⟨"ClassOfMany", "isSet", "(I)Z"⟩ ∈ zTw := zt5 66 (by rfl) rfl
set_option maxRecDepth 20000 in
theorem kw_5_68 : Cond.instanceMethod ⟨"ClassOfMany", "isSet", "(I)Z"⟩ ∈ zTw := zt5 68 (by rfl) rfl
set_option maxRecDepth 20000 in
theorem kw_5_69 : Cond.code ⟨"ClassOfMany", "isSet", "(I)Z"⟩ prog_1_method_71_code 2 (some .boolean) ∈ zTw := zt5 69 (by rfl) rfl
set_option maxRecDepth 20000 in
theorem kw_5_71 : Cond.instanceMethod ⟨"ClassOfMany", "needs", "()I"⟩ ∈ zTw := zt5 71 (by rfl) rfl
set_option maxRecDepth 20000 in
theorem kw_5_72 : Cond.selects "ClassOfMany" ⟨"ClassOfMany", "needs", "()I"⟩ ⟨"ClassOfMany", "needs", "()I"⟩ ∈ zTw := zt5 72 (by rfl) rfl
set_option maxRecDepth 20000 in
theorem kw_5_73 : Cond.code ⟨"ClassOfMany", "needs", "()I"⟩ prog_1_method_53_code 2 (some .int) ∈ zTw := zt5 73 (by rfl) rfl
set_option maxRecDepth 20000 in
theorem kw_5_74 : Cond.methodLink "ClassOfMany" 353 ⟨"ClassOfMany$Payer", "leastNet", "(LClassOfMany$Splitter;LClassOfMany$Told;LClassOfMany$Standing;)I"⟩ ∈ zTw := zt5 74 (by rfl) rfl
set_option maxRecDepth 20000 in
theorem kw_5_75 : Cond.instanceMethod ⟨"ClassOfMany$Payer", "leastNet", "(LClassOfMany$Splitter;LClassOfMany$Told;LClassOfMany$Standing;)I"⟩ ∈ zTw := zt5 75 (by rfl) rfl
set_option maxRecDepth 20000 in
theorem kw_5_76 : Cond.selects "ClassOfMany$Payer" ⟨"ClassOfMany$Payer", "leastNet", "(LClassOfMany$Splitter;LClassOfMany$Told;LClassOfMany$Standing;)I"⟩ ⟨"ClassOfMany$Payer", "leastNet", "(LClassOfMany$Splitter;LClassOfMany$Told;LClassOfMany$Standing;)I"⟩ ∈ zTw := zt5 76 (by rfl) rfl
set_option maxRecDepth 20000 in
theorem kw_5_77 : Cond.code ⟨"ClassOfMany$Payer", "leastNet", "(LClassOfMany$Splitter;LClassOfMany$Told;LClassOfMany$Standing;)I"⟩ prog_5_method_13_code 11 (some .int) ∈ zTw := zt5 77 (by rfl) rfl
set_option maxRecDepth 20000 in
theorem kw_5_78 : Cond.constant "ClassOfMany$Payer" 160 (99999 : Int32) ∈ zTw := zt5 78 (by rfl) rfl
set_option maxRecDepth 20000 in
theorem kw_5_79 : Cond.methodLink "ClassOfMany$Payer" 161 ⟨"ClassOfMany$Payer", "nextNet", "(I)J"⟩ ∈ zTw := zt5 79 (by rfl) rfl
set_option maxRecDepth 20000 in
theorem kw_5_81 : Cond.instanceMethod ⟨"ClassOfMany$Payer", "nextNet", "(I)J"⟩ ∈ zTw := zt5 81 (by rfl) rfl
set_option maxRecDepth 20000 in
theorem kw_5_82 : Cond.code ⟨"ClassOfMany$Payer", "nextNet", "(I)J"⟩ prog_5_method_14_code 6 (some .long) ∈ zTw := zt5 82 (by rfl) rfl
set_option maxRecDepth 20000 in
theorem kw_5_83 : Cond.constantLong "ClassOfMany$Payer" 165 (1152921504606846976 : Int64) ∈ zTw := zt5 83 (by rfl) rfl
set_option maxRecDepth 20000 in
theorem kw_5_84 : Cond.methodLink "ClassOfMany$Payer" 167 ⟨"ClassOfMany$Payer", "netForPot", "(IJ)J"⟩ ∈ zTw := zt5 84 (by rfl) rfl
set_option maxRecDepth 20000 in
theorem kw_5_86 : Cond.instanceMethod ⟨"ClassOfMany$Payer", "netForPot", "(IJ)J"⟩ ∈ zTw := zt5 86 (by rfl) rfl
set_option maxRecDepth 20000 in
theorem kw_5_87 : Cond.code ⟨"ClassOfMany$Payer", "netForPot", "(IJ)J"⟩ prog_5_method_16_code 4 (some .long) ∈ zTw := zt5 87 (by rfl) rfl
set_option maxRecDepth 20000 in
theorem kw_5_88 : Cond.methodLink "ClassOfMany$Payer" 176 ⟨"ClassOfMany$Payer", "cutUp", "(JJ)J"⟩ ∈ zTw := zt5 88 (by rfl) rfl
set_option maxRecDepth 20000 in
theorem kw_5_89 : Cond.static ⟨"ClassOfMany$Payer", "cutUp", "(JJ)J"⟩ ∈ zTw := zt5 89 (by rfl) rfl
set_option maxRecDepth 20000 in
theorem kw_5_90 : Cond.code ⟨"ClassOfMany$Payer", "cutUp", "(JJ)J"⟩ prog_5_method_17_code 4 (some .long) ∈ zTw := zt5 90 (by rfl) rfl
set_option maxRecDepth 20000 in
theorem kw_5_91 : Cond.methodLink "ClassOfMany$Payer" 171 ⟨"ClassOfMany$Payer", "netForSent", "(IJ)J"⟩ ∈ zTw := zt5 91 (by rfl) rfl
set_option maxRecDepth 20000 in
theorem kw_5_93 : Cond.instanceMethod ⟨"ClassOfMany$Payer", "netForSent", "(IJ)J"⟩ ∈ zTw := zt5 93 (by rfl) rfl
set_option maxRecDepth 20000 in
theorem kw_5_94 : Cond.code ⟨"ClassOfMany$Payer", "netForSent", "(IJ)J"⟩ prog_5_method_15_code 5 (some .long) ∈ zTw := zt5 94 (by rfl) rfl
set_option maxRecDepth 20000 in
theorem kw_5_95 : Cond.methodLink "ClassOfMany$Payer" 174 ⟨"java/lang/Math", "max", "(JJ)J"⟩ ∈ zTw := zt5 95 (by rfl) rfl
set_option maxRecDepth 20000 in
theorem kw_5_96 : Cond.static ⟨"java/lang/Math", "max", "(JJ)J"⟩ ∈ zTw := zt5 96 (by rfl) rfl
set_option maxRecDepth 20000 in
theorem kw_5_97 : Cond.code ⟨"java/lang/Math", "max", "(JJ)J"⟩ prog_14_method_66_code 4 (some .long) ∈ zTw := zt5 97 (by rfl) rfl
set_option maxRecDepth 20000 in
theorem kw_5_98 : Cond.methodLink "ClassOfMany" 357 ⟨"ClassOfMany", "fundFor", "(I)I"⟩ ∈ zTw := zt5 98 (by rfl) rfl
set_option maxRecDepth 20000 in
theorem kw_5_100 : Cond.instanceMethod ⟨"ClassOfMany", "fundFor", "(I)I"⟩ ∈ zTw := zt5 100 (by rfl) rfl
set_option maxRecDepth 20000 in
theorem kw_5_101 : Cond.code ⟨"ClassOfMany", "fundFor", "(I)I"⟩ prog_1_method_54_code 6 (some .int) ∈ zTw := zt5 101 (by rfl) rfl
set_option maxRecDepth 20000 in
theorem kw_5_102 : Cond.methodLink "ClassOfMany" 361 ⟨"ClassOfMany", "netOf", "(LClassOfMany$Told;II)I"⟩ ∈ zTw := zt5 102 (by rfl) rfl
set_option maxRecDepth 20000 in
theorem kw_5_104 : Cond.instanceMethod ⟨"ClassOfMany", "rests", "(III)I"⟩ ∈ zTw := zt5 104 (by rfl) rfl
set_option maxRecDepth 20000 in
theorem kw_5_105 : Cond.selects "ClassOfMany" ⟨"ClassOfMany", "rests", "(III)I"⟩ ⟨"ClassOfMany", "rests", "(III)I"⟩ ∈ zTw := zt5 105 (by rfl) rfl
set_option maxRecDepth 20000 in
theorem kw_5_106 : Cond.code ⟨"ClassOfMany", "rests", "(III)I"⟩ prog_1_method_55_code 4 (some .int) ∈ zTw := zt5 106 (by rfl) rfl
set_option maxRecDepth 20000 in
theorem kw_5_107 : Cond.methodLink "ClassOfMany" 364 ⟨"ClassOfMany$Resting", "isKnown", "(II)Z"⟩ ∈ zTw := zt5 107 (by rfl) rfl
set_option maxRecDepth 20000 in
theorem kw_5_108 : Cond.instanceMethod ⟨"ClassOfMany$Resting", "isKnown", "(II)Z"⟩ ∈ zTw := zt5 108 (by rfl) rfl
set_option maxRecDepth 20000 in
theorem kw_5_109 : Cond.selects "ClassOfMany$Resting" ⟨"ClassOfMany$Resting", "isKnown", "(II)Z"⟩ ⟨"ClassOfMany$Resting", "isKnown", "(II)Z"⟩ ∈ zTw := zt5 109 (by rfl) rfl
set_option maxRecDepth 20000 in
theorem kw_5_110 : Cond.code ⟨"ClassOfMany$Resting", "isKnown", "(II)Z"⟩ prog_7_method_3_code 3 (some .boolean) ∈ zTw := zt5 110 (by rfl) rfl
set_option maxRecDepth 20000 in
theorem kw_5_111 : Cond.methodLink "ClassOfMany" 367 ⟨"ClassOfMany$Resting", "find", "(LClassOfMany$Splitter;LClassOfMany$Payer;LClassOfMany$Told;LClassOfMany$Standing;II)V"⟩ ∈ zTw := zt5 111 (by rfl) rfl
set_option maxRecDepth 20000 in
theorem kw_5_112 : Cond.instanceMethod ⟨"ClassOfMany$Resting", "find", "(LClassOfMany$Splitter;LClassOfMany$Payer;LClassOfMany$Told;LClassOfMany$Standing;II)V"⟩ ∈ zTw := zt5 112 (by rfl) rfl
set_option maxRecDepth 20000 in
theorem kw_5_113 : Cond.selects "ClassOfMany$Resting" ⟨"ClassOfMany$Resting", "find", "(LClassOfMany$Splitter;LClassOfMany$Payer;LClassOfMany$Told;LClassOfMany$Standing;II)V"⟩ ⟨"ClassOfMany$Resting", "find", "(LClassOfMany$Splitter;LClassOfMany$Payer;LClassOfMany$Told;LClassOfMany$Standing;II)V"⟩ ∈ zTw := zt5 113 (by rfl) rfl
set_option maxRecDepth 20000 in
theorem kw_5_114 : Cond.code ⟨"ClassOfMany$Resting", "find", "(LClassOfMany$Splitter;LClassOfMany$Payer;LClassOfMany$Told;LClassOfMany$Standing;II)V"⟩ prog_7_method_4_code 9 none ∈ zTw := zt5 114 (by rfl) rfl
set_option maxRecDepth 20000 in
theorem kw_5_115 : Cond.methodLink "ClassOfMany$Resting" 40 ⟨"ClassOfMany$Standing", "claimOf", "(LClassOfMany$Told;I)I"⟩ ∈ zTw := zt5 115 (by rfl) rfl
set_option maxRecDepth 20000 in
theorem kw_5_116 : Cond.methodLink "ClassOfMany$Resting" 46 ⟨"java/lang/Math", "max", "(II)I"⟩ ∈ zTw := zt5 116 (by rfl) rfl
set_option maxRecDepth 20000 in
theorem kw_5_117 : Cond.methodLink "ClassOfMany$Resting" 61 ⟨"ClassOfMany$Payer", "pay", "(LClassOfMany$Splitter;LClassOfMany$Told;LClassOfMany$Standing;)V"⟩ ∈ zTw := zt5 117 (by rfl) rfl
set_option maxRecDepth 20000 in
theorem kw_5_118 : Cond.methodLink "ClassOfMany$Resting" 67 ⟨"ClassOfMany$Resting", "weigh", "(IILClassOfMany$Payer;)Z"⟩ ∈ zTw := zt5 118 (by rfl) rfl
set_option maxRecDepth 20000 in
theorem kw_5_120 : Cond.instanceMethod ⟨"ClassOfMany$Resting", "weigh", "(IILClassOfMany$Payer;)Z"⟩ ∈ zTw := zt5 120 (by rfl) rfl
set_option maxRecDepth 20000 in
theorem kw_5_121 : Cond.code ⟨"ClassOfMany$Resting", "weigh", "(IILClassOfMany$Payer;)Z"⟩ prog_7_method_5_code 6 (some .boolean) ∈ zTw := zt5 121 (by rfl) rfl
set_option maxRecDepth 20000 in
theorem kw_5_123 : Cond.methodLink "ClassOfMany$Resting" 71 ⟨"ClassOfMany$Resting", "noneComesIn", "(II)Z"⟩ ∈ zTw := zt5 123 (by rfl) rfl
set_option maxRecDepth 20000 in
theorem kw_5_125 : Cond.instanceMethod ⟨"ClassOfMany$Resting", "noneComesIn", "(II)Z"⟩ ∈ zTw := zt5 125 (by rfl) rfl
set_option maxRecDepth 20000 in
theorem kw_5_126 : Cond.code ⟨"ClassOfMany$Resting", "noneComesIn", "(II)Z"⟩ prog_7_method_6_code 4 (some .boolean) ∈ zTw := zt5 126 (by rfl) rfl
set_option maxRecDepth 20000 in
theorem kw_5_128 : Cond.instanceMethod ⟨"ClassOfMany", "sample", "(II)I"⟩ ∈ zTw := zt5 128 (by rfl) rfl
set_option maxRecDepth 20000 in
theorem kw_5_129 : Cond.selects "ClassOfMany" ⟨"ClassOfMany", "sample", "(II)I"⟩ ⟨"ClassOfMany", "sample", "(II)I"⟩ ∈ zTw := zt5 129 (by rfl) rfl
set_option maxRecDepth 20000 in
theorem kw_5_130 : Cond.code ⟨"ClassOfMany", "sample", "(II)I"⟩ prog_1_method_56_code 7 (some .int) ∈ zTw := zt5 130 (by rfl) rfl
set_option maxRecDepth 20000 in
theorem kw_5_131 : Cond.constant "ClassOfMany" 375 (1103515245 : Int32) ∈ zTw := zt5 131 (by rfl) rfl
set_option maxRecDepth 20000 in
theorem kw_5_132 : Cond.methodLink "ClassOfMany" 376 ⟨"ClassOfMany", "undrawnMember", "(II)I"⟩ ∈ zTw := zt5 132 (by rfl) rfl
set_option maxRecDepth 20000 in
theorem kw_5_134 : Cond.instanceMethod ⟨"ClassOfMany", "undrawnMember", "(II)I"⟩ ∈ zTw := zt5 134 (by rfl) rfl
set_option maxRecDepth 20000 in
theorem kw_5_135 : Cond.code ⟨"ClassOfMany", "undrawnMember", "(II)I"⟩ prog_1_method_57_code 5 (some .int) ∈ zTw := zt5 135 (by rfl) rfl
set_option maxRecDepth 20000 in
theorem kw_5_137 : Cond.instanceMethod ⟨"ClassOfMany", "estimate", "(I)I"⟩ ∈ zTw := zt5 137 (by rfl) rfl
set_option maxRecDepth 20000 in
theorem kw_5_138 : Cond.selects "ClassOfMany" ⟨"ClassOfMany", "estimate", "(I)I"⟩ ⟨"ClassOfMany", "estimate", "(I)I"⟩ ∈ zTw := zt5 138 (by rfl) rfl
set_option maxRecDepth 20000 in
theorem kw_5_139 : Cond.code ⟨"ClassOfMany", "estimate", "(I)I"⟩ prog_1_method_58_code 2 (some .int) ∈ zTw := zt5 139 (by rfl) rfl
set_option maxRecDepth 20000 in
theorem kw_5_140 : Cond.methodLink "ClassOfMany" 379 ⟨"ClassOfMany", "estimateBy", "(I)I"⟩ ∈ zTw := zt5 140 (by rfl) rfl
set_option maxRecDepth 20000 in
theorem kw_5_142 : Cond.instanceMethod ⟨"ClassOfMany", "estimateBy", "(I)I"⟩ ∈ zTw := zt5 142 (by rfl) rfl
set_option maxRecDepth 20000 in
theorem kw_5_143 : Cond.code ⟨"ClassOfMany", "estimateBy", "(I)I"⟩ prog_1_method_59_code 3 (some .int) ∈ zTw := zt5 143 (by rfl) rfl
set_option maxRecDepth 20000 in
theorem kw_5_145 : Cond.instanceMethod ⟨"ClassOfMany", "nearest", "(II)I"⟩ ∈ zTw := zt5 145 (by rfl) rfl
set_option maxRecDepth 20000 in
theorem kw_5_146 : Cond.selects "ClassOfMany" ⟨"ClassOfMany", "nearest", "(II)I"⟩ ⟨"ClassOfMany", "nearest", "(II)I"⟩ ∈ zTw := zt5 146 (by rfl) rfl
set_option maxRecDepth 20000 in
theorem kw_5_147 : Cond.code ⟨"ClassOfMany", "nearest", "(II)I"⟩ prog_1_method_60_code 8 (some .int) ∈ zTw := zt5 147 (by rfl) rfl
set_option maxRecDepth 20000 in
theorem kw_5_148 : Cond.methodLink "ClassOfMany" 382 ⟨"java/lang/Math", "abs", "(I)I"⟩ ∈ zTw := zt5 148 (by rfl) rfl
set_option maxRecDepth 20000 in
theorem kw_5_149 : Cond.static ⟨"java/lang/Math", "abs", "(I)I"⟩ ∈ zTw := zt5 149 (by rfl) rfl
set_option maxRecDepth 20000 in
theorem kw_5_150 : Cond.code ⟨"java/lang/Math", "abs", "(I)I"⟩ prog_14_method_59_code 1 (some .int) ∈ zTw := zt5 150 (by rfl) rfl
set_option maxRecDepth 20000 in
theorem kw_5_152 : Cond.instanceMethod ⟨"ClassOfMany", "within", "(II)I"⟩ ∈ zTw := zt5 152 (by rfl) rfl
set_option maxRecDepth 20000 in
theorem kw_5_153 : Cond.selects "ClassOfMany" ⟨"ClassOfMany", "within", "(II)I"⟩ ⟨"ClassOfMany", "within", "(II)I"⟩ ∈ zTw := zt5 153 (by rfl) rfl
set_option maxRecDepth 20000 in
theorem kw_5_154 : Cond.code ⟨"ClassOfMany", "within", "(II)I"⟩ prog_1_method_61_code 6 (some .int) ∈ zTw := zt5 154 (by rfl) rfl
set_option maxRecDepth 20000 in
theorem kw_5_156 : Cond.instanceMethod ⟨"ClassOfMany", "spell", "(I)I"⟩ ∈ zTw := zt5 156 (by rfl) rfl
set_option maxRecDepth 20000 in
theorem kw_5_157 : Cond.selects "ClassOfMany" ⟨"ClassOfMany", "spell", "(I)I"⟩ ⟨"ClassOfMany", "spell", "(I)I"⟩ ∈ zTw := zt5 157 (by rfl) rfl
set_option maxRecDepth 20000 in
theorem kw_5_158 : Cond.code ⟨"ClassOfMany", "spell", "(I)I"⟩ prog_1_method_62_code 3 (some .int) ∈ zTw := zt5 158 (by rfl) rfl
set_option maxRecDepth 20000 in
theorem kw_5_159 : Cond.methodLink "ClassOfMany" 385 ⟨"ClassOfMany$Page", "clear", "()V"⟩ ∈ zTw := zt5 159 (by rfl) rfl
set_option maxRecDepth 20000 in
theorem kw_5_160 : Cond.instanceMethod ⟨"ClassOfMany$Page", "clear", "()V"⟩ ∈ zTw := zt5 160 (by rfl) rfl
set_option maxRecDepth 20000 in
theorem kw_5_161 : Cond.selects "ClassOfMany$Page" ⟨"ClassOfMany$Page", "clear", "()V"⟩ ⟨"ClassOfMany$Page", "clear", "()V"⟩ ∈ zTw := zt5 161 (by rfl) rfl
set_option maxRecDepth 20000 in
theorem kw_5_162 : Cond.code ⟨"ClassOfMany$Page", "clear", "()V"⟩ prog_4_method_2_code 1 none ∈ zTw := zt5 162 (by rfl) rfl
set_option maxRecDepth 20000 in
theorem kw_5_163 : Cond.methodLink "ClassOfMany" 388 ⟨"ClassOfMany", "wordOf", "(I)Ljava/lang/String;"⟩ ∈ zTw := zt5 163 (by rfl) rfl
set_option maxRecDepth 20000 in
theorem kw_5_164 : Cond.methodLink "ClassOfMany" 392 ⟨"ClassOfMany$Page", "putOne", "(Ljava/lang/String;I)V"⟩ ∈ zTw := zt5 164 (by rfl) rfl
set_option maxRecDepth 20000 in
theorem kw_5_165 : Cond.instanceMethod ⟨"ClassOfMany$Page", "putOne", "(Ljava/lang/String;I)V"⟩ ∈ zTw := zt5 165 (by rfl) rfl
set_option maxRecDepth 20000 in
theorem kw_5_166 : Cond.selects "ClassOfMany$Page" ⟨"ClassOfMany$Page", "putOne", "(Ljava/lang/String;I)V"⟩ ⟨"ClassOfMany$Page", "putOne", "(Ljava/lang/String;I)V"⟩ ∈ zTw := zt5 166 (by rfl) rfl
set_option maxRecDepth 20000 in
theorem kw_5_167 : Cond.code ⟨"ClassOfMany$Page", "putOne", "(Ljava/lang/String;I)V"⟩ prog_4_method_3_code 3 none ∈ zTw := zt5 167 (by rfl) rfl
set_option maxRecDepth 20000 in
theorem kw_5_168 : Cond.methodLink "ClassOfMany$Page" 19 ⟨"ClassOfMany$Page", "putText", "(Ljava/lang/String;)V"⟩ ∈ zTw := zt5 168 (by rfl) rfl
set_option maxRecDepth 20000 in
theorem kw_5_169 : Cond.instanceMethod ⟨"ClassOfMany$Page", "putText", "(Ljava/lang/String;)V"⟩ ∈ zTw := zt5 169 (by rfl) rfl
set_option maxRecDepth 20000 in
theorem kw_5_170 : Cond.selects "ClassOfMany$Page" ⟨"ClassOfMany$Page", "putText", "(Ljava/lang/String;)V"⟩ ⟨"ClassOfMany$Page", "putText", "(Ljava/lang/String;)V"⟩ ∈ zTw := zt5 170 (by rfl) rfl
set_option maxRecDepth 20000 in
theorem kw_5_171 : Cond.code ⟨"ClassOfMany$Page", "putText", "(Ljava/lang/String;)V"⟩ prog_4_method_5_code 3 none ∈ zTw := zt5 171 (by rfl) rfl
set_option maxRecDepth 20000 in
theorem kw_5_172 : Cond.methodLink "ClassOfMany$Page" 29 ⟨"java/lang/String", "length", "()I"⟩ ∈ zTw := zt5 172 (by rfl) rfl
set_option maxRecDepth 20000 in
theorem kw_5_173 : Cond.methodLink "ClassOfMany$Page" 35 ⟨"java/lang/String", "charAt", "(I)C"⟩ ∈ zTw := zt5 173 (by rfl) rfl
set_option maxRecDepth 20000 in
theorem kw_5_174 : Cond.methodLink "ClassOfMany$Page" 39 ⟨"ClassOfMany$Page", "putByte", "(I)V"⟩ ∈ zTw := zt5 174 (by rfl) rfl
set_option maxRecDepth 20000 in
theorem kw_5_176 : Cond.instanceMethod ⟨"ClassOfMany$Page", "putByte", "(I)V"⟩ ∈ zTw := zt5 176 (by rfl) rfl
set_option maxRecDepth 20000 in
theorem kw_5_177 : Cond.code ⟨"ClassOfMany$Page", "putByte", "(I)V"⟩ prog_4_method_7_code 2 none ∈ zTw := zt5 177 (by rfl) rfl
set_option maxRecDepth 20000 in
theorem kw_5_178 : Cond.methodLink "ClassOfMany$Page" 23 ⟨"ClassOfMany$Page", "putNumber", "(I)V"⟩ ∈ zTw := zt5 178 (by rfl) rfl
set_option maxRecDepth 20000 in
theorem kw_5_179 : Cond.instanceMethod ⟨"ClassOfMany$Page", "putNumber", "(I)V"⟩ ∈ zTw := zt5 179 (by rfl) rfl
set_option maxRecDepth 20000 in
theorem kw_5_180 : Cond.selects "ClassOfMany$Page" ⟨"ClassOfMany$Page", "putNumber", "(I)V"⟩ ⟨"ClassOfMany$Page", "putNumber", "(I)V"⟩ ∈ zTw := zt5 180 (by rfl) rfl
set_option maxRecDepth 20000 in
theorem kw_5_181 : Cond.code ⟨"ClassOfMany$Page", "putNumber", "(I)V"⟩ prog_4_method_6_code 3 none ∈ zTw := zt5 181 (by rfl) rfl
set_option maxRecDepth 20000 in
theorem kw_5_183 : Cond.methodLink "ClassOfMany" 402 ⟨"ClassOfMany$Page", "putTwo", "(Ljava/lang/String;II)V"⟩ ∈ zTw := zt5 183 (by rfl) rfl
set_option maxRecDepth 20000 in
theorem kw_5_184 : Cond.instanceMethod ⟨"ClassOfMany$Page", "putTwo", "(Ljava/lang/String;II)V"⟩ ∈ zTw := zt5 184 (by rfl) rfl
set_option maxRecDepth 20000 in
theorem kw_5_185 : Cond.selects "ClassOfMany$Page" ⟨"ClassOfMany$Page", "putTwo", "(Ljava/lang/String;II)V"⟩ ⟨"ClassOfMany$Page", "putTwo", "(Ljava/lang/String;II)V"⟩ ∈ zTw := zt5 185 (by rfl) rfl
set_option maxRecDepth 20000 in
theorem kw_5_186 : Cond.code ⟨"ClassOfMany$Page", "putTwo", "(Ljava/lang/String;II)V"⟩ prog_4_method_4_code 4 none ∈ zTw := zt5 186 (by rfl) rfl
set_option maxRecDepth 20000 in
theorem kw_5_187 : Cond.methodLink "ClassOfMany" 406 ⟨"ClassOfMany", "spellMember", "(I)V"⟩ ∈ zTw := zt5 187 (by rfl) rfl
set_option maxRecDepth 20000 in
theorem kw_5_189 : Cond.instanceMethod ⟨"ClassOfMany", "spellMember", "(I)V"⟩ ∈ zTw := zt5 189 (by rfl) rfl
set_option maxRecDepth 20000 in
theorem kw_5_190 : Cond.code ⟨"ClassOfMany", "spellMember", "(I)V"⟩ prog_1_method_63_code 3 none ∈ zTw := zt5 190 (by rfl) rfl
set_option maxRecDepth 20000 in
theorem kw_5_191 : Cond.methodLink "ClassOfMany" 415 ⟨"ClassOfMany$Page", "putText", "(Ljava/lang/String;)V"⟩ ∈ zTw := zt5 191 (by rfl) rfl
set_option maxRecDepth 20000 in
theorem kw_5_192 : Cond.methodLink "ClassOfMany" 419 ⟨"ClassOfMany$Page", "putNumber", "(I)V"⟩ ∈ zTw := zt5 192 (by rfl) rfl
set_option maxRecDepth 20000 in
theorem kw_5_195 : Cond.methodLink "ClassOfMany" 409 ⟨"ClassOfMany", "spellConflicts", "()V"⟩ ∈ zTw := zt5 195 (by rfl) rfl
set_option maxRecDepth 20000 in
theorem kw_5_197 : Cond.instanceMethod ⟨"ClassOfMany", "spellConflicts", "()V"⟩ ∈ zTw := zt5 197 (by rfl) rfl
set_option maxRecDepth 20000 in
theorem kw_5_198 : Cond.code ⟨"ClassOfMany", "spellConflicts", "()V"⟩ prog_1_method_64_code 3 none ∈ zTw := zt5 198 (by rfl) rfl
set_option maxRecDepth 20000 in
theorem kw_5_199 : Cond.methodLink "ClassOfMany" 412 ⟨"ClassOfMany$Page", "answer", "(I)I"⟩ ∈ zTw := zt5 199 (by rfl) rfl
set_option maxRecDepth 20000 in
theorem kw_5_200 : Cond.instanceMethod ⟨"ClassOfMany$Page", "answer", "(I)I"⟩ ∈ zTw := zt5 200 (by rfl) rfl
set_option maxRecDepth 20000 in
theorem kw_5_201 : Cond.selects "ClassOfMany$Page" ⟨"ClassOfMany$Page", "answer", "(I)I"⟩ ⟨"ClassOfMany$Page", "answer", "(I)I"⟩ ∈ zTw := zt5 201 (by rfl) rfl
set_option maxRecDepth 20000 in
theorem kw_5_202 : Cond.code ⟨"ClassOfMany$Page", "answer", "(I)I"⟩ prog_4_method_8_code 2 (some .int) ∈ zTw := zt5 202 (by rfl) rfl
set_option maxRecDepth 20000 in
theorem kw_5_204 : Cond.instanceMethod ⟨"ClassOfMany", "report", "(I)I"⟩ ∈ zTw := zt5 204 (by rfl) rfl
set_option maxRecDepth 20000 in
theorem kw_5_205 : Cond.selects "ClassOfMany" ⟨"ClassOfMany", "report", "(I)I"⟩ ⟨"ClassOfMany", "report", "(I)I"⟩ ∈ zTw := zt5 205 (by rfl) rfl
set_option maxRecDepth 20000 in
theorem kw_5_206 : Cond.code ⟨"ClassOfMany", "report", "(I)I"⟩ prog_1_method_65_code 3 (some .int) ∈ zTw := zt5 206 (by rfl) rfl
set_option maxRecDepth 20000 in
theorem kw_5_210 : Cond.instanceMethod ⟨"ClassOfMany", "count", "(I)I"⟩ ∈ zTw := zt5 210 (by rfl) rfl
set_option maxRecDepth 20000 in
theorem kw_5_211 : Cond.selects "ClassOfMany" ⟨"ClassOfMany", "count", "(I)I"⟩ ⟨"ClassOfMany", "count", "(I)I"⟩ ∈ zTw := zt5 211 (by rfl) rfl
set_option maxRecDepth 20000 in
theorem kw_5_212 : Cond.code ⟨"ClassOfMany", "count", "(I)I"⟩ prog_1_method_66_code 2 (some .int) ∈ zTw := zt5 212 (by rfl) rfl
set_option maxRecDepth 20000 in
theorem kw_5_213 : Cond.methodLink "ClassOfMany" 430 ⟨"ClassOfMany", "conflictCount", "()I"⟩ ∈ zTw := zt5 213 (by rfl) rfl
set_option maxRecDepth 20000 in
theorem kw_5_215 : Cond.instanceMethod ⟨"ClassOfMany", "conflictCount", "()I"⟩ ∈ zTw := zt5 215 (by rfl) rfl
set_option maxRecDepth 20000 in
theorem kw_5_216 : Cond.code ⟨"ClassOfMany", "conflictCount", "()I"⟩ prog_1_method_67_code 3 (some .int) ∈ zTw := zt5 216 (by rfl) rfl
set_option maxRecDepth 20000 in
theorem kw_5_223 : Cond.methodLink "ClassOfManyModel" 58 ⟨"ClassOfManyModel", "anew", "()V"⟩ ∈ zTw := zt5 223 (by rfl) rfl
set_option maxRecDepth 20000 in
theorem kw_5_225 : Cond.instanceMethod ⟨"ClassOfManyModel", "anew", "()V"⟩ ∈ zTw := zt5 225 (by rfl) rfl
set_option maxRecDepth 20000 in
theorem kw_5_226 : Cond.code ⟨"ClassOfManyModel", "anew", "()V"⟩ prog_12_method_3_code 2 none ∈ zTw := zt5 226 (by rfl) rfl
set_option maxRecDepth 20000 in
theorem kw_5_227 : Cond.fieldLink "ClassOfManyModel" 7 "ClassOfManyModel" "now" "[I" ∈ zTw := zt5 227 (by rfl) rfl
set_option maxRecDepth 20000 in
theorem kw_5_228 : Cond.fieldLink "ClassOfManyModel" 13 "ClassOfManyModel" "aside" "[I" ∈ zTw := zt5 228 (by rfl) rfl
set_option maxRecDepth 20000 in
theorem kw_5_229 : Cond.fieldLink "ClassOfManyModel" 16 "ClassOfManyModel" "undos" "[I" ∈ zTw := zt5 229 (by rfl) rfl
set_option maxRecDepth 20000 in
theorem kw_5_230 : Cond.fieldLink "ClassOfManyModel" 188 "ClassOfManyModel" "undoMany" "I" ∈ zTw := zt5 230 (by rfl) rfl
set_option maxRecDepth 20000 in
theorem kw_5_231 : Cond.fieldLink "ClassOfManyModel" 19 "ClassOfManyModel" "tape" "[I" ∈ zTw := zt5 231 (by rfl) rfl
set_option maxRecDepth 20000 in
theorem kw_5_232 : Cond.fieldLink "ClassOfManyModel" 69 "ClassOfManyModel" "taped" "I" ∈ zTw := zt5 232 (by rfl) rfl
set_option maxRecDepth 20000 in
theorem kw_5_233 : Cond.fieldLink "ClassOfManyModel" 72 "ClassOfManyModel" "size" "I" ∈ zTw := zt5 233 (by rfl) rfl
set_option maxRecDepth 20000 in
theorem kw_5_234 : Cond.fieldLink "ClassOfManyModel" 78 "ClassOfManyModel" "at" "I" ∈ zTw := zt5 234 (by rfl) rfl
set_option maxRecDepth 20000 in
theorem kw_5_235 : Cond.fieldLink "ClassOfManyModel" 98 "ClassOfManyModel" "token" "I" ∈ zTw := zt5 235 (by rfl) rfl
set_option maxRecDepth 20000 in
theorem kw_5_236 : Cond.fieldLink "ClassOfManyModel" 81 "ClassOfManyModel" "from" "I" ∈ zTw := zt5 236 (by rfl) rfl
set_option maxRecDepth 20000 in
theorem kw_5_237 : Cond.fieldLink "ClassOfManyModel" 84 "ClassOfManyModel" "value" "I" ∈ zTw := zt5 237 (by rfl) rfl
set_option maxRecDepth 20000 in
theorem kw_5_238 : Cond.fieldLink "ClassOfManyModel" 75 "ClassOfManyModel" "fault" "I" ∈ zTw := zt5 238 (by rfl) rfl
set_option maxRecDepth 20000 in
theorem kw_5_239 : Cond.fieldLink "ClassOfManyModel" 22 "ClassOfManyModel" "lineSort" "[I" ∈ zTw := zt5 239 (by rfl) rfl
set_option maxRecDepth 20000 in
theorem kw_6_0 : Cond.fieldLink "ClassOfManyModel" 25 "ClassOfManyModel" "lineMany" "[I" ∈ zTw := zt6 0 (by rfl) rfl
set_option maxRecDepth 20000 in
theorem kw_6_1 : Cond.fieldLink "ClassOfManyModel" 28 "ClassOfManyModel" "lineN" "[I" ∈ zTw := zt6 1 (by rfl) rfl
set_option maxRecDepth 20000 in
theorem kw_6_2 : Cond.fieldLink "ClassOfManyModel" 185 "ClassOfManyModel" "lines" "I" ∈ zTw := zt6 2 (by rfl) rfl
set_option maxRecDepth 20000 in
theorem kw_6_3 : Cond.fieldLink "ClassOfManyModel" 112 "ClassOfManyModel" "read" "I" ∈ zTw := zt6 3 (by rfl) rfl
set_option maxRecDepth 20000 in
theorem kw_6_4 : Cond.fieldLink "ClassOfManyModel" 115 "ClassOfManyModel" "told" "I" ∈ zTw := zt6 4 (by rfl) rfl
set_option maxRecDepth 20000 in
theorem kw_6_5 : Cond.fieldLink "ClassOfManyModel" 31 "ClassOfManyModel" "part" "[I" ∈ zTw := zt6 5 (by rfl) rfl
set_option maxRecDepth 20000 in
theorem kw_6_6 : Cond.fieldLink "ClassOfManyModel" 217 "ClassOfManyModel" "parts" "I" ∈ zTw := zt6 6 (by rfl) rfl
set_option maxRecDepth 20000 in
theorem kw_6_7 : Cond.fieldLink "ClassOfManyModel" 229 "ClassOfManyModel" "nowIn" "I" ∈ zTw := zt6 7 (by rfl) rfl
set_option maxRecDepth 20000 in
theorem kw_6_8 : Cond.fieldLink "ClassOfManyModel" 235 "ClassOfManyModel" "nowCounted" "I" ∈ zTw := zt6 8 (by rfl) rfl
set_option maxRecDepth 20000 in
theorem kw_6_9 : Cond.fieldLink "ClassOfManyModel" 238 "ClassOfManyModel" "nowLazy" "I" ∈ zTw := zt6 9 (by rfl) rfl
set_option maxRecDepth 20000 in
theorem kw_6_10 : Cond.fieldLink "ClassOfManyModel" 241 "ClassOfManyModel" "nowFund" "I" ∈ zTw := zt6 10 (by rfl) rfl
set_option maxRecDepth 20000 in
theorem kw_6_11 : Cond.fieldLink "ClassOfManyModel" 244 "ClassOfManyModel" "nowRule" "I" ∈ zTw := zt6 11 (by rfl) rfl
set_option maxRecDepth 20000 in
theorem kw_6_12 : Cond.fieldLink "ClassOfManyModel" 34 "ClassOfManyModel" "paid" "[I" ∈ zTw := zt6 12 (by rfl) rfl
set_option maxRecDepth 20000 in
theorem kw_6_13 : Cond.fieldLink "ClassOfManyModel" 37 "ClassOfManyModel" "hadIn" "[I" ∈ zTw := zt6 13 (by rfl) rfl
set_option maxRecDepth 20000 in
theorem kw_6_14 : Cond.fieldLink "ClassOfManyModel" 268 "ClassOfManyModel" "rounds" "I" ∈ zTw := zt6 14 (by rfl) rfl
set_option maxRecDepth 20000 in
theorem kw_6_15 : Cond.fieldLink "ClassOfManyModel" 265 "ClassOfManyModel" "left" "I" ∈ zTw := zt6 15 (by rfl) rfl
set_option maxRecDepth 20000 in
theorem kw_6_16 : Cond.fieldLink "ClassOfManyModel" 40 "ClassOfManyModel" "pots" "[I" ∈ zTw := zt6 16 (by rfl) rfl
set_option maxRecDepth 20000 in
theorem kw_6_17 : Cond.fieldLink "ClassOfManyModel" 43 "ClassOfManyModel" "potClaims" "[I" ∈ zTw := zt6 17 (by rfl) rfl
set_option maxRecDepth 20000 in
theorem kw_6_18 : Cond.fieldLink "ClassOfManyModel" 46 "ClassOfManyModel" "who" "[I" ∈ zTw := zt6 18 (by rfl) rfl
set_option maxRecDepth 20000 in
theorem kw_6_19 : Cond.fieldLink "ClassOfManyModel" 49 "ClassOfManyModel" "its" "[I" ∈ zTw := zt6 19 (by rfl) rfl
set_option maxRecDepth 20000 in
theorem kw_6_20 : Cond.fieldLink "ClassOfManyModel" 52 "ClassOfManyModel" "table" "[I" ∈ zTw := zt6 20 (by rfl) rfl
set_option maxRecDepth 20000 in
theorem kw_6_21 : Cond.fieldLink "ClassOfManyModel" 55 "ClassOfManyModel" "spelt" "[I" ∈ zTw := zt6 21 (by rfl) rfl
set_option maxRecDepth 20000 in
theorem kw_6_22 : Cond.fieldLink "ClassOfManyModel" 345 "ClassOfManyModel" "speltMany" "I" ∈ zTw := zt6 22 (by rfl) rfl
set_option maxRecDepth 20000 in
theorem kw_6_99 : Cond.instanceMethod ⟨"ClassOfManyModel", "feed", "(IIIII)I"⟩ ∈ zTw := zt6 99 (by rfl) rfl
set_option maxRecDepth 20000 in
theorem kw_6_100 : Cond.selects "ClassOfManyModel" ⟨"ClassOfManyModel", "feed", "(IIIII)I"⟩ ⟨"ClassOfManyModel", "feed", "(IIIII)I"⟩ ∈ zTw := zt6 100 (by rfl) rfl
set_option maxRecDepth 20000 in
theorem kw_6_101 : Cond.code ⟨"ClassOfManyModel", "feed", "(IIIII)I"⟩ prog_12_method_9_code 8 (some .int) ∈ zTw := zt6 101 (by rfl) rfl
set_option maxRecDepth 20000 in
theorem kw_6_103 : Cond.instanceMethod ⟨"ClassOfManyModel", "back", "(I)I"⟩ ∈ zTw := zt6 103 (by rfl) rfl
set_option maxRecDepth 20000 in
theorem kw_6_104 : Cond.selects "ClassOfManyModel" ⟨"ClassOfManyModel", "back", "(I)I"⟩ ⟨"ClassOfManyModel", "back", "(I)I"⟩ ∈ zTw := zt6 104 (by rfl) rfl
set_option maxRecDepth 20000 in
theorem kw_6_105 : Cond.code ⟨"ClassOfManyModel", "back", "(I)I"⟩ prog_12_method_10_code 2 (some .int) ∈ zTw := zt6 105 (by rfl) rfl
set_option maxRecDepth 20000 in
theorem kw_6_106 : Cond.methodLink "ClassOfManyModel" 65 ⟨"ClassOfManyModel", "isIn", "(III)Z"⟩ ∈ zTw := zt6 106 (by rfl) rfl
set_option maxRecDepth 20000 in
theorem kw_6_107 : Cond.static ⟨"ClassOfManyModel", "isIn", "(III)Z"⟩ ∈ zTw := zt6 107 (by rfl) rfl
set_option maxRecDepth 20000 in
theorem kw_6_108 : Cond.code ⟨"ClassOfManyModel", "isIn", "(III)Z"⟩ prog_12_method_4_code 3 (some .boolean) ∈ zTw := zt6 108 (by rfl) rfl
set_option maxRecDepth 20000 in
theorem kw_6_110 : Cond.instanceMethod ⟨"ClassOfManyModel", "text", "()I"⟩ ∈ zTw := zt6 110 (by rfl) rfl
set_option maxRecDepth 20000 in
theorem kw_6_111 : Cond.selects "ClassOfManyModel" ⟨"ClassOfManyModel", "text", "()I"⟩ ⟨"ClassOfManyModel", "text", "()I"⟩ ∈ zTw := zt6 111 (by rfl) rfl
set_option maxRecDepth 20000 in
theorem kw_6_112 : Cond.code ⟨"ClassOfManyModel", "text", "()I"⟩ prog_12_method_28_code 2 (some .int) ∈ zTw := zt6 112 (by rfl) rfl
set_option maxRecDepth 20000 in
theorem kw_6_113 : Cond.methodLink "ClassOfManyModel" 109 ⟨"ClassOfManyModel", "nextToken", "()V"⟩ ∈ zTw := zt6 113 (by rfl) rfl
set_option maxRecDepth 20000 in
theorem kw_6_115 : Cond.instanceMethod ⟨"ClassOfManyModel", "nextToken", "()V"⟩ ∈ zTw := zt6 115 (by rfl) rfl
set_option maxRecDepth 20000 in
theorem kw_6_116 : Cond.code ⟨"ClassOfManyModel", "nextToken", "()V"⟩ prog_12_method_14_code 2 none ∈ zTw := zt6 116 (by rfl) rfl
set_option maxRecDepth 20000 in
theorem kw_6_117 : Cond.methodLink "ClassOfManyModel" 87 ⟨"ClassOfManyModel", "isLetter", "(I)Z"⟩ ∈ zTw := zt6 117 (by rfl) rfl
set_option maxRecDepth 20000 in
theorem kw_6_119 : Cond.instanceMethod ⟨"ClassOfManyModel", "isLetter", "(I)Z"⟩ ∈ zTw := zt6 119 (by rfl) rfl
set_option maxRecDepth 20000 in
theorem kw_6_120 : Cond.code ⟨"ClassOfManyModel", "isLetter", "(I)Z"⟩ prog_12_method_11_code 2 (some .boolean) ∈ zTw := zt6 120 (by rfl) rfl
set_option maxRecDepth 20000 in
theorem kw_6_121 : Cond.methodLink "ClassOfManyModel" 91 ⟨"ClassOfManyModel", "isDigit", "(I)Z"⟩ ∈ zTw := zt6 121 (by rfl) rfl
set_option maxRecDepth 20000 in
theorem kw_6_123 : Cond.instanceMethod ⟨"ClassOfManyModel", "isDigit", "(I)Z"⟩ ∈ zTw := zt6 123 (by rfl) rfl
set_option maxRecDepth 20000 in
theorem kw_6_124 : Cond.code ⟨"ClassOfManyModel", "isDigit", "(I)Z"⟩ prog_12_method_12_code 2 (some .boolean) ∈ zTw := zt6 124 (by rfl) rfl
set_option maxRecDepth 20000 in
theorem kw_6_125 : Cond.methodLink "ClassOfManyModel" 94 ⟨"ClassOfManyModel", "wrong", "(I)V"⟩ ∈ zTw := zt6 125 (by rfl) rfl
set_option maxRecDepth 20000 in
theorem kw_6_127 : Cond.instanceMethod ⟨"ClassOfManyModel", "wrong", "(I)V"⟩ ∈ zTw := zt6 127 (by rfl) rfl
set_option maxRecDepth 20000 in
theorem kw_6_128 : Cond.code ⟨"ClassOfManyModel", "wrong", "(I)V"⟩ prog_12_method_13_code 2 none ∈ zTw := zt6 128 (by rfl) rfl
set_option maxRecDepth 20000 in
theorem kw_6_129 : Cond.constant "ClassOfManyModel" 101 (1000000 : Int32) ∈ zTw := zt6 129 (by rfl) rfl
set_option maxRecDepth 20000 in
theorem kw_6_130 : Cond.methodLink "ClassOfManyModel" 178 ⟨"ClassOfManyModel", "readLine", "()V"⟩ ∈ zTw := zt6 130 (by rfl) rfl
set_option maxRecDepth 20000 in
theorem kw_6_132 : Cond.instanceMethod ⟨"ClassOfManyModel", "readLine", "()V"⟩ ∈ zTw := zt6 132 (by rfl) rfl
set_option maxRecDepth 20000 in
theorem kw_6_133 : Cond.code ⟨"ClassOfManyModel", "readLine", "()V"⟩ prog_12_method_27_code 1 none ∈ zTw := zt6 133 (by rfl) rfl
set_option maxRecDepth 20000 in
theorem kw_6_134 : Cond.constantLong "ClassOfManyModel" 145 (133789 : Int64) ∈ zTw := zt6 134 (by rfl) rfl
set_option maxRecDepth 20000 in
theorem kw_6_135 : Cond.methodLink "ClassOfManyModel" 131 ⟨"ClassOfManyModel", "isWord", "(J)Z"⟩ ∈ zTw := zt6 135 (by rfl) rfl
set_option maxRecDepth 20000 in
theorem kw_6_137 : Cond.instanceMethod ⟨"ClassOfManyModel", "isWord", "(J)Z"⟩ ∈ zTw := zt6 137 (by rfl) rfl
set_option maxRecDepth 20000 in
theorem kw_6_138 : Cond.code ⟨"ClassOfManyModel", "isWord", "(J)Z"⟩ prog_12_method_15_code 6 (some .boolean) ∈ zTw := zt6 138 (by rfl) rfl
set_option maxRecDepth 20000 in
theorem kw_6_139 : Cond.constantLong "ClassOfManyModel" 102 (27 : Int64) ∈ zTw := zt6 139 (by rfl) rfl
set_option maxRecDepth 20000 in
theorem kw_6_140 : Cond.constantLong "ClassOfManyModel" 104 (96 : Int64) ∈ zTw := zt6 140 (by rfl) rfl
set_option maxRecDepth 20000 in
theorem kw_6_141 : Cond.constant "ClassOfManyModel" 147 (99999 : Int32) ∈ zTw := zt6 141 (by rfl) rfl
set_option maxRecDepth 20000 in
theorem kw_6_142 : Cond.methodLink "ClassOfManyModel" 148 ⟨"ClassOfManyModel", "readOne", "(III)V"⟩ ∈ zTw := zt6 142 (by rfl) rfl
set_option maxRecDepth 20000 in
theorem kw_6_144 : Cond.instanceMethod ⟨"ClassOfManyModel", "readOne", "(III)V"⟩ ∈ zTw := zt6 144 (by rfl) rfl
set_option maxRecDepth 20000 in
theorem kw_6_145 : Cond.code ⟨"ClassOfManyModel", "readOne", "(III)V"⟩ prog_12_method_25_code 5 none ∈ zTw := zt6 145 (by rfl) rfl
set_option maxRecDepth 20000 in
theorem kw_6_146 : Cond.methodLink "ClassOfManyModel" 142 ⟨"ClassOfManyModel", "once", "(I)V"⟩ ∈ zTw := zt6 146 (by rfl) rfl
set_option maxRecDepth 20000 in
theorem kw_6_148 : Cond.instanceMethod ⟨"ClassOfManyModel", "once", "(I)V"⟩ ∈ zTw := zt6 148 (by rfl) rfl
set_option maxRecDepth 20000 in
theorem kw_6_149 : Cond.code ⟨"ClassOfManyModel", "once", "(I)V"⟩ prog_12_method_20_code 2 none ∈ zTw := zt6 149 (by rfl) rfl
set_option maxRecDepth 20000 in
theorem kw_6_150 : Cond.methodLink "ClassOfManyModel" 118 ⟨"ClassOfManyModel", "has", "(II)Z"⟩ ∈ zTw := zt6 150 (by rfl) rfl
set_option maxRecDepth 20000 in
theorem kw_6_151 : Cond.static ⟨"ClassOfManyModel", "has", "(II)Z"⟩ ∈ zTw := zt6 151 (by rfl) rfl
set_option maxRecDepth 20000 in
theorem kw_6_152 : Cond.code ⟨"ClassOfManyModel", "has", "(II)Z"⟩ prog_12_method_5_code 2 (some .boolean) ∈ zTw := zt6 152 (by rfl) rfl
set_option maxRecDepth 20000 in
theorem kw_6_153 : Cond.methodLink "ClassOfManyModel" 122 ⟨"ClassOfManyModel", "begins", "(I)V"⟩ ∈ zTw := zt6 153 (by rfl) rfl
set_option maxRecDepth 20000 in
theorem kw_6_155 : Cond.instanceMethod ⟨"ClassOfManyModel", "begins", "(I)V"⟩ ∈ zTw := zt6 155 (by rfl) rfl
set_option maxRecDepth 20000 in
theorem kw_6_156 : Cond.code ⟨"ClassOfManyModel", "begins", "(I)V"⟩ prog_12_method_18_code 2 none ∈ zTw := zt6 156 (by rfl) rfl
set_option maxRecDepth 20000 in
theorem kw_6_157 : Cond.methodLink "ClassOfManyModel" 125 ⟨"ClassOfManyModel", "number", "(II)I"⟩ ∈ zTw := zt6 157 (by rfl) rfl
set_option maxRecDepth 20000 in
theorem kw_6_159 : Cond.instanceMethod ⟨"ClassOfManyModel", "number", "(II)I"⟩ ∈ zTw := zt6 159 (by rfl) rfl
set_option maxRecDepth 20000 in
theorem kw_6_160 : Cond.code ⟨"ClassOfManyModel", "number", "(II)I"⟩ prog_12_method_16_code 4 (some .int) ∈ zTw := zt6 160 (by rfl) rfl
set_option maxRecDepth 20000 in
theorem kw_6_161 : Cond.methodLink "ClassOfManyModel" 106 ⟨"ClassOfManyModel", "keepsNumber", "(I)V"⟩ ∈ zTw := zt6 161 (by rfl) rfl
set_option maxRecDepth 20000 in
theorem kw_6_163 : Cond.instanceMethod ⟨"ClassOfManyModel", "keepsNumber", "(I)V"⟩ ∈ zTw := zt6 163 (by rfl) rfl
set_option maxRecDepth 20000 in
theorem kw_6_164 : Cond.code ⟨"ClassOfManyModel", "keepsNumber", "(I)V"⟩ prog_12_method_17_code 3 none ∈ zTw := zt6 164 (by rfl) rfl
set_option maxRecDepth 20000 in
theorem kw_6_165 : Cond.methodLink "ClassOfManyModel" 135 ⟨"ClassOfManyModel", "closes", "()V"⟩ ∈ zTw := zt6 165 (by rfl) rfl
set_option maxRecDepth 20000 in
theorem kw_6_167 : Cond.instanceMethod ⟨"ClassOfManyModel", "closes", "()V"⟩ ∈ zTw := zt6 167 (by rfl) rfl
set_option maxRecDepth 20000 in
theorem kw_6_168 : Cond.code ⟨"ClassOfManyModel", "closes", "()V"⟩ prog_12_method_19_code 1 none ∈ zTw := zt6 168 (by rfl) rfl
set_option maxRecDepth 20000 in
theorem kw_6_169 : Cond.constantLong "ClassOfManyModel" 152 (4514 : Int64) ∈ zTw := zt6 169 (by rfl) rfl
set_option maxRecDepth 20000 in
theorem kw_6_170 : Cond.constantLong "ClassOfManyModel" 154 (6476969 : Int64) ∈ zTw := zt6 170 (by rfl) rfl
set_option maxRecDepth 20000 in
theorem kw_6_171 : Cond.constantLong "ClassOfManyModel" 156 (400557 : Int64) ∈ zTw := zt6 171 (by rfl) rfl
set_option maxRecDepth 20000 in
theorem kw_6_172 : Cond.constantLong "ClassOfManyModel" 158 (232600981 : Int64) ∈ zTw := zt6 172 (by rfl) rfl
set_option maxRecDepth 20000 in
theorem kw_6_173 : Cond.methodLink "ClassOfManyModel" 160 ⟨"ClassOfManyModel", "readPeriod", "()V"⟩ ∈ zTw := zt6 173 (by rfl) rfl
set_option maxRecDepth 20000 in
theorem kw_6_175 : Cond.instanceMethod ⟨"ClassOfManyModel", "readPeriod", "()V"⟩ ∈ zTw := zt6 175 (by rfl) rfl
set_option maxRecDepth 20000 in
theorem kw_6_176 : Cond.code ⟨"ClassOfManyModel", "readPeriod", "()V"⟩ prog_12_method_26_code 3 none ∈ zTw := zt6 176 (by rfl) rfl
set_option maxRecDepth 20000 in
theorem kw_6_177 : Cond.constantLong "ClassOfManyModel" 163 (1277870079 : Int64) ∈ zTw := zt6 177 (by rfl) rfl
set_option maxRecDepth 20000 in
theorem kw_6_178 : Cond.methodLink "ClassOfManyModel" 165 ⟨"ClassOfManyModel", "readChannel", "()V"⟩ ∈ zTw := zt6 178 (by rfl) rfl
set_option maxRecDepth 20000 in
theorem kw_6_180 : Cond.instanceMethod ⟨"ClassOfManyModel", "readChannel", "()V"⟩ ∈ zTw := zt6 180 (by rfl) rfl
set_option maxRecDepth 20000 in
theorem kw_6_181 : Cond.code ⟨"ClassOfManyModel", "readChannel", "()V"⟩ prog_12_method_22_code 3 none ∈ zTw := zt6 181 (by rfl) rfl
set_option maxRecDepth 20000 in
theorem kw_6_182 : Cond.constantLong "ClassOfManyModel" 168 (189450486 : Int64) ∈ zTw := zt6 182 (by rfl) rfl
set_option maxRecDepth 20000 in
theorem kw_6_183 : Cond.methodLink "ClassOfManyModel" 170 ⟨"ClassOfManyModel", "readMember", "()V"⟩ ∈ zTw := zt6 183 (by rfl) rfl
set_option maxRecDepth 20000 in
theorem kw_6_185 : Cond.instanceMethod ⟨"ClassOfManyModel", "readMember", "()V"⟩ ∈ zTw := zt6 185 (by rfl) rfl
set_option maxRecDepth 20000 in
theorem kw_6_186 : Cond.code ⟨"ClassOfManyModel", "readMember", "()V"⟩ prog_12_method_21_code 6 none ∈ zTw := zt6 186 (by rfl) rfl
set_option maxRecDepth 20000 in
theorem kw_6_187 : Cond.constantLong "ClassOfManyModel" 129 (79 : Int64) ∈ zTw := zt6 187 (by rfl) rfl
set_option maxRecDepth 20000 in
theorem kw_6_188 : Cond.constantLong "ClassOfManyModel" 173 (37396683146 : Int64) ∈ zTw := zt6 188 (by rfl) rfl
set_option maxRecDepth 20000 in
theorem kw_6_189 : Cond.methodLink "ClassOfManyModel" 175 ⟨"ClassOfManyModel", "readConflict", "()V"⟩ ∈ zTw := zt6 189 (by rfl) rfl
set_option maxRecDepth 20000 in
theorem kw_6_191 : Cond.instanceMethod ⟨"ClassOfManyModel", "readConflict", "()V"⟩ ∈ zTw := zt6 191 (by rfl) rfl
set_option maxRecDepth 20000 in
theorem kw_6_192 : Cond.code ⟨"ClassOfManyModel", "readConflict", "()V"⟩ prog_12_method_23_code 3 none ∈ zTw := zt6 192 (by rfl) rfl
set_option maxRecDepth 20000 in
theorem kw_6_193 : Cond.methodLink "ClassOfManyModel" 138 ⟨"ClassOfManyModel", "quarrels", "(II)V"⟩ ∈ zTw := zt6 193 (by rfl) rfl
set_option maxRecDepth 20000 in
theorem kw_6_195 : Cond.instanceMethod ⟨"ClassOfManyModel", "quarrels", "(II)V"⟩ ∈ zTw := zt6 195 (by rfl) rfl
set_option maxRecDepth 20000 in
theorem kw_6_196 : Cond.code ⟨"ClassOfManyModel", "quarrels", "(II)V"⟩ prog_12_method_24_code 3 none ∈ zTw := zt6 196 (by rfl) rfl
set_option maxRecDepth 20000 in
theorem kw_6_197 : Cond.methodLink "ClassOfManyModel" 181 ⟨"ClassOfManyModel", "firstOrder", "()I"⟩ ∈ zTw := zt6 197 (by rfl) rfl
set_option maxRecDepth 20000 in
theorem kw_6_199 : Cond.instanceMethod ⟨"ClassOfManyModel", "firstOrder", "()I"⟩ ∈ zTw := zt6 199 (by rfl) rfl
set_option maxRecDepth 20000 in
theorem kw_6_200 : Cond.code ⟨"ClassOfManyModel", "firstOrder", "()I"⟩ prog_12_method_29_code 3 (some .int) ∈ zTw := zt6 200 (by rfl) rfl
set_option maxRecDepth 20000 in
theorem kw_6_202 : Cond.instanceMethod ⟨"ClassOfManyModel", "days", "(I)I"⟩ ∈ zTw := zt6 202 (by rfl) rfl
set_option maxRecDepth 20000 in
theorem kw_6_203 : Cond.selects "ClassOfManyModel" ⟨"ClassOfManyModel", "days", "(I)I"⟩ ⟨"ClassOfManyModel", "days", "(I)I"⟩ ∈ zTw := zt6 203 (by rfl) rfl
set_option maxRecDepth 20000 in
theorem kw_6_204 : Cond.code ⟨"ClassOfManyModel", "days", "(I)I"⟩ prog_12_method_58_code 3 (some .int) ∈ zTw := zt6 204 (by rfl) rfl
set_option maxRecDepth 20000 in
theorem kw_6_205 : Cond.methodLink "ClassOfManyModel" 290 ⟨"ClassOfManyModel", "put", "(II)I"⟩ ∈ zTw := zt6 205 (by rfl) rfl
set_option maxRecDepth 20000 in
theorem kw_6_207 : Cond.instanceMethod ⟨"ClassOfManyModel", "put", "(II)I"⟩ ∈ zTw := zt6 207 (by rfl) rfl
set_option maxRecDepth 20000 in
theorem kw_6_208 : Cond.code ⟨"ClassOfManyModel", "put", "(II)I"⟩ prog_12_method_57_code 4 (some .int) ∈ zTw := zt6 208 (by rfl) rfl
set_option maxRecDepth 20000 in
theorem kw_6_209 : Cond.methodLink "ClassOfManyModel" 287 ⟨"ClassOfManyModel", "remembers", "()V"⟩ ∈ zTw := zt6 209 (by rfl) rfl
set_option maxRecDepth 20000 in
theorem kw_6_211 : Cond.instanceMethod ⟨"ClassOfManyModel", "remembers", "()V"⟩ ∈ zTw := zt6 211 (by rfl) rfl
set_option maxRecDepth 20000 in
theorem kw_6_212 : Cond.code ⟨"ClassOfManyModel", "remembers", "()V"⟩ prog_12_method_56_code 2 none ∈ zTw := zt6 212 (by rfl) rfl
set_option maxRecDepth 20000 in
theorem kw_6_214 : Cond.instanceMethod ⟨"ClassOfManyModel", "order", "(I)I"⟩ ∈ zTw := zt6 214 (by rfl) rfl
set_option maxRecDepth 20000 in
theorem kw_6_215 : Cond.selects "ClassOfManyModel" ⟨"ClassOfManyModel", "order", "(I)I"⟩ ⟨"ClassOfManyModel", "order", "(I)I"⟩ ∈ zTw := zt6 215 (by rfl) rfl
set_option maxRecDepth 20000 in
theorem kw_6_216 : Cond.code ⟨"ClassOfManyModel", "order", "(I)I"⟩ prog_12_method_59_code 2 (some .int) ∈ zTw := zt6 216 (by rfl) rfl
set_option maxRecDepth 20000 in
theorem kw_6_217 : Cond.methodLink "ClassOfManyModel" 293 ⟨"ClassOfManyModel", "isOrder", "(I)Z"⟩ ∈ zTw := zt6 217 (by rfl) rfl
set_option maxRecDepth 20000 in
theorem kw_6_219 : Cond.instanceMethod ⟨"ClassOfManyModel", "isOrder", "(I)Z"⟩ ∈ zTw := zt6 219 (by rfl) rfl
set_option maxRecDepth 20000 in
theorem kw_6_220 : Cond.code ⟨"ClassOfManyModel", "isOrder", "(I)Z"⟩ prog_12_method_32_code 4 (some .boolean) ∈ zTw := zt6 220 (by rfl) rfl
set_option maxRecDepth 20000 in
theorem kw_6_221 : Cond.methodLink "ClassOfManyModel" 191 ⟨"ClassOfManyModel", "orders", "()I"⟩ ∈ zTw := zt6 221 (by rfl) rfl
set_option maxRecDepth 20000 in
theorem kw_6_223 : Cond.instanceMethod ⟨"ClassOfManyModel", "orders", "()I"⟩ ∈ zTw := zt6 223 (by rfl) rfl
set_option maxRecDepth 20000 in
theorem kw_6_224 : Cond.code ⟨"ClassOfManyModel", "orders", "()I"⟩ prog_12_method_30_code 1 (some .int) ∈ zTw := zt6 224 (by rfl) rfl
set_option maxRecDepth 20000 in
theorem kw_6_225 : Cond.methodLink "ClassOfManyModel" 194 ⟨"ClassOfManyModel", "channelAt", "(II)I"⟩ ∈ zTw := zt6 225 (by rfl) rfl
set_option maxRecDepth 20000 in
theorem kw_6_227 : Cond.instanceMethod ⟨"ClassOfManyModel", "channelAt", "(II)I"⟩ ∈ zTw := zt6 227 (by rfl) rfl
set_option maxRecDepth 20000 in
theorem kw_6_228 : Cond.code ⟨"ClassOfManyModel", "channelAt", "(II)I"⟩ prog_12_method_31_code 3 (some .int) ∈ zTw := zt6 228 (by rfl) rfl
set_option maxRecDepth 20000 in
theorem kw_6_230 : Cond.instanceMethod ⟨"ClassOfManyModel", "send", "()I"⟩ ∈ zTw := zt6 230 (by rfl) rfl
set_option maxRecDepth 20000 in
theorem kw_6_231 : Cond.selects "ClassOfManyModel" ⟨"ClassOfManyModel", "send", "()I"⟩ ⟨"ClassOfManyModel", "send", "()I"⟩ ∈ zTw := zt6 231 (by rfl) rfl
set_option maxRecDepth 20000 in
theorem kw_6_232 : Cond.code ⟨"ClassOfManyModel", "send", "()I"⟩ prog_12_method_60_code 2 (some .int) ∈ zTw := zt6 232 (by rfl) rfl
set_option maxRecDepth 20000 in
theorem kw_6_233 : Cond.methodLink "ClassOfManyModel" 250 ⟨"ClassOfManyModel", "costs", "()I"⟩ ∈ zTw := zt6 233 (by rfl) rfl
set_option maxRecDepth 20000 in
theorem kw_6_235 : Cond.instanceMethod ⟨"ClassOfManyModel", "costs", "()I"⟩ ∈ zTw := zt6 235 (by rfl) rfl
set_option maxRecDepth 20000 in
theorem kw_6_236 : Cond.code ⟨"ClassOfManyModel", "costs", "()I"⟩ prog_12_method_35_code 1 (some .int) ∈ zTw := zt6 236 (by rfl) rfl
set_option maxRecDepth 20000 in
theorem kw_6_237 : Cond.methodLink "ClassOfManyModel" 197 ⟨"ClassOfManyModel", "costsFor", "(I)I"⟩ ∈ zTw := zt6 237 (by rfl) rfl
set_option maxRecDepth 20000 in
theorem kw_6_239 : Cond.instanceMethod ⟨"ClassOfManyModel", "costsFor", "(I)I"⟩ ∈ zTw := zt6 239 (by rfl) rfl
set_option maxRecDepth 20000 in
theorem kw_7_0 : Cond.code ⟨"ClassOfManyModel", "costsFor", "(I)I"⟩ prog_12_method_34_code 7 (some .int) ∈ zTw := zt7 0 (by rfl) rfl
set_option maxRecDepth 20000 in
theorem kw_7_2 : Cond.instanceMethod ⟨"ClassOfManyModel", "out", "(I)I"⟩ ∈ zTw := zt7 2 (by rfl) rfl
set_option maxRecDepth 20000 in
theorem kw_7_3 : Cond.selects "ClassOfManyModel" ⟨"ClassOfManyModel", "out", "(I)I"⟩ ⟨"ClassOfManyModel", "out", "(I)I"⟩ ∈ zTw := zt7 3 (by rfl) rfl
set_option maxRecDepth 20000 in
theorem kw_7_4 : Cond.code ⟨"ClassOfManyModel", "out", "(I)I"⟩ prog_12_method_61_code 3 (some .int) ∈ zTw := zt7 4 (by rfl) rfl
set_option maxRecDepth 20000 in
theorem kw_7_5 : Cond.methodLink "ClassOfManyModel" 296 ⟨"ClassOfManyModel", "isMember", "(I)Z"⟩ ∈ zTw := zt7 5 (by rfl) rfl
set_option maxRecDepth 20000 in
theorem kw_7_7 : Cond.instanceMethod ⟨"ClassOfManyModel", "isMember", "(I)Z"⟩ ∈ zTw := zt7 7 (by rfl) rfl
set_option maxRecDepth 20000 in
theorem kw_7_8 : Cond.code ⟨"ClassOfManyModel", "isMember", "(I)Z"⟩ prog_12_method_7_code 2 (some .boolean) ∈ zTw := zt7 8 (by rfl) rfl
set_option maxRecDepth 20000 in
theorem kw_7_9 : Cond.methodLink "ClassOfManyModel" 299 ⟨"ClassOfManyModel", "isReached", "(I)Z"⟩ ∈ zTw := zt7 9 (by rfl) rfl
set_option maxRecDepth 20000 in
theorem kw_7_11 : Cond.instanceMethod ⟨"ClassOfManyModel", "isReached", "(I)Z"⟩ ∈ zTw := zt7 11 (by rfl) rfl
set_option maxRecDepth 20000 in
theorem kw_7_12 : Cond.code ⟨"ClassOfManyModel", "isReached", "(I)Z"⟩ prog_12_method_37_code 2 (some .boolean) ∈ zTw := zt7 12 (by rfl) rfl
set_option maxRecDepth 20000 in
theorem kw_7_13 : Cond.methodLink "ClassOfManyModel" 204 ⟨"ClassOfManyModel", "reachedOn", "(I)I"⟩ ∈ zTw := zt7 13 (by rfl) rfl
set_option maxRecDepth 20000 in
theorem kw_7_15 : Cond.instanceMethod ⟨"ClassOfManyModel", "reachedOn", "(I)I"⟩ ∈ zTw := zt7 15 (by rfl) rfl
set_option maxRecDepth 20000 in
theorem kw_7_16 : Cond.code ⟨"ClassOfManyModel", "reachedOn", "(I)I"⟩ prog_12_method_36_code 3 (some .int) ∈ zTw := zt7 16 (by rfl) rfl
set_option maxRecDepth 20000 in
theorem kw_7_17 : Cond.methodLink "ClassOfManyModel" 201 ⟨"ClassOfManyModel", "waitFor", "(II)I"⟩ ∈ zTw := zt7 17 (by rfl) rfl
set_option maxRecDepth 20000 in
theorem kw_7_19 : Cond.instanceMethod ⟨"ClassOfManyModel", "waitFor", "(II)I"⟩ ∈ zTw := zt7 19 (by rfl) rfl
set_option maxRecDepth 20000 in
theorem kw_7_20 : Cond.code ⟨"ClassOfManyModel", "waitFor", "(II)I"⟩ prog_12_method_33_code 6 (some .int) ∈ zTw := zt7 20 (by rfl) rfl
set_option maxRecDepth 20000 in
theorem kw_7_21 : Cond.methodLink "ClassOfManyModel" 262 ⟨"ClassOfManyModel", "bits", "(I)I"⟩ ∈ zTw := zt7 21 (by rfl) rfl
set_option maxRecDepth 20000 in
theorem kw_7_22 : Cond.static ⟨"ClassOfManyModel", "bits", "(I)I"⟩ ∈ zTw := zt7 22 (by rfl) rfl
set_option maxRecDepth 20000 in
theorem kw_7_23 : Cond.code ⟨"ClassOfManyModel", "bits", "(I)I"⟩ prog_12_method_6_code 3 (some .int) ∈ zTw := zt7 23 (by rfl) rfl
set_option maxRecDepth 20000 in
theorem kw_7_25 : Cond.instanceMethod ⟨"ClassOfManyModel", "file", "(I)I"⟩ ∈ zTw := zt7 25 (by rfl) rfl
set_option maxRecDepth 20000 in
theorem kw_7_26 : Cond.selects "ClassOfManyModel" ⟨"ClassOfManyModel", "file", "(I)I"⟩ ⟨"ClassOfManyModel", "file", "(I)I"⟩ ∈ zTw := zt7 26 (by rfl) rfl
set_option maxRecDepth 20000 in
theorem kw_7_27 : Cond.code ⟨"ClassOfManyModel", "file", "(I)I"⟩ prog_12_method_62_code 3 (some .int) ∈ zTw := zt7 27 (by rfl) rfl
set_option maxRecDepth 20000 in
theorem kw_7_29 : Cond.instanceMethod ⟨"ClassOfManyModel", "lazy", "(IZ)Z"⟩ ∈ zTw := zt7 29 (by rfl) rfl
set_option maxRecDepth 20000 in
theorem kw_7_30 : Cond.selects "ClassOfManyModel" ⟨"ClassOfManyModel", "lazy", "(IZ)Z"⟩ ⟨"ClassOfManyModel", "lazy", "(IZ)Z"⟩ ∈ zTw := zt7 30 (by rfl) rfl
set_option maxRecDepth 20000 in
theorem kw_7_31 : Cond.code ⟨"ClassOfManyModel", "lazy", "(IZ)Z"⟩ prog_12_method_63_code 4 (some .boolean) ∈ zTw := zt7 31 (by rfl) rfl
set_option maxRecDepth 20000 in
theorem kw_7_33 : Cond.instanceMethod ⟨"ClassOfManyModel", "fund", "(I)I"⟩ ∈ zTw := zt7 33 (by rfl) rfl
set_option maxRecDepth 20000 in
theorem kw_7_34 : Cond.selects "ClassOfManyModel" ⟨"ClassOfManyModel", "fund", "(I)I"⟩ ⟨"ClassOfManyModel", "fund", "(I)I"⟩ ∈ zTw := zt7 34 (by rfl) rfl
set_option maxRecDepth 20000 in
theorem kw_7_35 : Cond.code ⟨"ClassOfManyModel", "fund", "(I)I"⟩ prog_12_method_64_code 2 (some .int) ∈ zTw := zt7 35 (by rfl) rfl
set_option maxRecDepth 20000 in
theorem kw_7_37 : Cond.instanceMethod ⟨"ClassOfManyModel", "rule", "(I)I"⟩ ∈ zTw := zt7 37 (by rfl) rfl
set_option maxRecDepth 20000 in
theorem kw_7_38 : Cond.selects "ClassOfManyModel" ⟨"ClassOfManyModel", "rule", "(I)I"⟩ ⟨"ClassOfManyModel", "rule", "(I)I"⟩ ∈ zTw := zt7 38 (by rfl) rfl
set_option maxRecDepth 20000 in
theorem kw_7_39 : Cond.code ⟨"ClassOfManyModel", "rule", "(I)I"⟩ prog_12_method_65_code 2 (some .int) ∈ zTw := zt7 39 (by rfl) rfl
set_option maxRecDepth 20000 in
theorem kw_7_41 : Cond.instanceMethod ⟨"ClassOfManyModel", "period", "(II)I"⟩ ∈ zTw := zt7 41 (by rfl) rfl
set_option maxRecDepth 20000 in
theorem kw_7_42 : Cond.selects "ClassOfManyModel" ⟨"ClassOfManyModel", "period", "(II)I"⟩ ⟨"ClassOfManyModel", "period", "(II)I"⟩ ∈ zTw := zt7 42 (by rfl) rfl
set_option maxRecDepth 20000 in
theorem kw_7_43 : Cond.code ⟨"ClassOfManyModel", "period", "(II)I"⟩ prog_12_method_66_code 4 (some .int) ∈ zTw := zt7 43 (by rfl) rfl
set_option maxRecDepth 20000 in
theorem kw_7_44 : Cond.methodLink "ClassOfManyModel" 223 ⟨"ClassOfManyModel", "all", "()I"⟩ ∈ zTw := zt7 44 (by rfl) rfl
set_option maxRecDepth 20000 in
theorem kw_7_46 : Cond.instanceMethod ⟨"ClassOfManyModel", "all", "()I"⟩ ∈ zTw := zt7 46 (by rfl) rfl
set_option maxRecDepth 20000 in
theorem kw_7_47 : Cond.code ⟨"ClassOfManyModel", "all", "()I"⟩ prog_12_method_8_code 1 (some .int) ∈ zTw := zt7 47 (by rfl) rfl
set_option maxRecDepth 20000 in
theorem kw_7_48 : Cond.methodLink "ClassOfManyModel" 259 ⟨"ClassOfManyModel", "claims", "(I)I"⟩ ∈ zTw := zt7 48 (by rfl) rfl
set_option maxRecDepth 20000 in
theorem kw_7_50 : Cond.instanceMethod ⟨"ClassOfManyModel", "claims", "(I)I"⟩ ∈ zTw := zt7 50 (by rfl) rfl
set_option maxRecDepth 20000 in
theorem kw_7_51 : Cond.code ⟨"ClassOfManyModel", "claims", "(I)I"⟩ prog_12_method_40_code 4 (some .int) ∈ zTw := zt7 51 (by rfl) rfl
set_option maxRecDepth 20000 in
theorem kw_7_52 : Cond.methodLink "ClassOfManyModel" 211 ⟨"ClassOfManyModel", "claim", "(I)I"⟩ ∈ zTw := zt7 52 (by rfl) rfl
set_option maxRecDepth 20000 in
theorem kw_7_54 : Cond.instanceMethod ⟨"ClassOfManyModel", "claim", "(I)I"⟩ ∈ zTw := zt7 54 (by rfl) rfl
set_option maxRecDepth 20000 in
theorem kw_7_55 : Cond.code ⟨"ClassOfManyModel", "claim", "(I)I"⟩ prog_12_method_39_code 2 (some .int) ∈ zTw := zt7 55 (by rfl) rfl
set_option maxRecDepth 20000 in
theorem kw_7_56 : Cond.methodLink "ClassOfManyModel" 207 ⟨"ClassOfManyModel", "daysOf", "(IIII)I"⟩ ∈ zTw := zt7 56 (by rfl) rfl
set_option maxRecDepth 20000 in
theorem kw_7_57 : Cond.static ⟨"ClassOfManyModel", "daysOf", "(IIII)I"⟩ ∈ zTw := zt7 57 (by rfl) rfl
set_option maxRecDepth 20000 in
theorem kw_7_58 : Cond.code ⟨"ClassOfManyModel", "daysOf", "(IIII)I"⟩ prog_12_method_38_code 6 (some .int) ∈ zTw := zt7 58 (by rfl) rfl
set_option maxRecDepth 20000 in
theorem kw_7_60 : Cond.instanceMethod ⟨"ClassOfManyModel", "quarrel", "(II)I"⟩ ∈ zTw := zt7 60 (by rfl) rfl
set_option maxRecDepth 20000 in
theorem kw_7_61 : Cond.selects "ClassOfManyModel" ⟨"ClassOfManyModel", "quarrel", "(II)I"⟩ ⟨"ClassOfManyModel", "quarrel", "(II)I"⟩ ∈ zTw := zt7 61 (by rfl) rfl
set_option maxRecDepth 20000 in
theorem kw_7_62 : Cond.code ⟨"ClassOfManyModel", "quarrel", "(II)I"⟩ prog_12_method_68_code 3 (some .int) ∈ zTw := zt7 62 (by rfl) rfl
set_option maxRecDepth 20000 in
theorem kw_7_63 : Cond.methodLink "ClassOfManyModel" 302 ⟨"ClassOfManyModel", "areTwo", "(II)Z"⟩ ∈ zTw := zt7 63 (by rfl) rfl
set_option maxRecDepth 20000 in
theorem kw_7_65 : Cond.instanceMethod ⟨"ClassOfManyModel", "areTwo", "(II)Z"⟩ ∈ zTw := zt7 65 (by rfl) rfl
set_option maxRecDepth 20000 in
theorem kw_7_66 : Cond.code ⟨"ClassOfManyModel", "areTwo", "(II)Z"⟩ prog_12_method_67_code 3 (some .boolean) ∈ zTw := zt7 66 (by rfl) rfl
set_option maxRecDepth 20000 in
theorem kw_7_68 : Cond.instanceMethod ⟨"ClassOfManyModel", "undo", "()I"⟩ ∈ zTw := zt7 68 (by rfl) rfl
set_option maxRecDepth 20000 in
theorem kw_7_69 : Cond.selects "ClassOfManyModel" ⟨"ClassOfManyModel", "undo", "()I"⟩ ⟨"ClassOfManyModel", "undo", "()I"⟩ ∈ zTw := zt7 69 (by rfl) rfl
set_option maxRecDepth 20000 in
theorem kw_7_70 : Cond.code ⟨"ClassOfManyModel", "undo", "()I"⟩ prog_12_method_69_code 2 (some .int) ∈ zTw := zt7 70 (by rfl) rfl
set_option maxRecDepth 20000 in
theorem kw_7_72 : Cond.instanceMethod ⟨"ClassOfManyModel", "member", "(II)I"⟩ ∈ zTw := zt7 72 (by rfl) rfl
set_option maxRecDepth 20000 in
theorem kw_7_73 : Cond.selects "ClassOfManyModel" ⟨"ClassOfManyModel", "member", "(II)I"⟩ ⟨"ClassOfManyModel", "member", "(II)I"⟩ ∈ zTw := zt7 73 (by rfl) rfl
set_option maxRecDepth 20000 in
theorem kw_7_74 : Cond.code ⟨"ClassOfManyModel", "member", "(II)I"⟩ prog_12_method_70_code 3 (some .int) ∈ zTw := zt7 74 (by rfl) rfl
set_option maxRecDepth 20000 in
theorem kw_7_76 : Cond.instanceMethod ⟨"ClassOfManyModel", "channel", "(II)I"⟩ ∈ zTw := zt7 76 (by rfl) rfl
set_option maxRecDepth 20000 in
theorem kw_7_77 : Cond.selects "ClassOfManyModel" ⟨"ClassOfManyModel", "channel", "(II)I"⟩ ⟨"ClassOfManyModel", "channel", "(II)I"⟩ ∈ zTw := zt7 77 (by rfl) rfl
set_option maxRecDepth 20000 in
theorem kw_7_78 : Cond.code ⟨"ClassOfManyModel", "channel", "(II)I"⟩ prog_12_method_71_code 5 (some .int) ∈ zTw := zt7 78 (by rfl) rfl
set_option maxRecDepth 20000 in
theorem kw_7_80 : Cond.instanceMethod ⟨"ClassOfManyModel", "line", "(II)I"⟩ ∈ zTw := zt7 80 (by rfl) rfl
set_option maxRecDepth 20000 in
theorem kw_7_81 : Cond.selects "ClassOfManyModel" ⟨"ClassOfManyModel", "line", "(II)I"⟩ ⟨"ClassOfManyModel", "line", "(II)I"⟩ ∈ zTw := zt7 81 (by rfl) rfl
set_option maxRecDepth 20000 in
theorem kw_7_82 : Cond.code ⟨"ClassOfManyModel", "line", "(II)I"⟩ prog_12_method_72_code 3 (some .int) ∈ zTw := zt7 82 (by rfl) rfl
set_option maxRecDepth 20000 in
theorem kw_7_84 : Cond.instanceMethod ⟨"ClassOfManyModel", "ranked", "(I)I"⟩ ∈ zTw := zt7 84 (by rfl) rfl
set_option maxRecDepth 20000 in
theorem kw_7_85 : Cond.selects "ClassOfManyModel" ⟨"ClassOfManyModel", "ranked", "(I)I"⟩ ⟨"ClassOfManyModel", "ranked", "(I)I"⟩ ∈ zTw := zt7 85 (by rfl) rfl
set_option maxRecDepth 20000 in
theorem kw_7_86 : Cond.code ⟨"ClassOfManyModel", "ranked", "(I)I"⟩ prog_12_method_73_code 5 (some .int) ∈ zTw := zt7 86 (by rfl) rfl
set_option maxRecDepth 20000 in
theorem kw_7_88 : Cond.instanceMethod ⟨"ClassOfManyModel", "together", "(II)I"⟩ ∈ zTw := zt7 88 (by rfl) rfl
set_option maxRecDepth 20000 in
theorem kw_7_89 : Cond.selects "ClassOfManyModel" ⟨"ClassOfManyModel", "together", "(II)I"⟩ ⟨"ClassOfManyModel", "together", "(II)I"⟩ ∈ zTw := zt7 89 (by rfl) rfl
set_option maxRecDepth 20000 in
theorem kw_7_90 : Cond.code ⟨"ClassOfManyModel", "together", "(II)I"⟩ prog_12_method_75_code 5 (some .int) ∈ zTw := zt7 90 (by rfl) rfl
set_option maxRecDepth 20000 in
theorem kw_7_91 : Cond.methodLink "ClassOfManyModel" 305 ⟨"ClassOfManyModel", "isOn", "(II)Z"⟩ ∈ zTw := zt7 91 (by rfl) rfl
set_option maxRecDepth 20000 in
theorem kw_7_93 : Cond.instanceMethod ⟨"ClassOfManyModel", "isOn", "(II)Z"⟩ ∈ zTw := zt7 93 (by rfl) rfl
set_option maxRecDepth 20000 in
theorem kw_7_94 : Cond.code ⟨"ClassOfManyModel", "isOn", "(II)Z"⟩ prog_12_method_74_code 3 (some .boolean) ∈ zTw := zt7 94 (by rfl) rfl
set_option maxRecDepth 20000 in
theorem kw_7_96 : Cond.instanceMethod ⟨"ClassOfManyModel", "busiest", "(I)I"⟩ ∈ zTw := zt7 96 (by rfl) rfl
set_option maxRecDepth 20000 in
theorem kw_7_97 : Cond.selects "ClassOfManyModel" ⟨"ClassOfManyModel", "busiest", "(I)I"⟩ ⟨"ClassOfManyModel", "busiest", "(I)I"⟩ ∈ zTw := zt7 97 (by rfl) rfl
set_option maxRecDepth 20000 in
theorem kw_7_98 : Cond.code ⟨"ClassOfManyModel", "busiest", "(I)I"⟩ prog_12_method_76_code 7 (some .int) ∈ zTw := zt7 98 (by rfl) rfl
set_option maxRecDepth 20000 in
theorem kw_7_100 : Cond.instanceMethod ⟨"ClassOfManyModel", "classes", "()I"⟩ ∈ zTw := zt7 100 (by rfl) rfl
set_option maxRecDepth 20000 in
theorem kw_7_101 : Cond.selects "ClassOfManyModel" ⟨"ClassOfManyModel", "classes", "()I"⟩ ⟨"ClassOfManyModel", "classes", "()I"⟩ ∈ zTw := zt7 101 (by rfl) rfl
set_option maxRecDepth 20000 in
theorem kw_7_102 : Cond.code ⟨"ClassOfManyModel", "classes", "()I"⟩ prog_12_method_77_code 1 (some .int) ∈ zTw := zt7 102 (by rfl) rfl
set_option maxRecDepth 20000 in
theorem kw_7_103 : Cond.methodLink "ClassOfManyModel" 226 ⟨"ClassOfManyModel", "inNow", "()I"⟩ ∈ zTw := zt7 103 (by rfl) rfl
set_option maxRecDepth 20000 in
theorem kw_7_105 : Cond.instanceMethod ⟨"ClassOfManyModel", "inNow", "()I"⟩ ∈ zTw := zt7 105 (by rfl) rfl
set_option maxRecDepth 20000 in
theorem kw_7_106 : Cond.code ⟨"ClassOfManyModel", "inNow", "()I"⟩ prog_12_method_44_code 1 (some .int) ∈ zTw := zt7 106 (by rfl) rfl
set_option maxRecDepth 20000 in
theorem kw_7_107 : Cond.methodLink "ClassOfManyModel" 247 ⟨"ClassOfManyModel", "divides", "(I)V"⟩ ∈ zTw := zt7 107 (by rfl) rfl
set_option maxRecDepth 20000 in
theorem kw_7_109 : Cond.instanceMethod ⟨"ClassOfManyModel", "divides", "(I)V"⟩ ∈ zTw := zt7 109 (by rfl) rfl
set_option maxRecDepth 20000 in
theorem kw_7_110 : Cond.code ⟨"ClassOfManyModel", "divides", "(I)V"⟩ prog_12_method_43_code 2 none ∈ zTw := zt7 110 (by rfl) rfl
set_option maxRecDepth 20000 in
theorem kw_7_111 : Cond.methodLink "ClassOfManyModel" 220 ⟨"ClassOfManyModel", "fits", "(II)Z"⟩ ∈ zTw := zt7 111 (by rfl) rfl
set_option maxRecDepth 20000 in
theorem kw_7_113 : Cond.instanceMethod ⟨"ClassOfManyModel", "fits", "(II)Z"⟩ ∈ zTw := zt7 113 (by rfl) rfl
set_option maxRecDepth 20000 in
theorem kw_7_114 : Cond.code ⟨"ClassOfManyModel", "fits", "(II)Z"⟩ prog_12_method_42_code 4 (some .boolean) ∈ zTw := zt7 114 (by rfl) rfl
set_option maxRecDepth 20000 in
theorem kw_7_115 : Cond.methodLink "ClassOfManyModel" 214 ⟨"ClassOfManyModel", "isFree", "(II)Z"⟩ ∈ zTw := zt7 115 (by rfl) rfl
set_option maxRecDepth 20000 in
theorem kw_7_117 : Cond.instanceMethod ⟨"ClassOfManyModel", "isFree", "(II)Z"⟩ ∈ zTw := zt7 117 (by rfl) rfl
set_option maxRecDepth 20000 in
theorem kw_7_118 : Cond.code ⟨"ClassOfManyModel", "isFree", "(II)Z"⟩ prog_12_method_41_code 4 (some .boolean) ∈ zTw := zt7 118 (by rfl) rfl
set_option maxRecDepth 20000 in
theorem kw_7_120 : Cond.instanceMethod ⟨"ClassOfManyModel", "classOf", "(I)I"⟩ ∈ zTw := zt7 120 (by rfl) rfl
set_option maxRecDepth 20000 in
theorem kw_7_121 : Cond.selects "ClassOfManyModel" ⟨"ClassOfManyModel", "classOf", "(I)I"⟩ ⟨"ClassOfManyModel", "classOf", "(I)I"⟩ ∈ zTw := zt7 121 (by rfl) rfl
set_option maxRecDepth 20000 in
theorem kw_7_122 : Cond.code ⟨"ClassOfManyModel", "classOf", "(I)I"⟩ prog_12_method_78_code 2 (some .int) ∈ zTw := zt7 122 (by rfl) rfl
set_option maxRecDepth 20000 in
theorem kw_7_124 : Cond.instanceMethod ⟨"ClassOfManyModel", "classBits", "(I)I"⟩ ∈ zTw := zt7 124 (by rfl) rfl
set_option maxRecDepth 20000 in
theorem kw_7_125 : Cond.selects "ClassOfManyModel" ⟨"ClassOfManyModel", "classBits", "(I)I"⟩ ⟨"ClassOfManyModel", "classBits", "(I)I"⟩ ∈ zTw := zt7 125 (by rfl) rfl
set_option maxRecDepth 20000 in
theorem kw_7_126 : Cond.code ⟨"ClassOfManyModel", "classBits", "(I)I"⟩ prog_12_method_80_code 2 (some .int) ∈ zTw := zt7 126 (by rfl) rfl
set_option maxRecDepth 20000 in
theorem kw_7_127 : Cond.methodLink "ClassOfManyModel" 308 ⟨"ClassOfManyModel", "partBits", "(I)I"⟩ ∈ zTw := zt7 127 (by rfl) rfl
set_option maxRecDepth 20000 in
theorem kw_7_129 : Cond.instanceMethod ⟨"ClassOfManyModel", "partBits", "(I)I"⟩ ∈ zTw := zt7 129 (by rfl) rfl
set_option maxRecDepth 20000 in
theorem kw_7_130 : Cond.code ⟨"ClassOfManyModel", "partBits", "(I)I"⟩ prog_12_method_79_code 4 (some .int) ∈ zTw := zt7 130 (by rfl) rfl
set_option maxRecDepth 20000 in
theorem kw_7_132 : Cond.instanceMethod ⟨"ClassOfManyModel", "splits", "(I)I"⟩ ∈ zTw := zt7 132 (by rfl) rfl
set_option maxRecDepth 20000 in
theorem kw_7_133 : Cond.selects "ClassOfManyModel" ⟨"ClassOfManyModel", "splits", "(I)I"⟩ ⟨"ClassOfManyModel", "splits", "(I)I"⟩ ∈ zTw := zt7 133 (by rfl) rfl
set_option maxRecDepth 20000 in
theorem kw_7_134 : Cond.code ⟨"ClassOfManyModel", "splits", "(I)I"⟩ prog_12_method_81_code 6 (some .int) ∈ zTw := zt7 134 (by rfl) rfl
set_option maxRecDepth 20000 in
theorem kw_7_135 : Cond.methodLink "ClassOfManyModel" 311 ⟨"ClassOfManyModel", "highest", "([II)I"⟩ ∈ zTw := zt7 135 (by rfl) rfl
set_option maxRecDepth 20000 in
theorem kw_7_136 : Cond.static ⟨"ClassOfManyModel", "highest", "([II)I"⟩ ∈ zTw := zt7 136 (by rfl) rfl
set_option maxRecDepth 20000 in
theorem kw_7_137 : Cond.code ⟨"ClassOfManyModel", "highest", "([II)I"⟩ prog_12_method_82_code 4 (some .int) ∈ zTw := zt7 137 (by rfl) rfl
set_option maxRecDepth 20000 in
theorem kw_7_138 : Cond.methodLink "ClassOfManyModel" 315 ⟨"ClassOfManyModel", "stands", "(I)Z"⟩ ∈ zTw := zt7 138 (by rfl) rfl
set_option maxRecDepth 20000 in
theorem kw_7_140 : Cond.instanceMethod ⟨"ClassOfManyModel", "stands", "(I)Z"⟩ ∈ zTw := zt7 140 (by rfl) rfl
set_option maxRecDepth 20000 in
theorem kw_7_141 : Cond.code ⟨"ClassOfManyModel", "stands", "(I)Z"⟩ prog_12_method_83_code 3 (some .boolean) ∈ zTw := zt7 141 (by rfl) rfl
set_option maxRecDepth 20000 in
theorem kw_7_143 : Cond.instanceMethod ⟨"ClassOfManyModel", "feud", "()I"⟩ ∈ zTw := zt7 143 (by rfl) rfl
set_option maxRecDepth 20000 in
theorem kw_7_144 : Cond.selects "ClassOfManyModel" ⟨"ClassOfManyModel", "feud", "()I"⟩ ⟨"ClassOfManyModel", "feud", "()I"⟩ ∈ zTw := zt7 144 (by rfl) rfl
set_option maxRecDepth 20000 in
theorem kw_7_145 : Cond.code ⟨"ClassOfManyModel", "feud", "()I"⟩ prog_12_method_84_code 6 (some .int) ∈ zTw := zt7 145 (by rfl) rfl
set_option maxRecDepth 20000 in
theorem kw_7_147 : Cond.instanceMethod ⟨"ClassOfManyModel", "settles", "()I"⟩ ∈ zTw := zt7 147 (by rfl) rfl
set_option maxRecDepth 20000 in
theorem kw_7_148 : Cond.selects "ClassOfManyModel" ⟨"ClassOfManyModel", "settles", "()I"⟩ ⟨"ClassOfManyModel", "settles", "()I"⟩ ∈ zTw := zt7 148 (by rfl) rfl
set_option maxRecDepth 20000 in
theorem kw_7_149 : Cond.code ⟨"ClassOfManyModel", "settles", "()I"⟩ prog_12_method_85_code 4 (some .int) ∈ zTw := zt7 149 (by rfl) rfl
set_option maxRecDepth 20000 in
theorem kw_7_151 : Cond.instanceMethod ⟨"ClassOfManyModel", "lead", "(I)I"⟩ ∈ zTw := zt7 151 (by rfl) rfl
set_option maxRecDepth 20000 in
theorem kw_7_152 : Cond.selects "ClassOfManyModel" ⟨"ClassOfManyModel", "lead", "(I)I"⟩ ⟨"ClassOfManyModel", "lead", "(I)I"⟩ ∈ zTw := zt7 152 (by rfl) rfl
set_option maxRecDepth 20000 in
theorem kw_7_153 : Cond.code ⟨"ClassOfManyModel", "lead", "(I)I"⟩ prog_12_method_86_code 4 (some .int) ∈ zTw := zt7 153 (by rfl) rfl
set_option maxRecDepth 20000 in
theorem kw_7_155 : Cond.instanceMethod ⟨"ClassOfManyModel", "costFor", "(I)I"⟩ ∈ zTw := zt7 155 (by rfl) rfl
set_option maxRecDepth 20000 in
theorem kw_7_156 : Cond.selects "ClassOfManyModel" ⟨"ClassOfManyModel", "costFor", "(I)I"⟩ ⟨"ClassOfManyModel", "costFor", "(I)I"⟩ ∈ zTw := zt7 156 (by rfl) rfl
set_option maxRecDepth 20000 in
theorem kw_7_157 : Cond.code ⟨"ClassOfManyModel", "costFor", "(I)I"⟩ prog_12_method_87_code 2 (some .int) ∈ zTw := zt7 157 (by rfl) rfl
set_option maxRecDepth 20000 in
theorem kw_7_159 : Cond.instanceMethod ⟨"ClassOfManyModel", "reachFor", "(II)I"⟩ ∈ zTw := zt7 159 (by rfl) rfl
set_option maxRecDepth 20000 in
theorem kw_7_160 : Cond.selects "ClassOfManyModel" ⟨"ClassOfManyModel", "reachFor", "(II)I"⟩ ⟨"ClassOfManyModel", "reachFor", "(II)I"⟩ ∈ zTw := zt7 160 (by rfl) rfl
set_option maxRecDepth 20000 in
theorem kw_7_161 : Cond.code ⟨"ClassOfManyModel", "reachFor", "(II)I"⟩ prog_12_method_88_code 3 (some .int) ∈ zTw := zt7 161 (by rfl) rfl
set_option maxRecDepth 20000 in
theorem kw_7_163 : Cond.instanceMethod ⟨"ClassOfManyModel", "cheapest", "(II)I"⟩ ∈ zTw := zt7 163 (by rfl) rfl
set_option maxRecDepth 20000 in
theorem kw_7_164 : Cond.selects "ClassOfManyModel" ⟨"ClassOfManyModel", "cheapest", "(II)I"⟩ ⟨"ClassOfManyModel", "cheapest", "(II)I"⟩ ∈ zTw := zt7 164 (by rfl) rfl
set_option maxRecDepth 20000 in
theorem kw_7_165 : Cond.code ⟨"ClassOfManyModel", "cheapest", "(II)I"⟩ prog_12_method_90_code 5 (some .int) ∈ zTw := zt7 165 (by rfl) rfl
set_option maxRecDepth 20000 in
theorem kw_7_166 : Cond.methodLink "ClassOfManyModel" 318 ⟨"ClassOfManyModel", "isSoon", "(II)Z"⟩ ∈ zTw := zt7 166 (by rfl) rfl
set_option maxRecDepth 20000 in
theorem kw_7_168 : Cond.instanceMethod ⟨"ClassOfManyModel", "isSoon", "(II)Z"⟩ ∈ zTw := zt7 168 (by rfl) rfl
set_option maxRecDepth 20000 in
theorem kw_7_169 : Cond.code ⟨"ClassOfManyModel", "isSoon", "(II)Z"⟩ prog_12_method_89_code 5 (some .boolean) ∈ zTw := zt7 169 (by rfl) rfl
set_option maxRecDepth 20000 in
theorem kw_7_171 : Cond.instanceMethod ⟨"ClassOfManyModel", "reachedBy", "(I)I"⟩ ∈ zTw := zt7 171 (by rfl) rfl
set_option maxRecDepth 20000 in
theorem kw_7_172 : Cond.selects "ClassOfManyModel" ⟨"ClassOfManyModel", "reachedBy", "(I)I"⟩ ⟨"ClassOfManyModel", "reachedBy", "(I)I"⟩ ∈ zTw := zt7 172 (by rfl) rfl
set_option maxRecDepth 20000 in
theorem kw_7_173 : Cond.code ⟨"ClassOfManyModel", "reachedBy", "(I)I"⟩ prog_12_method_91_code 4 (some .int) ∈ zTw := zt7 173 (by rfl) rfl
set_option maxRecDepth 20000 in
theorem kw_7_175 : Cond.instanceMethod ⟨"ClassOfManyModel", "fundOf", "(I)I"⟩ ∈ zTw := zt7 175 (by rfl) rfl
set_option maxRecDepth 20000 in
theorem kw_7_176 : Cond.selects "ClassOfManyModel" ⟨"ClassOfManyModel", "fundOf", "(I)I"⟩ ⟨"ClassOfManyModel", "fundOf", "(I)I"⟩ ∈ zTw := zt7 176 (by rfl) rfl
set_option maxRecDepth 20000 in
theorem kw_7_177 : Cond.code ⟨"ClassOfManyModel", "fundOf", "(I)I"⟩ prog_12_method_92_code 4 (some .int) ∈ zTw := zt7 177 (by rfl) rfl
set_option maxRecDepth 20000 in
theorem kw_7_178 : Cond.methodLink "ClassOfManyModel" 321 ⟨"ClassOfManyModel", "paysNow", "()V"⟩ ∈ zTw := zt7 178 (by rfl) rfl
set_option maxRecDepth 20000 in
theorem kw_7_180 : Cond.instanceMethod ⟨"ClassOfManyModel", "paysNow", "()V"⟩ ∈ zTw := zt7 180 (by rfl) rfl
set_option maxRecDepth 20000 in
theorem kw_7_181 : Cond.code ⟨"ClassOfManyModel", "paysNow", "()V"⟩ prog_12_method_53_code 1 none ∈ zTw := zt7 181 (by rfl) rfl
set_option maxRecDepth 20000 in
theorem kw_7_182 : Cond.methodLink "ClassOfManyModel" 281 ⟨"ClassOfManyModel", "setsNow", "()V"⟩ ∈ zTw := zt7 182 (by rfl) rfl
set_option maxRecDepth 20000 in
theorem kw_7_184 : Cond.instanceMethod ⟨"ClassOfManyModel", "setsNow", "()V"⟩ ∈ zTw := zt7 184 (by rfl) rfl
set_option maxRecDepth 20000 in
theorem kw_7_185 : Cond.code ⟨"ClassOfManyModel", "setsNow", "()V"⟩ prog_12_method_45_code 1 none ∈ zTw := zt7 185 (by rfl) rfl
set_option maxRecDepth 20000 in
theorem kw_7_186 : Cond.methodLink "ClassOfManyModel" 232 ⟨"ClassOfManyModel", "countedOf", "(I)I"⟩ ∈ zTw := zt7 186 (by rfl) rfl
set_option maxRecDepth 20000 in
theorem kw_7_188 : Cond.instanceMethod ⟨"ClassOfManyModel", "countedOf", "(I)I"⟩ ∈ zTw := zt7 188 (by rfl) rfl
set_option maxRecDepth 20000 in
theorem kw_7_189 : Cond.code ⟨"ClassOfManyModel", "countedOf", "(I)I"⟩ prog_12_method_46_code 4 (some .int) ∈ zTw := zt7 189 (by rfl) rfl
set_option maxRecDepth 20000 in
theorem kw_7_190 : Cond.methodLink "ClassOfManyModel" 284 ⟨"ClassOfManyModel", "pays", "()V"⟩ ∈ zTw := zt7 190 (by rfl) rfl
set_option maxRecDepth 20000 in
theorem kw_7_192 : Cond.instanceMethod ⟨"ClassOfManyModel", "pays", "()V"⟩ ∈ zTw := zt7 192 (by rfl) rfl
set_option maxRecDepth 20000 in
theorem kw_7_193 : Cond.code ⟨"ClassOfManyModel", "pays", "()V"⟩ prog_12_method_51_code 6 none ∈ zTw := zt7 193 (by rfl) rfl
set_option maxRecDepth 20000 in
theorem kw_7_194 : Cond.methodLink "ClassOfManyModel" 256 ⟨"ClassOfManyModel", "net", "()I"⟩ ∈ zTw := zt7 194 (by rfl) rfl
set_option maxRecDepth 20000 in
theorem kw_7_196 : Cond.instanceMethod ⟨"ClassOfManyModel", "net", "()I"⟩ ∈ zTw := zt7 196 (by rfl) rfl
set_option maxRecDepth 20000 in
theorem kw_7_197 : Cond.code ⟨"ClassOfManyModel", "net", "()I"⟩ prog_12_method_47_code 2 (some .int) ∈ zTw := zt7 197 (by rfl) rfl
set_option maxRecDepth 20000 in
theorem kw_7_198 : Cond.methodLink "ClassOfManyModel" 271 ⟨"ClassOfManyModel", "potOf", "(I)I"⟩ ∈ zTw := zt7 198 (by rfl) rfl
set_option maxRecDepth 20000 in
theorem kw_7_200 : Cond.instanceMethod ⟨"ClassOfManyModel", "potOf", "(I)I"⟩ ∈ zTw := zt7 200 (by rfl) rfl
set_option maxRecDepth 20000 in
theorem kw_7_201 : Cond.code ⟨"ClassOfManyModel", "potOf", "(I)I"⟩ prog_12_method_49_code 7 (some .int) ∈ zTw := zt7 201 (by rfl) rfl
set_option maxRecDepth 20000 in
theorem kw_7_202 : Cond.methodLink "ClassOfManyModel" 253 ⟨"ClassOfManyModel", "countedIn", "(I)I"⟩ ∈ zTw := zt7 202 (by rfl) rfl
set_option maxRecDepth 20000 in
theorem kw_7_204 : Cond.instanceMethod ⟨"ClassOfManyModel", "countedIn", "(I)I"⟩ ∈ zTw := zt7 204 (by rfl) rfl
set_option maxRecDepth 20000 in
theorem kw_7_205 : Cond.code ⟨"ClassOfManyModel", "countedIn", "(I)I"⟩ prog_12_method_48_code 4 (some .int) ∈ zTw := zt7 205 (by rfl) rfl
set_option maxRecDepth 20000 in
theorem kw_7_206 : Cond.methodLink "ClassOfManyModel" 274 ⟨"ClassOfManyModel", "lackedByAll", "()I"⟩ ∈ zTw := zt7 206 (by rfl) rfl
set_option maxRecDepth 20000 in
theorem kw_7_208 : Cond.instanceMethod ⟨"ClassOfManyModel", "lackedByAll", "()I"⟩ ∈ zTw := zt7 208 (by rfl) rfl
set_option maxRecDepth 20000 in
theorem kw_7_209 : Cond.code ⟨"ClassOfManyModel", "lackedByAll", "()I"⟩ prog_12_method_52_code 3 (some .int) ∈ zTw := zt7 209 (by rfl) rfl
set_option maxRecDepth 20000 in
theorem kw_7_210 : Cond.methodLink "ClassOfManyModel" 277 ⟨"ClassOfManyModel", "sent", "(IJI)I"⟩ ∈ zTw := zt7 210 (by rfl) rfl
set_option maxRecDepth 20000 in
theorem kw_7_212 : Cond.instanceMethod ⟨"ClassOfManyModel", "sent", "(IJI)I"⟩ ∈ zTw := zt7 212 (by rfl) rfl
set_option maxRecDepth 20000 in
theorem kw_7_213 : Cond.code ⟨"ClassOfManyModel", "sent", "(IJI)I"⟩ prog_12_method_50_code 7 (some .int) ∈ zTw := zt7 213 (by rfl) rfl
set_option maxRecDepth 20000 in
theorem kw_7_214 : Cond.methodLink "ClassOfManyModel" 324 ⟨"ClassOfManyModel", "paidAll", "(I)I"⟩ ∈ zTw := zt7 214 (by rfl) rfl
set_option maxRecDepth 20000 in
theorem kw_7_216 : Cond.instanceMethod ⟨"ClassOfManyModel", "paidAll", "(I)I"⟩ ∈ zTw := zt7 216 (by rfl) rfl
set_option maxRecDepth 20000 in
theorem kw_7_217 : Cond.code ⟨"ClassOfManyModel", "paidAll", "(I)I"⟩ prog_12_method_54_code 4 (some .int) ∈ zTw := zt7 217 (by rfl) rfl
set_option maxRecDepth 20000 in
theorem kw_7_219 : Cond.instanceMethod ⟨"ClassOfManyModel", "pot", "(I)I"⟩ ∈ zTw := zt7 219 (by rfl) rfl
set_option maxRecDepth 20000 in
theorem kw_7_220 : Cond.selects "ClassOfManyModel" ⟨"ClassOfManyModel", "pot", "(I)I"⟩ ⟨"ClassOfManyModel", "pot", "(I)I"⟩ ∈ zTw := zt7 220 (by rfl) rfl
set_option maxRecDepth 20000 in
theorem kw_7_221 : Cond.code ⟨"ClassOfManyModel", "pot", "(I)I"⟩ prog_12_method_93_code 2 (some .int) ∈ zTw := zt7 221 (by rfl) rfl
set_option maxRecDepth 20000 in
theorem kw_7_223 : Cond.instanceMethod ⟨"ClassOfManyModel", "paid", "(I)I"⟩ ∈ zTw := zt7 223 (by rfl) rfl
set_option maxRecDepth 20000 in
theorem kw_7_224 : Cond.selects "ClassOfManyModel" ⟨"ClassOfManyModel", "paid", "(I)I"⟩ ⟨"ClassOfManyModel", "paid", "(I)I"⟩ ∈ zTw := zt7 224 (by rfl) rfl
set_option maxRecDepth 20000 in
theorem kw_7_225 : Cond.code ⟨"ClassOfManyModel", "paid", "(I)I"⟩ prog_12_method_94_code 2 (some .int) ∈ zTw := zt7 225 (by rfl) rfl
set_option maxRecDepth 20000 in
theorem kw_7_227 : Cond.instanceMethod ⟨"ClassOfManyModel", "had", "(II)I"⟩ ∈ zTw := zt7 227 (by rfl) rfl
set_option maxRecDepth 20000 in
theorem kw_7_228 : Cond.selects "ClassOfManyModel" ⟨"ClassOfManyModel", "had", "(II)I"⟩ ⟨"ClassOfManyModel", "had", "(II)I"⟩ ∈ zTw := zt7 228 (by rfl) rfl
set_option maxRecDepth 20000 in
theorem kw_7_229 : Cond.code ⟨"ClassOfManyModel", "had", "(II)I"⟩ prog_12_method_95_code 3 (some .int) ∈ zTw := zt7 229 (by rfl) rfl
set_option maxRecDepth 20000 in
theorem kw_7_231 : Cond.instanceMethod ⟨"ClassOfManyModel", "share", "()I"⟩ ∈ zTw := zt7 231 (by rfl) rfl
set_option maxRecDepth 20000 in
theorem kw_7_232 : Cond.selects "ClassOfManyModel" ⟨"ClassOfManyModel", "share", "()I"⟩ ⟨"ClassOfManyModel", "share", "()I"⟩ ∈ zTw := zt7 232 (by rfl) rfl
set_option maxRecDepth 20000 in
theorem kw_7_233 : Cond.code ⟨"ClassOfManyModel", "share", "()I"⟩ prog_12_method_96_code 1 (some .int) ∈ zTw := zt7 233 (by rfl) rfl
set_option maxRecDepth 20000 in
theorem kw_7_234 : Cond.constantLong "ClassOfManyModel" 327 (100 : Int64) ∈ zTw := zt7 234 (by rfl) rfl
set_option maxRecDepth 20000 in
theorem kw_7_236 : Cond.instanceMethod ⟨"ClassOfManyModel", "votes", "(I)I"⟩ ∈ zTw := zt7 236 (by rfl) rfl
set_option maxRecDepth 20000 in
theorem kw_7_237 : Cond.selects "ClassOfManyModel" ⟨"ClassOfManyModel", "votes", "(I)I"⟩ ⟨"ClassOfManyModel", "votes", "(I)I"⟩ ∈ zTw := zt7 237 (by rfl) rfl
set_option maxRecDepth 20000 in
theorem kw_7_238 : Cond.code ⟨"ClassOfManyModel", "votes", "(I)I"⟩ prog_12_method_97_code 4 (some .int) ∈ zTw := zt7 238 (by rfl) rfl
set_option maxRecDepth 20000 in
theorem kw_8_0 : Cond.instanceMethod ⟨"ClassOfManyModel", "wereOut", "(II)I"⟩ ∈ zTw := zt8 0 (by rfl) rfl
set_option maxRecDepth 20000 in
theorem kw_8_1 : Cond.selects "ClassOfManyModel" ⟨"ClassOfManyModel", "wereOut", "(II)I"⟩ ⟨"ClassOfManyModel", "wereOut", "(II)I"⟩ ∈ zTw := zt8 1 (by rfl) rfl
set_option maxRecDepth 20000 in
theorem kw_8_2 : Cond.code ⟨"ClassOfManyModel", "wereOut", "(II)I"⟩ prog_12_method_98_code 3 (some .int) ∈ zTw := zt8 2 (by rfl) rfl
set_option maxRecDepth 20000 in
theorem kw_8_3 : Cond.methodLink "ClassOfManyModel" 329 ⟨"ClassOfManyModel", "paysWithout", "(I)V"⟩ ∈ zTw := zt8 3 (by rfl) rfl
set_option maxRecDepth 20000 in
theorem kw_8_5 : Cond.instanceMethod ⟨"ClassOfManyModel", "paysWithout", "(I)V"⟩ ∈ zTw := zt8 5 (by rfl) rfl
set_option maxRecDepth 20000 in
theorem kw_8_6 : Cond.code ⟨"ClassOfManyModel", "paysWithout", "(I)V"⟩ prog_12_method_55_code 2 none ∈ zTw := zt8 6 (by rfl) rfl
set_option maxRecDepth 20000 in
theorem kw_8_8 : Cond.instanceMethod ⟨"ClassOfManyModel", "wereFund", "(II)I"⟩ ∈ zTw := zt8 8 (by rfl) rfl
set_option maxRecDepth 20000 in
theorem kw_8_9 : Cond.selects "ClassOfManyModel" ⟨"ClassOfManyModel", "wereFund", "(II)I"⟩ ⟨"ClassOfManyModel", "wereFund", "(II)I"⟩ ∈ zTw := zt8 9 (by rfl) rfl
set_option maxRecDepth 20000 in
theorem kw_8_10 : Cond.code ⟨"ClassOfManyModel", "wereFund", "(II)I"⟩ prog_12_method_99_code 3 (some .int) ∈ zTw := zt8 10 (by rfl) rfl
set_option maxRecDepth 20000 in
theorem kw_8_12 : Cond.instanceMethod ⟨"ClassOfManyModel", "wereRule", "(II)I"⟩ ∈ zTw := zt8 12 (by rfl) rfl
set_option maxRecDepth 20000 in
theorem kw_8_13 : Cond.selects "ClassOfManyModel" ⟨"ClassOfManyModel", "wereRule", "(II)I"⟩ ⟨"ClassOfManyModel", "wereRule", "(II)I"⟩ ∈ zTw := zt8 13 (by rfl) rfl
set_option maxRecDepth 20000 in
theorem kw_8_14 : Cond.code ⟨"ClassOfManyModel", "wereRule", "(II)I"⟩ prog_12_method_101_code 3 (some .int) ∈ zTw := zt8 14 (by rfl) rfl
set_option maxRecDepth 20000 in
theorem kw_8_15 : Cond.methodLink "ClassOfManyModel" 332 ⟨"ClassOfManyModel", "paidBy", "(II)I"⟩ ∈ zTw := zt8 15 (by rfl) rfl
set_option maxRecDepth 20000 in
theorem kw_8_17 : Cond.instanceMethod ⟨"ClassOfManyModel", "paidBy", "(II)I"⟩ ∈ zTw := zt8 17 (by rfl) rfl
set_option maxRecDepth 20000 in
theorem kw_8_18 : Cond.code ⟨"ClassOfManyModel", "paidBy", "(II)I"⟩ prog_12_method_100_code 3 (some .int) ∈ zTw := zt8 18 (by rfl) rfl
set_option maxRecDepth 20000 in
theorem kw_8_20 : Cond.instanceMethod ⟨"ClassOfManyModel", "ruleFor", "(I)I"⟩ ∈ zTw := zt8 20 (by rfl) rfl
set_option maxRecDepth 20000 in
theorem kw_8_21 : Cond.selects "ClassOfManyModel" ⟨"ClassOfManyModel", "ruleFor", "(I)I"⟩ ⟨"ClassOfManyModel", "ruleFor", "(I)I"⟩ ∈ zTw := zt8 21 (by rfl) rfl
set_option maxRecDepth 20000 in
theorem kw_8_22 : Cond.code ⟨"ClassOfManyModel", "ruleFor", "(I)I"⟩ prog_12_method_102_code 6 (some .int) ∈ zTw := zt8 22 (by rfl) rfl
set_option maxRecDepth 20000 in
theorem kw_8_24 : Cond.instanceMethod ⟨"ClassOfManyModel", "leaver", "(I)I"⟩ ∈ zTw := zt8 24 (by rfl) rfl
set_option maxRecDepth 20000 in
theorem kw_8_25 : Cond.selects "ClassOfManyModel" ⟨"ClassOfManyModel", "leaver", "(I)I"⟩ ⟨"ClassOfManyModel", "leaver", "(I)I"⟩ ∈ zTw := zt8 25 (by rfl) rfl
set_option maxRecDepth 20000 in
theorem kw_8_26 : Cond.code ⟨"ClassOfManyModel", "leaver", "(I)I"⟩ prog_12_method_103_code 5 (some .int) ∈ zTw := zt8 26 (by rfl) rfl
set_option maxRecDepth 20000 in
theorem kw_8_28 : Cond.instanceMethod ⟨"ClassOfManyModel", "alone", "(I)I"⟩ ∈ zTw := zt8 28 (by rfl) rfl
set_option maxRecDepth 20000 in
theorem kw_8_29 : Cond.selects "ClassOfManyModel" ⟨"ClassOfManyModel", "alone", "(I)I"⟩ ⟨"ClassOfManyModel", "alone", "(I)I"⟩ ∈ zTw := zt8 29 (by rfl) rfl
set_option maxRecDepth 20000 in
theorem kw_8_30 : Cond.code ⟨"ClassOfManyModel", "alone", "(I)I"⟩ prog_12_method_105_code 2 (some .int) ∈ zTw := zt8 30 (by rfl) rfl
set_option maxRecDepth 20000 in
theorem kw_8_31 : Cond.methodLink "ClassOfManyModel" 335 ⟨"ClassOfManyModel", "isSet", "(I)Z"⟩ ∈ zTw := zt8 31 (by rfl) rfl
set_option maxRecDepth 20000 in
theorem kw_8_33 : Cond.instanceMethod ⟨"ClassOfManyModel", "isSet", "(I)Z"⟩ ∈ zTw := zt8 33 (by rfl) rfl
set_option maxRecDepth 20000 in
theorem kw_8_34 : Cond.code ⟨"ClassOfManyModel", "isSet", "(I)Z"⟩ prog_12_method_104_code 2 (some .boolean) ∈ zTw := zt8 34 (by rfl) rfl
set_option maxRecDepth 20000 in
theorem kw_8_36 : Cond.instanceMethod ⟨"ClassOfManyModel", "needs", "()I"⟩ ∈ zTw := zt8 36 (by rfl) rfl
set_option maxRecDepth 20000 in
theorem kw_8_37 : Cond.selects "ClassOfManyModel" ⟨"ClassOfManyModel", "needs", "()I"⟩ ⟨"ClassOfManyModel", "needs", "()I"⟩ ∈ zTw := zt8 37 (by rfl) rfl
set_option maxRecDepth 20000 in
theorem kw_8_38 : Cond.code ⟨"ClassOfManyModel", "needs", "()I"⟩ prog_12_method_106_code 3 (some .int) ∈ zTw := zt8 38 (by rfl) rfl
set_option maxRecDepth 20000 in
theorem kw_8_40 : Cond.instanceMethod ⟨"ClassOfManyModel", "rests", "(III)I"⟩ ∈ zTw := zt8 40 (by rfl) rfl
set_option maxRecDepth 20000 in
theorem kw_8_41 : Cond.selects "ClassOfManyModel" ⟨"ClassOfManyModel", "rests", "(III)I"⟩ ⟨"ClassOfManyModel", "rests", "(III)I"⟩ ∈ zTw := zt8 41 (by rfl) rfl
set_option maxRecDepth 20000 in
theorem kw_8_42 : Cond.code ⟨"ClassOfManyModel", "rests", "(III)I"⟩ prog_12_method_107_code 10 (some .int) ∈ zTw := zt8 42 (by rfl) rfl
set_option maxRecDepth 20000 in
theorem kw_8_44 : Cond.instanceMethod ⟨"ClassOfManyModel", "sample", "(II)I"⟩ ∈ zTw := zt8 44 (by rfl) rfl
set_option maxRecDepth 20000 in
theorem kw_8_45 : Cond.selects "ClassOfManyModel" ⟨"ClassOfManyModel", "sample", "(II)I"⟩ ⟨"ClassOfManyModel", "sample", "(II)I"⟩ ∈ zTw := zt8 45 (by rfl) rfl
set_option maxRecDepth 20000 in
theorem kw_8_46 : Cond.code ⟨"ClassOfManyModel", "sample", "(II)I"⟩ prog_12_method_108_code 8 (some .int) ∈ zTw := zt8 46 (by rfl) rfl
set_option maxRecDepth 20000 in
theorem kw_8_47 : Cond.constant "ClassOfManyModel" 338 (1103515245 : Int32) ∈ zTw := zt8 47 (by rfl) rfl
set_option maxRecDepth 20000 in
theorem kw_8_49 : Cond.instanceMethod ⟨"ClassOfManyModel", "estimate", "(I)I"⟩ ∈ zTw := zt8 49 (by rfl) rfl
set_option maxRecDepth 20000 in
theorem kw_8_50 : Cond.selects "ClassOfManyModel" ⟨"ClassOfManyModel", "estimate", "(I)I"⟩ ⟨"ClassOfManyModel", "estimate", "(I)I"⟩ ∈ zTw := zt8 50 (by rfl) rfl
set_option maxRecDepth 20000 in
theorem kw_8_51 : Cond.code ⟨"ClassOfManyModel", "estimate", "(I)I"⟩ prog_12_method_111_code 2 (some .int) ∈ zTw := zt8 51 (by rfl) rfl
set_option maxRecDepth 20000 in
theorem kw_8_52 : Cond.methodLink "ClassOfManyModel" 339 ⟨"ClassOfManyModel", "estimated", "(I)I"⟩ ∈ zTw := zt8 52 (by rfl) rfl
set_option maxRecDepth 20000 in
theorem kw_8_54 : Cond.instanceMethod ⟨"ClassOfManyModel", "estimated", "(I)I"⟩ ∈ zTw := zt8 54 (by rfl) rfl
set_option maxRecDepth 20000 in
theorem kw_8_55 : Cond.code ⟨"ClassOfManyModel", "estimated", "(I)I"⟩ prog_12_method_109_code 2 (some .int) ∈ zTw := zt8 55 (by rfl) rfl
set_option maxRecDepth 20000 in
theorem kw_8_57 : Cond.instanceMethod ⟨"ClassOfManyModel", "nearest", "(II)I"⟩ ∈ zTw := zt8 57 (by rfl) rfl
set_option maxRecDepth 20000 in
theorem kw_8_58 : Cond.selects "ClassOfManyModel" ⟨"ClassOfManyModel", "nearest", "(II)I"⟩ ⟨"ClassOfManyModel", "nearest", "(II)I"⟩ ∈ zTw := zt8 58 (by rfl) rfl
set_option maxRecDepth 20000 in
theorem kw_8_59 : Cond.code ⟨"ClassOfManyModel", "nearest", "(II)I"⟩ prog_12_method_112_code 5 (some .int) ∈ zTw := zt8 59 (by rfl) rfl
set_option maxRecDepth 20000 in
theorem kw_8_60 : Cond.methodLink "ClassOfManyModel" 342 ⟨"ClassOfManyModel", "offBy", "(I)I"⟩ ∈ zTw := zt8 60 (by rfl) rfl
set_option maxRecDepth 20000 in
theorem kw_8_62 : Cond.instanceMethod ⟨"ClassOfManyModel", "offBy", "(I)I"⟩ ∈ zTw := zt8 62 (by rfl) rfl
set_option maxRecDepth 20000 in
theorem kw_8_63 : Cond.code ⟨"ClassOfManyModel", "offBy", "(I)I"⟩ prog_12_method_110_code 3 (some .int) ∈ zTw := zt8 63 (by rfl) rfl
set_option maxRecDepth 20000 in
theorem kw_8_65 : Cond.instanceMethod ⟨"ClassOfManyModel", "within", "(II)I"⟩ ∈ zTw := zt8 65 (by rfl) rfl
set_option maxRecDepth 20000 in
theorem kw_8_66 : Cond.selects "ClassOfManyModel" ⟨"ClassOfManyModel", "within", "(II)I"⟩ ⟨"ClassOfManyModel", "within", "(II)I"⟩ ∈ zTw := zt8 66 (by rfl) rfl
set_option maxRecDepth 20000 in
theorem kw_8_67 : Cond.code ⟨"ClassOfManyModel", "within", "(II)I"⟩ prog_12_method_113_code 5 (some .int) ∈ zTw := zt8 67 (by rfl) rfl
set_option maxRecDepth 20000 in
theorem kw_8_69 : Cond.instanceMethod ⟨"ClassOfManyModel", "spell", "(I)I"⟩ ∈ zTw := zt8 69 (by rfl) rfl
set_option maxRecDepth 20000 in
theorem kw_8_70 : Cond.selects "ClassOfManyModel" ⟨"ClassOfManyModel", "spell", "(I)I"⟩ ⟨"ClassOfManyModel", "spell", "(I)I"⟩ ∈ zTw := zt8 70 (by rfl) rfl
set_option maxRecDepth 20000 in
theorem kw_8_71 : Cond.code ⟨"ClassOfManyModel", "spell", "(I)I"⟩ prog_12_method_121_code 4 (some .int) ∈ zTw := zt8 71 (by rfl) rfl
set_option maxRecDepth 20000 in
theorem kw_8_72 : Cond.methodLink "ClassOfManyModel" 358 ⟨"ClassOfManyModel", "spellsOne", "(JI)V"⟩ ∈ zTw := zt8 72 (by rfl) rfl
set_option maxRecDepth 20000 in
theorem kw_8_74 : Cond.instanceMethod ⟨"ClassOfManyModel", "spellsOne", "(JI)V"⟩ ∈ zTw := zt8 74 (by rfl) rfl
set_option maxRecDepth 20000 in
theorem kw_8_75 : Cond.code ⟨"ClassOfManyModel", "spellsOne", "(JI)V"⟩ prog_12_method_117_code 4 none ∈ zTw := zt8 75 (by rfl) rfl
set_option maxRecDepth 20000 in
theorem kw_8_76 : Cond.methodLink "ClassOfManyModel" 351 ⟨"ClassOfManyModel", "spells", "(J)V"⟩ ∈ zTw := zt8 76 (by rfl) rfl
set_option maxRecDepth 20000 in
theorem kw_8_78 : Cond.instanceMethod ⟨"ClassOfManyModel", "spells", "(J)V"⟩ ∈ zTw := zt8 78 (by rfl) rfl
set_option maxRecDepth 20000 in
theorem kw_8_79 : Cond.code ⟨"ClassOfManyModel", "spells", "(J)V"⟩ prog_12_method_115_code 7 none ∈ zTw := zt8 79 (by rfl) rfl
set_option maxRecDepth 20000 in
theorem kw_8_80 : Cond.methodLink "ClassOfManyModel" 348 ⟨"ClassOfManyModel", "spellsByte", "(I)V"⟩ ∈ zTw := zt8 80 (by rfl) rfl
set_option maxRecDepth 20000 in
theorem kw_8_82 : Cond.instanceMethod ⟨"ClassOfManyModel", "spellsByte", "(I)V"⟩ ∈ zTw := zt8 82 (by rfl) rfl
set_option maxRecDepth 20000 in
theorem kw_8_83 : Cond.code ⟨"ClassOfManyModel", "spellsByte", "(I)V"⟩ prog_12_method_114_code 2 none ∈ zTw := zt8 83 (by rfl) rfl
set_option maxRecDepth 20000 in
theorem kw_8_84 : Cond.methodLink "ClassOfManyModel" 355 ⟨"ClassOfManyModel", "spellsNumber", "(I)V"⟩ ∈ zTw := zt8 84 (by rfl) rfl
set_option maxRecDepth 20000 in
theorem kw_8_86 : Cond.instanceMethod ⟨"ClassOfManyModel", "spellsNumber", "(I)V"⟩ ∈ zTw := zt8 86 (by rfl) rfl
set_option maxRecDepth 20000 in
theorem kw_8_87 : Cond.code ⟨"ClassOfManyModel", "spellsNumber", "(I)V"⟩ prog_12_method_116_code 3 none ∈ zTw := zt8 87 (by rfl) rfl
set_option maxRecDepth 20000 in
theorem kw_8_88 : Cond.methodLink "ClassOfManyModel" 362 ⟨"ClassOfManyModel", "spellsTwo", "(JII)V"⟩ ∈ zTw := zt8 88 (by rfl) rfl
set_option maxRecDepth 20000 in
theorem kw_8_90 : Cond.instanceMethod ⟨"ClassOfManyModel", "spellsTwo", "(JII)V"⟩ ∈ zTw := zt8 90 (by rfl) rfl
set_option maxRecDepth 20000 in
theorem kw_8_91 : Cond.code ⟨"ClassOfManyModel", "spellsTwo", "(JII)V"⟩ prog_12_method_118_code 5 none ∈ zTw := zt8 91 (by rfl) rfl
set_option maxRecDepth 20000 in
theorem kw_8_92 : Cond.methodLink "ClassOfManyModel" 366 ⟨"ClassOfManyModel", "spellsMember", "(I)V"⟩ ∈ zTw := zt8 92 (by rfl) rfl
set_option maxRecDepth 20000 in
theorem kw_8_94 : Cond.instanceMethod ⟨"ClassOfManyModel", "spellsMember", "(I)V"⟩ ∈ zTw := zt8 94 (by rfl) rfl
set_option maxRecDepth 20000 in
theorem kw_8_95 : Cond.code ⟨"ClassOfManyModel", "spellsMember", "(I)V"⟩ prog_12_method_120_code 3 none ∈ zTw := zt8 95 (by rfl) rfl
set_option maxRecDepth 20000 in
theorem kw_8_96 : Cond.methodLink "ClassOfManyModel" 369 ⟨"ClassOfManyModel", "spelled", "(I)I"⟩ ∈ zTw := zt8 96 (by rfl) rfl
set_option maxRecDepth 20000 in
theorem kw_8_98 : Cond.instanceMethod ⟨"ClassOfManyModel", "spelled", "(I)I"⟩ ∈ zTw := zt8 98 (by rfl) rfl
set_option maxRecDepth 20000 in
theorem kw_8_99 : Cond.code ⟨"ClassOfManyModel", "spelled", "(I)I"⟩ prog_12_method_119_code 2 (some .int) ∈ zTw := zt8 99 (by rfl) rfl
set_option maxRecDepth 20000 in
theorem kw_8_101 : Cond.instanceMethod ⟨"ClassOfManyModel", "report", "(I)I"⟩ ∈ zTw := zt8 101 (by rfl) rfl
set_option maxRecDepth 20000 in
theorem kw_8_102 : Cond.selects "ClassOfManyModel" ⟨"ClassOfManyModel", "report", "(I)I"⟩ ⟨"ClassOfManyModel", "report", "(I)I"⟩ ∈ zTw := zt8 102 (by rfl) rfl
set_option maxRecDepth 20000 in
theorem kw_8_103 : Cond.code ⟨"ClassOfManyModel", "report", "(I)I"⟩ prog_12_method_122_code 3 (some .int) ∈ zTw := zt8 103 (by rfl) rfl
set_option maxRecDepth 20000 in
theorem kw_8_104 : Cond.constantLong "ClassOfManyModel" 372 (315904 : Int64) ∈ zTw := zt8 104 (by rfl) rfl
set_option maxRecDepth 20000 in
theorem kw_8_105 : Cond.constantLong "ClassOfManyModel" 374 (279875 : Int64) ∈ zTw := zt8 105 (by rfl) rfl
set_option maxRecDepth 20000 in
theorem kw_8_107 : Cond.instanceMethod ⟨"ClassOfManyModel", "count", "(I)I"⟩ ∈ zTw := zt8 107 (by rfl) rfl
set_option maxRecDepth 20000 in
theorem kw_8_108 : Cond.selects "ClassOfManyModel" ⟨"ClassOfManyModel", "count", "(I)I"⟩ ⟨"ClassOfManyModel", "count", "(I)I"⟩ ∈ zTw := zt8 108 (by rfl) rfl
set_option maxRecDepth 20000 in
theorem kw_8_109 : Cond.code ⟨"ClassOfManyModel", "count", "(I)I"⟩ prog_12_method_124_code 2 (some .int) ∈ zTw := zt8 109 (by rfl) rfl
set_option maxRecDepth 20000 in
theorem kw_8_110 : Cond.methodLink "ClassOfManyModel" 376 ⟨"ClassOfManyModel", "conflicts", "()I"⟩ ∈ zTw := zt8 110 (by rfl) rfl
set_option maxRecDepth 20000 in
theorem kw_8_112 : Cond.instanceMethod ⟨"ClassOfManyModel", "conflicts", "()I"⟩ ∈ zTw := zt8 112 (by rfl) rfl
set_option maxRecDepth 20000 in
theorem kw_8_113 : Cond.code ⟨"ClassOfManyModel", "conflicts", "()I"⟩ prog_12_method_123_code 3 (some .int) ∈ zTw := zt8 113 (by rfl) rfl
set_option maxRecDepth 20000 in
theorem kw_8_114 : Cond.fieldLink "java/lang/String" 9 "java/lang/String" "value" "[B" ∈ zTw := zt8 114 (by rfl) rfl
set_option maxRecDepth 20000 in
theorem kw_8_115 : Cond.fieldLink "java/lang/String" 15 "java/lang/String" "coder" "B" ∈ zTw := zt8 115 (by rfl) rfl
set_option maxRecDepth 20000 in
theorem kp_0 : Cond.selects "ClassOfMany$Reader" ⟨"ClassOfMany$Reader", "skipBlanks", "()V"⟩ ⟨"ClassOfMany$Reader", "skipBlanks", "()V"⟩ ∈ zTw := zts 0 (by rfl) rfl
set_option maxRecDepth 20000 in
theorem kp_1 : Cond.selects "ClassOfMany$Reader" ⟨"ClassOfMany$Reader", "isRight", "()Z"⟩ ⟨"ClassOfMany$Reader", "isRight", "()Z"⟩ ∈ zTw := zts 1 (by rfl) rfl
set_option maxRecDepth 20000 in
theorem kp_2 : Cond.selects "ClassOfMany$Reader" ⟨"ClassOfMany$Reader", "readLine", "()V"⟩ ⟨"ClassOfMany$Reader", "readLine", "()V"⟩ ∈ zTw := zts 2 (by rfl) rfl
set_option maxRecDepth 20000 in
theorem kp_3 : Cond.selects "ClassOfMany$Reader" ⟨"ClassOfMany$Reader", "readSort", "()I"⟩ ⟨"ClassOfMany$Reader", "readSort", "()I"⟩ ∈ zTw := zts 3 (by rfl) rfl
set_option maxRecDepth 20000 in
theorem kp_4 : Cond.selects "ClassOfMany$Reader" ⟨"ClassOfMany$Reader", "wordEnd", "(I)I"⟩ ⟨"ClassOfMany$Reader", "wordEnd", "(I)I"⟩ ∈ zTw := zts 4 (by rfl) rfl
set_option maxRecDepth 20000 in
theorem kp_5 : Cond.selects "ClassOfMany$Reader" ⟨"ClassOfMany$Reader", "isLetterAt", "(I)Z"⟩ ⟨"ClassOfMany$Reader", "isLetterAt", "(I)Z"⟩ ∈ zTw := zts 5 (by rfl) rfl
set_option maxRecDepth 20000 in
theorem kp_6 : Cond.selects "ClassOfMany$Reader" ⟨"ClassOfMany$Reader", "isWord", "(Ljava/lang/String;II)Z"⟩ ⟨"ClassOfMany$Reader", "isWord", "(Ljava/lang/String;II)Z"⟩ ∈ zTw := zts 6 (by rfl) rfl
set_option maxRecDepth 20000 in
theorem kp_7 : Cond.selects "ClassOfMany$Reader" ⟨"ClassOfMany$Reader", "mayStand", "(I)Z"⟩ ⟨"ClassOfMany$Reader", "mayStand", "(I)Z"⟩ ∈ zTw := zts 7 (by rfl) rfl
set_option maxRecDepth 20000 in
theorem kp_8 : Cond.selects "ClassOfMany$Reader" ⟨"ClassOfMany$Reader", "fail", "(I)V"⟩ ⟨"ClassOfMany$Reader", "fail", "(I)V"⟩ ∈ zTw := zts 8 (by rfl) rfl
set_option maxRecDepth 20000 in
theorem kp_9 : Cond.selects "ClassOfMany$Reader" ⟨"ClassOfMany$Reader", "readNumber", "(II)I"⟩ ⟨"ClassOfMany$Reader", "readNumber", "(II)I"⟩ ∈ zTw := zts 9 (by rfl) rfl
set_option maxRecDepth 20000 in
theorem kp_10 : Cond.selects "ClassOfMany$Reader" ⟨"ClassOfMany$Reader", "isDigitAt", "(I)Z"⟩ ⟨"ClassOfMany$Reader", "isDigitAt", "(I)Z"⟩ ∈ zTw := zts 10 (by rfl) rfl
set_option maxRecDepth 20000 in
theorem kp_11 : Cond.selects "ClassOfMany$Reader" ⟨"ClassOfMany$Reader", "isBlankAt", "(I)Z"⟩ ⟨"ClassOfMany$Reader", "isBlankAt", "(I)Z"⟩ ∈ zTw := zts 11 (by rfl) rfl
set_option maxRecDepth 20000 in
theorem kp_12 : Cond.selects "ClassOfMany$Reader" ⟨"ClassOfMany$Reader", "readChannel", "()V"⟩ ⟨"ClassOfMany$Reader", "readChannel", "()V"⟩ ∈ zTw := zts 12 (by rfl) rfl
set_option maxRecDepth 20000 in
theorem kp_13 : Cond.selects "ClassOfMany$Reader" ⟨"ClassOfMany$Reader", "readMember", "()V"⟩ ⟨"ClassOfMany$Reader", "readMember", "()V"⟩ ∈ zTw := zts 13 (by rfl) rfl
set_option maxRecDepth 20000 in
theorem kp_14 : Cond.selects "ClassOfMany$Reader" ⟨"ClassOfMany$Reader", "readReach", "()I"⟩ ⟨"ClassOfMany$Reader", "readReach", "()I"⟩ ∈ zTw := zts 14 (by rfl) rfl
set_option maxRecDepth 20000 in
theorem kp_15 : Cond.selects "ClassOfMany$Reader" ⟨"ClassOfMany$Reader", "readConflict", "()V"⟩ ⟨"ClassOfMany$Reader", "readConflict", "()V"⟩ ∈ zTw := zts 15 (by rfl) rfl
set_option maxRecDepth 20000 in
theorem kp_16 : Cond.selects "ClassOfMany$Reader" ⟨"ClassOfMany$Reader", "readEnd", "()V"⟩ ⟨"ClassOfMany$Reader", "readEnd", "()V"⟩ ∈ zTw := zts 16 (by rfl) rfl
set_option maxRecDepth 20000 in
theorem kp_17 : Cond.selects "ClassOfMany" ⟨"ClassOfMany", "remember", "()V"⟩ ⟨"ClassOfMany", "remember", "()V"⟩ ∈ zTw := zts 17 (by rfl) rfl
set_option maxRecDepth 20000 in
theorem kp_18 : Cond.selects "ClassOfMany" ⟨"ClassOfMany", "isMember", "(I)Z"⟩ ⟨"ClassOfMany", "isMember", "(I)Z"⟩ ∈ zTw := zts 18 (by rfl) rfl
set_option maxRecDepth 20000 in
theorem kp_19 : Cond.selects "ClassOfMany" ⟨"ClassOfMany", "isReached", "(I)Z"⟩ ⟨"ClassOfMany", "isReached", "(I)Z"⟩ ∈ zTw := zts 19 (by rfl) rfl
set_option maxRecDepth 20000 in
theorem kp_20 : Cond.selects "ClassOfMany" ⟨"ClassOfMany", "reachDay", "(I)I"⟩ ⟨"ClassOfMany", "reachDay", "(I)I"⟩ ∈ zTw := zts 20 (by rfl) rfl
set_option maxRecDepth 20000 in
theorem kp_21 : Cond.selects "ClassOfMany" ⟨"ClassOfMany", "everyone", "()I"⟩ ⟨"ClassOfMany", "everyone", "()I"⟩ ∈ zTw := zts 21 (by rfl) rfl
set_option maxRecDepth 20000 in
theorem kp_22 : Cond.selects "ClassOfMany" ⟨"ClassOfMany", "claimsOf", "(I)I"⟩ ⟨"ClassOfMany", "claimsOf", "(I)I"⟩ ∈ zTw := zts 22 (by rfl) rfl
set_option maxRecDepth 20000 in
theorem kp_23 : Cond.selects "ClassOfMany" ⟨"ClassOfMany", "arePair", "(II)Z"⟩ ⟨"ClassOfMany", "arePair", "(II)Z"⟩ ∈ zTw := zts 23 (by rfl) rfl
set_option maxRecDepth 20000 in
theorem kp_24 : Cond.selects "ClassOfMany" ⟨"ClassOfMany", "reachedThrough", "(I)I"⟩ ⟨"ClassOfMany", "reachedThrough", "(I)I"⟩ ∈ zTw := zts 24 (by rfl) rfl
set_option maxRecDepth 20000 in
theorem kp_25 : Cond.selects "ClassOfMany" ⟨"ClassOfMany", "rankOf", "(I)I"⟩ ⟨"ClassOfMany", "rankOf", "(I)I"⟩ ∈ zTw := zts 25 (by rfl) rfl
set_option maxRecDepth 20000 in
theorem kp_26 : Cond.selects "ClassOfMany" ⟨"ClassOfMany", "claimantsOn", "(I)I"⟩ ⟨"ClassOfMany", "claimantsOn", "(I)I"⟩ ∈ zTw := zts 26 (by rfl) rfl
set_option maxRecDepth 20000 in
theorem kp_27 : Cond.selects "ClassOfMany" ⟨"ClassOfMany", "splitNow", "()V"⟩ ⟨"ClassOfMany", "splitNow", "()V"⟩ ∈ zTw := zts 27 (by rfl) rfl
set_option maxRecDepth 20000 in
theorem kp_28 : Cond.selects "ClassOfMany$Splitter" ⟨"ClassOfMany$Splitter", "fitsInto", "(I)Z"⟩ ⟨"ClassOfMany$Splitter", "fitsInto", "(I)Z"⟩ ∈ zTw := zts 28 (by rfl) rfl
set_option maxRecDepth 20000 in
theorem kp_29 : Cond.selects "ClassOfMany$Splitter" ⟨"ClassOfMany$Splitter", "markPeaceful", "()V"⟩ ⟨"ClassOfMany$Splitter", "markPeaceful", "()V"⟩ ∈ zTw := zts 29 (by rfl) rfl
set_option maxRecDepth 20000 in
theorem kp_30 : Cond.selects "ClassOfMany$Splitter" ⟨"ClassOfMany$Splitter", "waysOf", "(I[I)I"⟩ ⟨"ClassOfMany$Splitter", "waysOf", "(I[I)I"⟩ ∈ zTw := zts 30 (by rfl) rfl
set_option maxRecDepth 20000 in
theorem kp_31 : Cond.selects "ClassOfMany$Splitter" ⟨"ClassOfMany$Splitter", "isFeud", "(I)Z"⟩ ⟨"ClassOfMany$Splitter", "isFeud", "(I)Z"⟩ ∈ zTw := zts 31 (by rfl) rfl
set_option maxRecDepth 20000 in
theorem kp_32 : Cond.selects "ClassOfMany" ⟨"ClassOfMany", "payNow", "()V"⟩ ⟨"ClassOfMany", "payNow", "()V"⟩ ∈ zTw := zts 32 (by rfl) rfl
set_option maxRecDepth 20000 in
theorem kp_33 : Cond.selects "ClassOfMany$Payer" ⟨"ClassOfMany$Payer", "gather", "(LClassOfMany$Splitter;LClassOfMany$Told;LClassOfMany$Standing;)V"⟩ ⟨"ClassOfMany$Payer", "gather", "(LClassOfMany$Splitter;LClassOfMany$Told;LClassOfMany$Standing;)V"⟩ ∈ zTw := zts 33 (by rfl) rfl
set_option maxRecDepth 20000 in
theorem kp_34 : Cond.selects "ClassOfMany$Payer" yPay4 yPay4 ∈ zTw := zts 34 (by rfl) rfl
set_option maxRecDepth 20000 in
theorem kp_35 : Cond.selects "ClassOfMany$Payer" ⟨"ClassOfMany$Payer", "fillPots", "(I)V"⟩ ⟨"ClassOfMany$Payer", "fillPots", "(I)V"⟩ ∈ zTw := zts 35 (by rfl) rfl
set_option maxRecDepth 20000 in
theorem kp_36 : Cond.selects "ClassOfMany$Payer" ⟨"ClassOfMany$Payer", "weightOf", "(I)I"⟩ ⟨"ClassOfMany$Payer", "weightOf", "(I)I"⟩ ∈ zTw := zts 36 (by rfl) rfl
set_option maxRecDepth 20000 in
theorem kp_37 : Cond.selects "ClassOfMany$Payer" ⟨"ClassOfMany$Payer", "weightInAll", "()I"⟩ ⟨"ClassOfMany$Payer", "weightInAll", "()I"⟩ ∈ zTw := zts 37 (by rfl) rfl
set_option maxRecDepth 20000 in
theorem kp_38 : Cond.selects "ClassOfMany$Payer" ⟨"ClassOfMany$Payer", "payFirst", "()Z"⟩ ⟨"ClassOfMany$Payer", "payFirst", "()Z"⟩ ∈ zTw := zts 38 (by rfl) rfl
set_option maxRecDepth 20000 in
theorem kp_39 : Cond.selects "ClassOfMany$Payer" ⟨"ClassOfMany$Payer", "firstSent", "(I)I"⟩ ⟨"ClassOfMany$Payer", "firstSent", "(I)I"⟩ ∈ zTw := zts 39 (by rfl) rfl
set_option maxRecDepth 20000 in
theorem kp_40 : Cond.selects "ClassOfMany$Payer" ⟨"ClassOfMany$Payer", "give", "(III)V"⟩ ⟨"ClassOfMany$Payer", "give", "(III)V"⟩ ∈ zTw := zts 40 (by rfl) rfl
set_option maxRecDepth 20000 in
theorem kp_41 : Cond.selects "ClassOfMany$Payer" ⟨"ClassOfMany$Payer", "payFurther", "(I)Z"⟩ ⟨"ClassOfMany$Payer", "payFurther", "(I)Z"⟩ ∈ zTw := zts 41 (by rfl) rfl
set_option maxRecDepth 20000 in
theorem kp_42 : Cond.selects "ClassOfMany" ⟨"ClassOfMany", "paidIfOut", "(II)I"⟩ ⟨"ClassOfMany", "paidIfOut", "(II)I"⟩ ∈ zTw := zts 42 (by rfl) rfl
set_option maxRecDepth 20000 in
theorem kp_43 : Cond.selects "ClassOfMany" ⟨"ClassOfMany", "paidIfRule", "(II)I"⟩ ⟨"ClassOfMany", "paidIfRule", "(II)I"⟩ ∈ zTw := zts 43 (by rfl) rfl
set_option maxRecDepth 20000 in
theorem kp_44 : Cond.selects "ClassOfMany" ⟨"ClassOfMany", "isSet", "(I)Z"⟩ ⟨"ClassOfMany", "isSet", "(I)Z"⟩ ∈ zTw := zts 44 (by rfl) rfl
set_option maxRecDepth 20000 in
theorem kp_45 : Cond.selects "ClassOfMany$Payer" ⟨"ClassOfMany$Payer", "nextNet", "(I)J"⟩ ⟨"ClassOfMany$Payer", "nextNet", "(I)J"⟩ ∈ zTw := zts 45 (by rfl) rfl
set_option maxRecDepth 20000 in
theorem kp_46 : Cond.selects "ClassOfMany$Payer" ⟨"ClassOfMany$Payer", "netForPot", "(IJ)J"⟩ ⟨"ClassOfMany$Payer", "netForPot", "(IJ)J"⟩ ∈ zTw := zts 46 (by rfl) rfl
set_option maxRecDepth 20000 in
theorem kp_47 : Cond.selects "ClassOfMany$Payer" ⟨"ClassOfMany$Payer", "netForSent", "(IJ)J"⟩ ⟨"ClassOfMany$Payer", "netForSent", "(IJ)J"⟩ ∈ zTw := zts 47 (by rfl) rfl
set_option maxRecDepth 20000 in
theorem kp_48 : Cond.selects "ClassOfMany" ⟨"ClassOfMany", "fundFor", "(I)I"⟩ ⟨"ClassOfMany", "fundFor", "(I)I"⟩ ∈ zTw := zts 48 (by rfl) rfl
set_option maxRecDepth 20000 in
theorem kp_49 : Cond.selects "ClassOfMany$Resting" ⟨"ClassOfMany$Resting", "weigh", "(IILClassOfMany$Payer;)Z"⟩ ⟨"ClassOfMany$Resting", "weigh", "(IILClassOfMany$Payer;)Z"⟩ ∈ zTw := zts 49 (by rfl) rfl
set_option maxRecDepth 20000 in
theorem kp_50 : Cond.selects "ClassOfMany$Resting" ⟨"ClassOfMany$Resting", "noneComesIn", "(II)Z"⟩ ⟨"ClassOfMany$Resting", "noneComesIn", "(II)Z"⟩ ∈ zTw := zts 50 (by rfl) rfl
set_option maxRecDepth 20000 in
theorem kp_51 : Cond.selects "ClassOfMany" ⟨"ClassOfMany", "undrawnMember", "(II)I"⟩ ⟨"ClassOfMany", "undrawnMember", "(II)I"⟩ ∈ zTw := zts 51 (by rfl) rfl
set_option maxRecDepth 20000 in
theorem kp_52 : Cond.selects "ClassOfMany" ⟨"ClassOfMany", "estimateBy", "(I)I"⟩ ⟨"ClassOfMany", "estimateBy", "(I)I"⟩ ∈ zTw := zts 52 (by rfl) rfl
set_option maxRecDepth 20000 in
theorem kp_53 : Cond.selects "ClassOfMany$Page" ⟨"ClassOfMany$Page", "putByte", "(I)V"⟩ ⟨"ClassOfMany$Page", "putByte", "(I)V"⟩ ∈ zTw := zts 53 (by rfl) rfl
set_option maxRecDepth 20000 in
theorem kp_54 : Cond.selects "ClassOfMany" ⟨"ClassOfMany", "spellMember", "(I)V"⟩ ⟨"ClassOfMany", "spellMember", "(I)V"⟩ ∈ zTw := zts 54 (by rfl) rfl
set_option maxRecDepth 20000 in
theorem kp_55 : Cond.selects "ClassOfMany" ⟨"ClassOfMany", "spellConflicts", "()V"⟩ ⟨"ClassOfMany", "spellConflicts", "()V"⟩ ∈ zTw := zts 55 (by rfl) rfl
set_option maxRecDepth 20000 in
theorem kp_56 : Cond.selects "ClassOfMany" ⟨"ClassOfMany", "conflictCount", "()I"⟩ ⟨"ClassOfMany", "conflictCount", "()I"⟩ ∈ zTw := zts 56 (by rfl) rfl
set_option maxRecDepth 20000 in
theorem kp_57 : Cond.selects "ClassOfManyModel" ⟨"ClassOfManyModel", "anew", "()V"⟩ ⟨"ClassOfManyModel", "anew", "()V"⟩ ∈ zTw := zts 57 (by rfl) rfl
set_option maxRecDepth 20000 in
theorem kp_58 : Cond.selects "ClassOfManyModel" ⟨"ClassOfManyModel", "nextToken", "()V"⟩ ⟨"ClassOfManyModel", "nextToken", "()V"⟩ ∈ zTw := zts 58 (by rfl) rfl
set_option maxRecDepth 20000 in
theorem kp_59 : Cond.selects "ClassOfManyModel" ⟨"ClassOfManyModel", "isLetter", "(I)Z"⟩ ⟨"ClassOfManyModel", "isLetter", "(I)Z"⟩ ∈ zTw := zts 59 (by rfl) rfl
set_option maxRecDepth 20000 in
theorem kp_60 : Cond.selects "ClassOfManyModel" ⟨"ClassOfManyModel", "isDigit", "(I)Z"⟩ ⟨"ClassOfManyModel", "isDigit", "(I)Z"⟩ ∈ zTw := zts 60 (by rfl) rfl
set_option maxRecDepth 20000 in
theorem kp_61 : Cond.selects "ClassOfManyModel" ⟨"ClassOfManyModel", "wrong", "(I)V"⟩ ⟨"ClassOfManyModel", "wrong", "(I)V"⟩ ∈ zTw := zts 61 (by rfl) rfl
set_option maxRecDepth 20000 in
theorem kp_62 : Cond.selects "ClassOfManyModel" ⟨"ClassOfManyModel", "readLine", "()V"⟩ ⟨"ClassOfManyModel", "readLine", "()V"⟩ ∈ zTw := zts 62 (by rfl) rfl
set_option maxRecDepth 20000 in
theorem kp_63 : Cond.selects "ClassOfManyModel" ⟨"ClassOfManyModel", "isWord", "(J)Z"⟩ ⟨"ClassOfManyModel", "isWord", "(J)Z"⟩ ∈ zTw := zts 63 (by rfl) rfl
set_option maxRecDepth 20000 in
theorem kp_64 : Cond.selects "ClassOfManyModel" ⟨"ClassOfManyModel", "readOne", "(III)V"⟩ ⟨"ClassOfManyModel", "readOne", "(III)V"⟩ ∈ zTw := zts 64 (by rfl) rfl
set_option maxRecDepth 20000 in
theorem kp_65 : Cond.selects "ClassOfManyModel" ⟨"ClassOfManyModel", "once", "(I)V"⟩ ⟨"ClassOfManyModel", "once", "(I)V"⟩ ∈ zTw := zts 65 (by rfl) rfl
set_option maxRecDepth 20000 in
theorem kp_66 : Cond.selects "ClassOfManyModel" ⟨"ClassOfManyModel", "begins", "(I)V"⟩ ⟨"ClassOfManyModel", "begins", "(I)V"⟩ ∈ zTw := zts 66 (by rfl) rfl
set_option maxRecDepth 20000 in
theorem kp_67 : Cond.selects "ClassOfManyModel" ⟨"ClassOfManyModel", "number", "(II)I"⟩ ⟨"ClassOfManyModel", "number", "(II)I"⟩ ∈ zTw := zts 67 (by rfl) rfl
set_option maxRecDepth 20000 in
theorem kp_68 : Cond.selects "ClassOfManyModel" ⟨"ClassOfManyModel", "keepsNumber", "(I)V"⟩ ⟨"ClassOfManyModel", "keepsNumber", "(I)V"⟩ ∈ zTw := zts 68 (by rfl) rfl
set_option maxRecDepth 20000 in
theorem kp_69 : Cond.selects "ClassOfManyModel" ⟨"ClassOfManyModel", "closes", "()V"⟩ ⟨"ClassOfManyModel", "closes", "()V"⟩ ∈ zTw := zts 69 (by rfl) rfl
set_option maxRecDepth 20000 in
theorem kp_70 : Cond.selects "ClassOfManyModel" ⟨"ClassOfManyModel", "readPeriod", "()V"⟩ ⟨"ClassOfManyModel", "readPeriod", "()V"⟩ ∈ zTw := zts 70 (by rfl) rfl
set_option maxRecDepth 20000 in
theorem kp_71 : Cond.selects "ClassOfManyModel" ⟨"ClassOfManyModel", "readChannel", "()V"⟩ ⟨"ClassOfManyModel", "readChannel", "()V"⟩ ∈ zTw := zts 71 (by rfl) rfl
set_option maxRecDepth 20000 in
theorem kp_72 : Cond.selects "ClassOfManyModel" ⟨"ClassOfManyModel", "readMember", "()V"⟩ ⟨"ClassOfManyModel", "readMember", "()V"⟩ ∈ zTw := zts 72 (by rfl) rfl
set_option maxRecDepth 20000 in
theorem kp_73 : Cond.selects "ClassOfManyModel" ⟨"ClassOfManyModel", "readConflict", "()V"⟩ ⟨"ClassOfManyModel", "readConflict", "()V"⟩ ∈ zTw := zts 73 (by rfl) rfl
set_option maxRecDepth 20000 in
theorem kp_74 : Cond.selects "ClassOfManyModel" ⟨"ClassOfManyModel", "quarrels", "(II)V"⟩ ⟨"ClassOfManyModel", "quarrels", "(II)V"⟩ ∈ zTw := zts 74 (by rfl) rfl
set_option maxRecDepth 20000 in
theorem kp_75 : Cond.selects "ClassOfManyModel" ⟨"ClassOfManyModel", "firstOrder", "()I"⟩ ⟨"ClassOfManyModel", "firstOrder", "()I"⟩ ∈ zTw := zts 75 (by rfl) rfl
set_option maxRecDepth 20000 in
theorem kp_76 : Cond.selects "ClassOfManyModel" ⟨"ClassOfManyModel", "put", "(II)I"⟩ ⟨"ClassOfManyModel", "put", "(II)I"⟩ ∈ zTw := zts 76 (by rfl) rfl
set_option maxRecDepth 20000 in
theorem kp_77 : Cond.selects "ClassOfManyModel" ⟨"ClassOfManyModel", "remembers", "()V"⟩ ⟨"ClassOfManyModel", "remembers", "()V"⟩ ∈ zTw := zts 77 (by rfl) rfl
set_option maxRecDepth 20000 in
theorem kp_78 : Cond.selects "ClassOfManyModel" ⟨"ClassOfManyModel", "isOrder", "(I)Z"⟩ ⟨"ClassOfManyModel", "isOrder", "(I)Z"⟩ ∈ zTw := zts 78 (by rfl) rfl
set_option maxRecDepth 20000 in
theorem kp_79 : Cond.selects "ClassOfManyModel" ⟨"ClassOfManyModel", "orders", "()I"⟩ ⟨"ClassOfManyModel", "orders", "()I"⟩ ∈ zTw := zts 79 (by rfl) rfl
set_option maxRecDepth 20000 in
theorem kp_80 : Cond.selects "ClassOfManyModel" ⟨"ClassOfManyModel", "channelAt", "(II)I"⟩ ⟨"ClassOfManyModel", "channelAt", "(II)I"⟩ ∈ zTw := zts 80 (by rfl) rfl
set_option maxRecDepth 20000 in
theorem kp_81 : Cond.selects "ClassOfManyModel" ⟨"ClassOfManyModel", "costs", "()I"⟩ ⟨"ClassOfManyModel", "costs", "()I"⟩ ∈ zTw := zts 81 (by rfl) rfl
set_option maxRecDepth 20000 in
theorem kp_82 : Cond.selects "ClassOfManyModel" ⟨"ClassOfManyModel", "costsFor", "(I)I"⟩ ⟨"ClassOfManyModel", "costsFor", "(I)I"⟩ ∈ zTw := zts 82 (by rfl) rfl
set_option maxRecDepth 20000 in
theorem kp_83 : Cond.selects "ClassOfManyModel" ⟨"ClassOfManyModel", "isMember", "(I)Z"⟩ ⟨"ClassOfManyModel", "isMember", "(I)Z"⟩ ∈ zTw := zts 83 (by rfl) rfl
set_option maxRecDepth 20000 in
theorem kp_84 : Cond.selects "ClassOfManyModel" ⟨"ClassOfManyModel", "isReached", "(I)Z"⟩ ⟨"ClassOfManyModel", "isReached", "(I)Z"⟩ ∈ zTw := zts 84 (by rfl) rfl
set_option maxRecDepth 20000 in
theorem kp_85 : Cond.selects "ClassOfManyModel" ⟨"ClassOfManyModel", "reachedOn", "(I)I"⟩ ⟨"ClassOfManyModel", "reachedOn", "(I)I"⟩ ∈ zTw := zts 85 (by rfl) rfl
set_option maxRecDepth 20000 in
theorem kp_86 : Cond.selects "ClassOfManyModel" ⟨"ClassOfManyModel", "waitFor", "(II)I"⟩ ⟨"ClassOfManyModel", "waitFor", "(II)I"⟩ ∈ zTw := zts 86 (by rfl) rfl
set_option maxRecDepth 20000 in
theorem kp_87 : Cond.selects "ClassOfManyModel" ⟨"ClassOfManyModel", "all", "()I"⟩ ⟨"ClassOfManyModel", "all", "()I"⟩ ∈ zTw := zts 87 (by rfl) rfl
set_option maxRecDepth 20000 in
theorem kp_88 : Cond.selects "ClassOfManyModel" ⟨"ClassOfManyModel", "claims", "(I)I"⟩ ⟨"ClassOfManyModel", "claims", "(I)I"⟩ ∈ zTw := zts 88 (by rfl) rfl
set_option maxRecDepth 20000 in
theorem kp_89 : Cond.selects "ClassOfManyModel" ⟨"ClassOfManyModel", "claim", "(I)I"⟩ ⟨"ClassOfManyModel", "claim", "(I)I"⟩ ∈ zTw := zts 89 (by rfl) rfl
set_option maxRecDepth 20000 in
theorem kp_90 : Cond.selects "ClassOfManyModel" ⟨"ClassOfManyModel", "areTwo", "(II)Z"⟩ ⟨"ClassOfManyModel", "areTwo", "(II)Z"⟩ ∈ zTw := zts 90 (by rfl) rfl
set_option maxRecDepth 20000 in
theorem kp_91 : Cond.selects "ClassOfManyModel" ⟨"ClassOfManyModel", "isOn", "(II)Z"⟩ ⟨"ClassOfManyModel", "isOn", "(II)Z"⟩ ∈ zTw := zts 91 (by rfl) rfl
set_option maxRecDepth 20000 in
theorem kp_92 : Cond.selects "ClassOfManyModel" ⟨"ClassOfManyModel", "inNow", "()I"⟩ ⟨"ClassOfManyModel", "inNow", "()I"⟩ ∈ zTw := zts 92 (by rfl) rfl
set_option maxRecDepth 20000 in
theorem kp_93 : Cond.selects "ClassOfManyModel" ⟨"ClassOfManyModel", "divides", "(I)V"⟩ ⟨"ClassOfManyModel", "divides", "(I)V"⟩ ∈ zTw := zts 93 (by rfl) rfl
set_option maxRecDepth 20000 in
theorem kp_94 : Cond.selects "ClassOfManyModel" ⟨"ClassOfManyModel", "fits", "(II)Z"⟩ ⟨"ClassOfManyModel", "fits", "(II)Z"⟩ ∈ zTw := zts 94 (by rfl) rfl
set_option maxRecDepth 20000 in
theorem kp_95 : Cond.selects "ClassOfManyModel" ⟨"ClassOfManyModel", "isFree", "(II)Z"⟩ ⟨"ClassOfManyModel", "isFree", "(II)Z"⟩ ∈ zTw := zts 95 (by rfl) rfl
set_option maxRecDepth 20000 in
theorem kp_96 : Cond.selects "ClassOfManyModel" ⟨"ClassOfManyModel", "partBits", "(I)I"⟩ ⟨"ClassOfManyModel", "partBits", "(I)I"⟩ ∈ zTw := zts 96 (by rfl) rfl
set_option maxRecDepth 20000 in
theorem kp_97 : Cond.selects "ClassOfManyModel" ⟨"ClassOfManyModel", "stands", "(I)Z"⟩ ⟨"ClassOfManyModel", "stands", "(I)Z"⟩ ∈ zTw := zts 97 (by rfl) rfl
set_option maxRecDepth 20000 in
theorem kp_98 : Cond.selects "ClassOfManyModel" ⟨"ClassOfManyModel", "isSoon", "(II)Z"⟩ ⟨"ClassOfManyModel", "isSoon", "(II)Z"⟩ ∈ zTw := zts 98 (by rfl) rfl
set_option maxRecDepth 20000 in
theorem kp_99 : Cond.selects "ClassOfManyModel" ⟨"ClassOfManyModel", "paysNow", "()V"⟩ ⟨"ClassOfManyModel", "paysNow", "()V"⟩ ∈ zTw := zts 99 (by rfl) rfl
set_option maxRecDepth 20000 in
theorem kp_100 : Cond.selects "ClassOfManyModel" ⟨"ClassOfManyModel", "setsNow", "()V"⟩ ⟨"ClassOfManyModel", "setsNow", "()V"⟩ ∈ zTw := zts 100 (by rfl) rfl
set_option maxRecDepth 20000 in
theorem kp_101 : Cond.selects "ClassOfManyModel" ⟨"ClassOfManyModel", "countedOf", "(I)I"⟩ ⟨"ClassOfManyModel", "countedOf", "(I)I"⟩ ∈ zTw := zts 101 (by rfl) rfl
set_option maxRecDepth 20000 in
theorem kp_102 : Cond.selects "ClassOfManyModel" ⟨"ClassOfManyModel", "pays", "()V"⟩ ⟨"ClassOfManyModel", "pays", "()V"⟩ ∈ zTw := zts 102 (by rfl) rfl
set_option maxRecDepth 20000 in
theorem kp_103 : Cond.selects "ClassOfManyModel" ⟨"ClassOfManyModel", "net", "()I"⟩ ⟨"ClassOfManyModel", "net", "()I"⟩ ∈ zTw := zts 103 (by rfl) rfl
set_option maxRecDepth 20000 in
theorem kp_104 : Cond.selects "ClassOfManyModel" ⟨"ClassOfManyModel", "potOf", "(I)I"⟩ ⟨"ClassOfManyModel", "potOf", "(I)I"⟩ ∈ zTw := zts 104 (by rfl) rfl
set_option maxRecDepth 20000 in
theorem kp_105 : Cond.selects "ClassOfManyModel" ⟨"ClassOfManyModel", "countedIn", "(I)I"⟩ ⟨"ClassOfManyModel", "countedIn", "(I)I"⟩ ∈ zTw := zts 105 (by rfl) rfl
set_option maxRecDepth 20000 in
theorem kp_106 : Cond.selects "ClassOfManyModel" ⟨"ClassOfManyModel", "lackedByAll", "()I"⟩ ⟨"ClassOfManyModel", "lackedByAll", "()I"⟩ ∈ zTw := zts 106 (by rfl) rfl
set_option maxRecDepth 20000 in
theorem kp_107 : Cond.selects "ClassOfManyModel" ⟨"ClassOfManyModel", "sent", "(IJI)I"⟩ ⟨"ClassOfManyModel", "sent", "(IJI)I"⟩ ∈ zTw := zts 107 (by rfl) rfl
set_option maxRecDepth 20000 in
theorem kp_108 : Cond.selects "ClassOfManyModel" ⟨"ClassOfManyModel", "paidAll", "(I)I"⟩ ⟨"ClassOfManyModel", "paidAll", "(I)I"⟩ ∈ zTw := zts 108 (by rfl) rfl
set_option maxRecDepth 20000 in
theorem kp_109 : Cond.selects "ClassOfManyModel" ⟨"ClassOfManyModel", "paysWithout", "(I)V"⟩ ⟨"ClassOfManyModel", "paysWithout", "(I)V"⟩ ∈ zTw := zts 109 (by rfl) rfl
set_option maxRecDepth 20000 in
theorem kp_110 : Cond.selects "ClassOfManyModel" ⟨"ClassOfManyModel", "paidBy", "(II)I"⟩ ⟨"ClassOfManyModel", "paidBy", "(II)I"⟩ ∈ zTw := zts 110 (by rfl) rfl
set_option maxRecDepth 20000 in
theorem kp_111 : Cond.selects "ClassOfManyModel" ⟨"ClassOfManyModel", "isSet", "(I)Z"⟩ ⟨"ClassOfManyModel", "isSet", "(I)Z"⟩ ∈ zTw := zts 111 (by rfl) rfl
set_option maxRecDepth 20000 in
theorem kp_112 : Cond.selects "ClassOfManyModel" ⟨"ClassOfManyModel", "estimated", "(I)I"⟩ ⟨"ClassOfManyModel", "estimated", "(I)I"⟩ ∈ zTw := zts 112 (by rfl) rfl
set_option maxRecDepth 20000 in
theorem kp_113 : Cond.selects "ClassOfManyModel" ⟨"ClassOfManyModel", "offBy", "(I)I"⟩ ⟨"ClassOfManyModel", "offBy", "(I)I"⟩ ∈ zTw := zts 113 (by rfl) rfl
set_option maxRecDepth 20000 in
theorem kp_114 : Cond.selects "ClassOfManyModel" ⟨"ClassOfManyModel", "spellsOne", "(JI)V"⟩ ⟨"ClassOfManyModel", "spellsOne", "(JI)V"⟩ ∈ zTw := zts 114 (by rfl) rfl
set_option maxRecDepth 20000 in
theorem kp_115 : Cond.selects "ClassOfManyModel" ⟨"ClassOfManyModel", "spells", "(J)V"⟩ ⟨"ClassOfManyModel", "spells", "(J)V"⟩ ∈ zTw := zts 115 (by rfl) rfl
set_option maxRecDepth 20000 in
theorem kp_116 : Cond.selects "ClassOfManyModel" ⟨"ClassOfManyModel", "spellsByte", "(I)V"⟩ ⟨"ClassOfManyModel", "spellsByte", "(I)V"⟩ ∈ zTw := zts 116 (by rfl) rfl
set_option maxRecDepth 20000 in
theorem kp_117 : Cond.selects "ClassOfManyModel" ⟨"ClassOfManyModel", "spellsNumber", "(I)V"⟩ ⟨"ClassOfManyModel", "spellsNumber", "(I)V"⟩ ∈ zTw := zts 117 (by rfl) rfl
set_option maxRecDepth 20000 in
theorem kp_118 : Cond.selects "ClassOfManyModel" ⟨"ClassOfManyModel", "spellsTwo", "(JII)V"⟩ ⟨"ClassOfManyModel", "spellsTwo", "(JII)V"⟩ ∈ zTw := zts 118 (by rfl) rfl
set_option maxRecDepth 20000 in
theorem kp_119 : Cond.selects "ClassOfManyModel" ⟨"ClassOfManyModel", "spellsMember", "(I)V"⟩ ⟨"ClassOfManyModel", "spellsMember", "(I)V"⟩ ∈ zTw := zts 119 (by rfl) rfl
set_option maxRecDepth 20000 in
theorem kp_120 : Cond.selects "ClassOfManyModel" ⟨"ClassOfManyModel", "spelled", "(I)I"⟩ ⟨"ClassOfManyModel", "spelled", "(I)I"⟩ ∈ zTw := zts 120 (by rfl) rfl
set_option maxRecDepth 20000 in
theorem kp_121 : Cond.selects "ClassOfManyModel" ⟨"ClassOfManyModel", "conflicts", "()I"⟩ ⟨"ClassOfManyModel", "conflicts", "()I"⟩ ∈ zTw := zts 121 (by rfl) rfl
