/-- the words that go on from a state to the next: every method has these, and its own code -/
def tqW : List Cond := lw_tbl.filter goodWord
theorem tq_in {w : Cond} (i : Nat) (h : lw_tbl[i]? = some w) (g : goodWord w = true) : w ∈ tqW := List.mem_filter.mpr ⟨List.mem_of_getElem? h, g⟩
theorem tq_up {w : Cond} (h : w ∈ tqW) : w ∈ lw_tbl := (List.mem_filter.mp h).1
theorem tq_sub {ws : List Cond} (h : ∀ w ∈ ws, w ∈ lw_tbl) (g : ws.all goodWord = true) : ∀ w ∈ ws, w ∈ tqW := fun w hw => List.mem_filter.mpr ⟨h w hw, List.all_eq_true.mp g w hw⟩
theorem tq_ok {w : Cond} (h : w ∈ tqW) : w ∈ tqW ∧ ((w.onTables && w.keeps) = true ∨ ∃ ty, w = .arrayClass ty) := ⟨h, good_of_word (List.mem_filter.mp h).2⟩
theorem tq_gG {y : MethodName} {c : ByteArray} {mL : Nat} {r : Option FieldType} (h5 : Cond.code y c mL r ∈ tqW) : GoodIn tqW (Cond.code y c mL r :: tqW) := fun w hw => (List.mem_cons.mp hw).elim (fun e => e ▸ tq_ok h5) (fun h => tq_ok h)
theorem tq_gV {own C : String} {idx : Nat} {y : MethodName} {c : ByteArray} {mL : Nat} {r : Option FieldType} (h1 : Cond.methodLink own idx y ∈ tqW) (h2 : Cond.instanceMethod y ∈ tqW) (h3 : Cond.selects C y y ∈ tqW) (h4 : Cond.initialized C ∈ tqW) (h5 : Cond.code y c mL r ∈ tqW) : GoodIn tqW (wsV own idx C y (Cond.code y c mL r :: tqW)) := by
  intro w hw
  unfold wsV at hw
  rcases List.mem_append.mp hw with h | h
  · simp only [List.mem_cons, List.not_mem_nil, or_false] at h
    rcases h with rfl | rfl | rfl | rfl
    · exact tq_ok h1
    · exact tq_ok h2
    · exact tq_ok h3
    · exact tq_ok h4
  · exact tq_gG h5 w h
theorem tq_gS {own : String} {idx : Nat} {y : MethodName} {c : ByteArray} {mL : Nat} {r : Option FieldType} (h1 : Cond.methodLink own idx y ∈ tqW) (h2 : Cond.static y ∈ tqW) (h3 : Cond.initialized y.cls ∈ tqW) (h5 : Cond.code y c mL r ∈ tqW) : GoodIn tqW (va_wsS own idx y (Cond.code y c mL r :: tqW)) := by
  intro w hw
  unfold va_wsS at hw
  rcases List.mem_append.mp hw with h | h
  · simp only [List.mem_cons, List.not_mem_nil, or_false] at h
    rcases h with rfl | rfl | rfl
    · exact tq_ok h1
    · exact tq_ok h2
    · exact tq_ok h3
  · exact tq_gG h5 w h
theorem tqt_0 : Cond.selects RX2 yX2_one yX2_one ∈ tqW := tq_in 0 (by decide +kernel) rfl
theorem tqt_1 : Cond.selects RX2 yX2_setProduct yX2_setProduct ∈ tqW := tq_in 1 (by decide +kernel) rfl
theorem tqt_2 : Cond.selects RX0 yX0_readBody yX0_readBody ∈ tqW := tq_in 2 (by decide +kernel) rfl
theorem tqt_3 : Cond.selects RX1 yX1_setBits yX1_setBits ∈ tqW := tq_in 3 (by decide +kernel) rfl
theorem tqt_4 : Cond.selects RX2 yX2_roundedSum yX2_roundedSum ∈ tqW := tq_in 4 (by decide +kernel) rfl
theorem tqt_32 : Cond.initialized RX2 ∈ tqW := tq_in 32 (by decide +kernel) rfl
theorem tqt_33 : Cond.initialized RX1 ∈ tqW := tq_in 33 (by decide +kernel) rfl
theorem tqt_34 : Cond.initialized RX0 ∈ tqW := tq_in 34 (by decide +kernel) rfl
theorem tqt_36 : Cond.initialized "java/lang/Math" ∈ tqW := tq_in 36 (by decide +kernel) rfl
theorem tqt_37 : Cond.initialized RJ6 ∈ tqW := tq_in 37 (by decide +kernel) rfl
theorem tqt_38 : Cond.initialized RJ13 ∈ tqW := tq_in 38 (by decide +kernel) rfl
theorem tqt_47 : Cond.methodLink RX2 7 yX2_sizeOfWidth ∈ tqW := tq_in 47 (by decide +kernel) rfl
theorem tqt_48 : Cond.static yX2_sizeOfWidth ∈ tqW := tq_in 48 (by decide +kernel) rfl
theorem tqt_49 : Cond.code yX2_sizeOfWidth cX2_sizeOfWidth 1 (some .int) ∈ tqW := tq_in 49 (by rfl) rfl
theorem tqt_57 : Cond.fieldLink RX1 7 "TaperedQuire$Sum" "placeOfOne" "I" ∈ tqW := tq_in 57 (by decide +kernel) rfl
theorem tqt_58 : Cond.fieldLink RX2 146 "TaperedQuire$Sum" "placeOfOne" "I" ∈ tqW := tq_in 58 (by decide +kernel) rfl
theorem tqt_59 : Cond.fieldLink RX1 13 "TaperedQuire$Sum" "words" "[J" ∈ tqW := tq_in 59 (by decide +kernel) rfl
theorem tqt_60 : Cond.fieldLink RX2 123 "TaperedQuire$Sum" "words" "[J" ∈ tqW := tq_in 60 (by decide +kernel) rfl
theorem tqt_73 : Cond.fieldLink RX0 17 "TaperedQuire$Operand" "not" "Z" ∈ tqW := tq_in 73 (by decide +kernel) rfl
theorem tqt_74 : Cond.fieldLink RX2 55 "TaperedQuire$Operand" "not" "Z" ∈ tqW := tq_in 74 (by decide +kernel) rfl
theorem tqt_75 : Cond.fieldLink RX1 28 "TaperedQuire$Operand" "not" "Z" ∈ tqW := tq_in 75 (by decide +kernel) rfl
theorem tqt_76 : Cond.fieldLink RX0 23 "TaperedQuire$Operand" "negative" "Z" ∈ tqW := tq_in 76 (by decide +kernel) rfl
theorem tqt_77 : Cond.fieldLink RX2 75 "TaperedQuire$Operand" "negative" "Z" ∈ tqW := tq_in 77 (by decide +kernel) rfl
theorem tqt_78 : Cond.fieldLink RX1 48 "TaperedQuire$Operand" "negative" "Z" ∈ tqW := tq_in 78 (by decide +kernel) rfl
theorem tqt_79 : Cond.fieldLink RX0 26 "TaperedQuire$Operand" "magnitude" "J" ∈ tqW := tq_in 79 (by decide +kernel) rfl
theorem tqt_80 : Cond.fieldLink RX2 59 "TaperedQuire$Operand" "magnitude" "J" ∈ tqW := tq_in 80 (by decide +kernel) rfl
theorem tqt_81 : Cond.fieldLink RX1 37 "TaperedQuire$Operand" "magnitude" "J" ∈ tqW := tq_in 81 (by decide +kernel) rfl
theorem tqt_82 : Cond.fieldLink RX0 30 "TaperedQuire$Operand" "exponent" "I" ∈ tqW := tq_in 82 (by decide +kernel) rfl
theorem tqt_83 : Cond.fieldLink RX2 72 "TaperedQuire$Operand" "exponent" "I" ∈ tqW := tq_in 83 (by decide +kernel) rfl
theorem tqt_84 : Cond.fieldLink RX1 41 "TaperedQuire$Operand" "exponent" "I" ∈ tqW := tq_in 84 (by decide +kernel) rfl
theorem tqt_94 : Cond.fieldLink RX2 13 "TaperedQuire" "size" "I" ∈ tqW := tq_in 94 (by decide +kernel) rfl
theorem tqt_95 : Cond.fieldLink RX2 22 "TaperedQuire" "sums" "[LTaperedQuire$Sum;" ∈ tqW := tq_in 95 (by decide +kernel) rfl
theorem tqt_96 : Cond.fieldLink RX2 26 "TaperedQuire" "exact" "LTaperedQuire$Sum;" ∈ tqW := tq_in 96 (by decide +kernel) rfl
theorem tqt_97 : Cond.fieldLink RX2 30 "TaperedQuire" "term" "LTaperedQuire$Sum;" ∈ tqW := tq_in 97 (by decide +kernel) rfl
theorem tqt_98 : Cond.fieldLink RX2 36 "TaperedQuire" "left" "LTaperedQuire$Operand;" ∈ tqW := tq_in 98 (by decide +kernel) rfl
theorem tqt_99 : Cond.fieldLink RX2 40 "TaperedQuire" "right" "LTaperedQuire$Operand;" ∈ tqW := tq_in 99 (by decide +kernel) rfl
theorem tqt_121 : Cond.methodLink RX2 43 yX2_one ∈ tqW := tq_in 121 (by decide +kernel) rfl
theorem tqt_123 : Cond.instanceMethod yX2_one ∈ tqW := tq_in 123 (by decide +kernel) rfl
theorem tqt_124 : Cond.code yX2_one cX2_one 1 (some .int) ∈ tqW := tq_in 124 (by rfl) rfl
theorem tqt_125 : Cond.methodLink RX2 47 yX2_fused ∈ tqW := tq_in 125 (by decide +kernel) rfl
theorem tqt_126 : Cond.instanceMethod yX2_fused ∈ tqW := tq_in 126 (by decide +kernel) rfl
theorem tqt_127 : Cond.selects RX2 yX2_fused yX2_fused ∈ tqW := tq_in 127 (by decide +kernel) rfl
theorem tqt_128 : Cond.code yX2_fused cX2_fused 4 (some .int) ∈ tqW := tq_in 128 (by rfl) rfl
theorem tqt_129 : Cond.methodLink RX2 86 yX2_setProduct ∈ tqW := tq_in 129 (by decide +kernel) rfl
theorem tqt_131 : Cond.instanceMethod yX2_setProduct ∈ tqW := tq_in 131 (by decide +kernel) rfl
theorem tqt_132 : Cond.code yX2_setProduct cX2_setProduct 4 none ∈ tqW := tq_in 132 (by rfl) rfl
theorem tqt_133 : Cond.methodLink RX2 51 yX0_read ∈ tqW := tq_in 133 (by decide +kernel) rfl
theorem tqt_134 : Cond.instanceMethod yX0_read ∈ tqW := tq_in 134 (by decide +kernel) rfl
theorem tqt_135 : Cond.selects RX0 yX0_read yX0_read ∈ tqW := tq_in 135 (by decide +kernel) rfl
theorem tqt_136 : Cond.code yX0_read cX0_read 4 none ∈ tqW := tq_in 136 (by rfl) rfl
theorem tqt_138 : Cond.static yX2_patternOf ∈ tqW := tq_in 138 (by decide +kernel) rfl
theorem tqt_139 : Cond.code yX2_patternOf cX2_patternOf 2 (some .int) ∈ tqW := tq_in 139 (by rfl) rfl
theorem tqt_141 : Cond.static yX2_notOf ∈ tqW := tq_in 141 (by decide +kernel) rfl
theorem tqt_142 : Cond.code yX2_notOf cX2_notOf 1 (some .int) ∈ tqW := tq_in 142 (by rfl) rfl
theorem tqt_143 : Cond.methodLink RX0 34 Lib.Math.abs.name ∈ tqW := tq_in 143 (by decide +kernel) rfl
theorem tqt_144 : Cond.static Lib.Math.abs.name ∈ tqW := tq_in 144 (by decide +kernel) rfl
theorem tqt_145 : Cond.code Lib.Math.abs.name Lib.Math.abs.code 1 (some .int) ∈ tqW := tq_in 145 (by rfl) rfl
theorem tqt_146 : Cond.methodLink RX0 39 yX0_readBody ∈ tqW := tq_in 146 (by decide +kernel) rfl
theorem tqt_148 : Cond.instanceMethod yX0_readBody ∈ tqW := tq_in 148 (by decide +kernel) rfl
theorem tqt_149 : Cond.code yX0_readBody cX0_readBody 12 none ∈ tqW := tq_in 149 (by rfl) rfl
theorem tqt_150 : Cond.methodLink RX0 43 yJ6_numberOfLeadingZeros_0f7a4 ∈ tqW := tq_in 150 (by decide +kernel) rfl
theorem tqt_151 : Cond.static yJ6_numberOfLeadingZeros_0f7a4 ∈ tqW := tq_in 151 (by decide +kernel) rfl
theorem tqt_152 : Cond.code yJ6_numberOfLeadingZeros_0f7a4 cJ6_numberOfLeadingZeros_0f7a4 2 (some .int) ∈ tqW := tq_in 152 (by rfl) rfl
theorem tqt_153 : Cond.constant RJ6 264 (65536) ∈ tqW := tq_in 153 (by decide +kernel) rfl
theorem tqt_154 : Cond.constantLong RX0 48 (4294967295) ∈ tqW := tq_in 154 (by decide +kernel) rfl
theorem tqt_155 : Cond.constantLong RX0 50 (4294967296) ∈ tqW := tq_in 155 (by decide +kernel) rfl
theorem tqt_156 : Cond.methodLink RX0 52 yJ13_numberOfTrailingZeros_95d88 ∈ tqW := tq_in 156 (by decide +kernel) rfl
theorem tqt_157 : Cond.static yJ13_numberOfTrailingZeros_95d88 ∈ tqW := tq_in 157 (by decide +kernel) rfl
theorem tqt_158 : Cond.code yJ13_numberOfTrailingZeros_95d88 cJ13_numberOfTrailingZeros_95d88 3 (some .int) ∈ tqW := tq_in 158 (by rfl) rfl
theorem tqt_159 : Cond.methodLink RJ13 311 yJ6_numberOfTrailingZeros_0f7a4 ∈ tqW := tq_in 159 (by decide +kernel) rfl
theorem tqt_160 : Cond.static yJ6_numberOfTrailingZeros_0f7a4 ∈ tqW := tq_in 160 (by decide +kernel) rfl
theorem tqt_161 : Cond.code yJ6_numberOfTrailingZeros_0f7a4 cJ6_numberOfTrailingZeros_0f7a4 2 (some .int) ∈ tqW := tq_in 161 (by rfl) rfl
theorem tqt_162 : Cond.methodLink RX2 127 yX1_setProduct ∈ tqW := tq_in 162 (by decide +kernel) rfl
theorem tqt_163 : Cond.instanceMethod yX1_setProduct ∈ tqW := tq_in 163 (by decide +kernel) rfl
theorem tqt_164 : Cond.selects RX1 yX1_setProduct yX1_setProduct ∈ tqW := tq_in 164 (by decide +kernel) rfl
theorem tqt_165 : Cond.code yX1_setProduct cX1_setProduct 3 none ∈ tqW := tq_in 165 (by rfl) rfl
theorem tqt_166 : Cond.methodLink RX1 34 yX1_setNot ∈ tqW := tq_in 166 (by decide +kernel) rfl
theorem tqt_167 : Cond.instanceMethod yX1_setNot ∈ tqW := tq_in 167 (by decide +kernel) rfl
theorem tqt_168 : Cond.selects RX1 yX1_setNot yX1_setNot ∈ tqW := tq_in 168 (by decide +kernel) rfl
theorem tqt_169 : Cond.code yX1_setNot cX1_setNot 1 none ∈ tqW := tq_in 169 (by rfl) rfl
theorem tqt_170 : Cond.methodLink RX1 17 yX1_setZero ∈ tqW := tq_in 170 (by decide +kernel) rfl
theorem tqt_171 : Cond.instanceMethod yX1_setZero ∈ tqW := tq_in 171 (by decide +kernel) rfl
theorem tqt_172 : Cond.selects RX1 yX1_setZero yX1_setZero ∈ tqW := tq_in 172 (by decide +kernel) rfl
theorem tqt_173 : Cond.code yX1_setZero cX1_setZero 2 none ∈ tqW := tq_in 173 (by rfl) rfl
theorem tqt_174 : Cond.constantLong RX1 22 (-9223372036854775808) ∈ tqW := tq_in 174 (by decide +kernel) rfl
theorem tqt_175 : Cond.methodLink RX1 44 yX1_setBits ∈ tqW := tq_in 175 (by decide +kernel) rfl
theorem tqt_177 : Cond.instanceMethod yX1_setBits ∈ tqW := tq_in 177 (by decide +kernel) rfl
theorem tqt_178 : Cond.code yX1_setBits cX1_setBits 6 none ∈ tqW := tq_in 178 (by rfl) rfl
theorem tqt_179 : Cond.methodLink RX1 51 yX1_flip ∈ tqW := tq_in 179 (by decide +kernel) rfl
theorem tqt_180 : Cond.instanceMethod yX1_flip ∈ tqW := tq_in 180 (by decide +kernel) rfl
theorem tqt_181 : Cond.selects RX1 yX1_flip yX1_flip ∈ tqW := tq_in 181 (by decide +kernel) rfl
theorem tqt_182 : Cond.code yX1_flip cX1_flip 4 none ∈ tqW := tq_in 182 (by rfl) rfl
theorem tqt_183 : Cond.constantLong RX1 54 (-1) ∈ tqW := tq_in 183 (by decide +kernel) rfl
theorem tqt_184 : Cond.methodLink RX2 90 yX1_include ∈ tqW := tq_in 184 (by decide +kernel) rfl
theorem tqt_185 : Cond.instanceMethod yX1_include ∈ tqW := tq_in 185 (by decide +kernel) rfl
theorem tqt_186 : Cond.selects RX1 yX1_include yX1_include ∈ tqW := tq_in 186 (by decide +kernel) rfl
theorem tqt_187 : Cond.code yX1_include cX1_include 11 none ∈ tqW := tq_in 187 (by rfl) rfl
theorem tqt_188 : Cond.methodLink RX1 56 yX1_isNot ∈ tqW := tq_in 188 (by decide +kernel) rfl
theorem tqt_189 : Cond.instanceMethod yX1_isNot ∈ tqW := tq_in 189 (by decide +kernel) rfl
theorem tqt_190 : Cond.selects RX1 yX1_isNot yX1_isNot ∈ tqW := tq_in 190 (by decide +kernel) rfl
theorem tqt_191 : Cond.code yX1_isNot cX1_isNot 2 (some .boolean) ∈ tqW := tq_in 191 (by rfl) rfl
theorem tqt_192 : Cond.methodLink RX1 24 yX1_hasBitsBelow ∈ tqW := tq_in 192 (by decide +kernel) rfl
theorem tqt_193 : Cond.instanceMethod yX1_hasBitsBelow ∈ tqW := tq_in 193 (by decide +kernel) rfl
theorem tqt_194 : Cond.selects RX1 yX1_hasBitsBelow yX1_hasBitsBelow ∈ tqW := tq_in 194 (by decide +kernel) rfl
theorem tqt_195 : Cond.code yX1_hasBitsBelow cX1_hasBitsBelow 4 (some .boolean) ∈ tqW := tq_in 195 (by rfl) rfl
theorem tqt_196 : Cond.methodLink RX1 64 Lib.Math.min.name ∈ tqW := tq_in 196 (by decide +kernel) rfl
theorem tqt_197 : Cond.static Lib.Math.min.name ∈ tqW := tq_in 197 (by decide +kernel) rfl
theorem tqt_198 : Cond.code Lib.Math.min.name Lib.Math.min.code 2 (some .int) ∈ tqW := tq_in 198 (by rfl) rfl
theorem tqt_199 : Cond.methodLink RX2 94 yX2_roundedSum ∈ tqW := tq_in 199 (by decide +kernel) rfl
theorem tqt_201 : Cond.instanceMethod yX2_roundedSum ∈ tqW := tq_in 201 (by decide +kernel) rfl
theorem tqt_202 : Cond.code yX2_roundedSum cX2_roundedSum 5 (some .int) ∈ tqW := tq_in 202 (by rfl) rfl
theorem tqt_203 : Cond.methodLink RX2 130 yX1_isNot ∈ tqW := tq_in 203 (by decide +kernel) rfl
theorem tqt_204 : Cond.methodLink RX2 63 yX2_notOf ∈ tqW := tq_in 204 (by decide +kernel) rfl
theorem tqt_205 : Cond.methodLink RX2 134 yX1_isNegative ∈ tqW := tq_in 205 (by decide +kernel) rfl
theorem tqt_206 : Cond.instanceMethod yX1_isNegative ∈ tqW := tq_in 206 (by decide +kernel) rfl
theorem tqt_207 : Cond.selects RX1 yX1_isNegative yX1_isNegative ∈ tqW := tq_in 207 (by decide +kernel) rfl
theorem tqt_208 : Cond.code yX1_isNegative cX1_isNegative 1 (some .boolean) ∈ tqW := tq_in 208 (by rfl) rfl
theorem tqt_209 : Cond.methodLink RX2 137 yX1_copy ∈ tqW := tq_in 209 (by decide +kernel) rfl
theorem tqt_210 : Cond.instanceMethod yX1_copy ∈ tqW := tq_in 210 (by decide +kernel) rfl
theorem tqt_211 : Cond.selects RX1 yX1_copy yX1_copy ∈ tqW := tq_in 211 (by decide +kernel) rfl
theorem tqt_212 : Cond.code yX1_copy cX1_copy 3 none ∈ tqW := tq_in 212 (by rfl) rfl
theorem tqt_213 : Cond.methodLink RX2 120 yX1_flip ∈ tqW := tq_in 213 (by decide +kernel) rfl
theorem tqt_214 : Cond.methodLink RX2 140 yX1_topBit ∈ tqW := tq_in 214 (by decide +kernel) rfl
theorem tqt_215 : Cond.instanceMethod yX1_topBit ∈ tqW := tq_in 215 (by decide +kernel) rfl
theorem tqt_216 : Cond.selects RX1 yX1_topBit yX1_topBit ∈ tqW := tq_in 216 (by decide +kernel) rfl
theorem tqt_217 : Cond.code yX1_topBit cX1_topBit 2 (some .int) ∈ tqW := tq_in 217 (by rfl) rfl
theorem tqt_218 : Cond.methodLink RX1 60 yJ13_numberOfLeadingZeros_95d88 ∈ tqW := tq_in 218 (by decide +kernel) rfl
theorem tqt_219 : Cond.static yJ13_numberOfLeadingZeros_95d88 ∈ tqW := tq_in 219 (by decide +kernel) rfl
theorem tqt_220 : Cond.code yJ13_numberOfLeadingZeros_95d88 cJ13_numberOfLeadingZeros_95d88 3 (some .int) ∈ tqW := tq_in 220 (by rfl) rfl
theorem tqt_221 : Cond.methodLink RJ13 308 yJ6_numberOfLeadingZeros_0f7a4 ∈ tqW := tq_in 221 (by decide +kernel) rfl
theorem tqt_222 : Cond.methodLink RX2 143 yX1_hasBitsBelow ∈ tqW := tq_in 222 (by decide +kernel) rfl
theorem tqt_223 : Cond.methodLink RX2 149 yX1_leadingBits ∈ tqW := tq_in 223 (by decide +kernel) rfl
theorem tqt_224 : Cond.instanceMethod yX1_leadingBits ∈ tqW := tq_in 224 (by decide +kernel) rfl
theorem tqt_225 : Cond.selects RX1 yX1_leadingBits yX1_leadingBits ∈ tqW := tq_in 225 (by decide +kernel) rfl
theorem tqt_226 : Cond.code yX1_leadingBits cX1_leadingBits 6 (some .long) ∈ tqW := tq_in 226 (by rfl) rfl
theorem tqt_227 : Cond.methodLink RX2 153 yX2_signedPattern ∈ tqW := tq_in 227 (by decide +kernel) rfl
theorem tqt_228 : Cond.static yX2_signedPattern ∈ tqW := tq_in 228 (by decide +kernel) rfl
theorem tqt_229 : Cond.code yX2_signedPattern cX2_signedPattern 7 (some .int) ∈ tqW := tq_in 229 (by rfl) rfl
theorem tqt_230 : Cond.methodLink RX2 157 yX2_positivePattern ∈ tqW := tq_in 230 (by decide +kernel) rfl
theorem tqt_231 : Cond.static yX2_positivePattern ∈ tqW := tq_in 231 (by decide +kernel) rfl
theorem tqt_232 : Cond.code yX2_positivePattern cX2_positivePattern 19 (some .int) ∈ tqW := tq_in 232 (by rfl) rfl
theorem tqt_233 : Cond.constantLong RX2 161 (9223372036854775807) ∈ tqW := tq_in 233 (by decide +kernel) rfl
theorem tqt_246 : Cond.methodLink RX2 66 yJ13_numberOfLeadingZeros_95d88 ∈ tqW := tq_in 246 (by decide +kernel) rfl
theorem tqt_247 : Cond.methodLink RX2 78 yX2_rounded ∈ tqW := tq_in 247 (by decide +kernel) rfl
theorem tqt_248 : Cond.static yX2_rounded ∈ tqW := tq_in 248 (by decide +kernel) rfl
theorem tqt_249 : Cond.code yX2_rounded cX2_rounded 7 (some .int) ∈ tqW := tq_in 249 (by rfl) rfl
theorem tqt_254 : Cond.methodLink RX2 82 yX2_floorRoot ∈ tqW := tq_in 254 (by decide +kernel) rfl
theorem tqt_255 : Cond.static yX2_floorRoot ∈ tqW := tq_in 255 (by decide +kernel) rfl
theorem tqt_256 : Cond.code yX2_floorRoot cX2_floorRoot 7 (some .long) ∈ tqW := tq_in 256 (by rfl) rfl
theorem tqt_262 : Cond.methodLink RX2 98 yX2_patternOf ∈ tqW := tq_in 262 (by decide +kernel) rfl
theorem tqt_263 : Cond.methodLink RX2 102 yX2_nearestWhole ∈ tqW := tq_in 263 (by decide +kernel) rfl
theorem tqt_264 : Cond.static yX2_nearestWhole ∈ tqW := tq_in 264 (by decide +kernel) rfl
theorem tqt_265 : Cond.code yX2_nearestWhole cX2_nearestWhole 9 (some .long) ∈ tqW := tq_in 265 (by rfl) rfl
theorem tqt_274 : Cond.constantLong RX2 106 (-9223372036854775808) ∈ tqW := tq_in 274 (by decide +kernel) rfl
theorem tqt_275 : Cond.methodLink RX2 108 Lib.MathLoose.abs_long.x ∈ tqW := tq_in 275 (by decide +kernel) rfl
theorem tqt_276 : Cond.static Lib.MathLoose.abs_long.x ∈ tqW := tq_in 276 (by decide +kernel) rfl
theorem tqt_277 : Cond.code Lib.MathLoose.abs_long.x Lib.MathLoose.abs_long.code 2 (some .long) ∈ tqW := tq_in 277 (by rfl) rfl
theorem tqt_290 : Cond.methodLink RX2 113 yX2_isSum ∈ tqW := tq_in 290 (by decide +kernel) rfl
theorem tqt_291 : Cond.static yX2_isSum ∈ tqW := tq_in 291 (by decide +kernel) rfl
theorem tqt_292 : Cond.code yX2_isSum cX2_isSum 1 (some .boolean) ∈ tqW := tq_in 292 (by rfl) rfl
theorem tqt_293 : Cond.methodLink RX2 117 yX1_setZero ∈ tqW := tq_in 293 (by decide +kernel) rfl
theorem tqinX0 : ∀ w ∈ wsX00, w ∈ tqW := tq_sub (by decide +kernel) (by decide +kernel)
theorem tqinX1 : ∀ w ∈ wsX10, w ∈ tqW := tq_sub (by decide +kernel) (by decide +kernel)
theorem tqinX2 : ∀ w ∈ wsX20, w ∈ tqW := tq_sub (by decide +kernel) (by decide +kernel)
theorem tqinM : ∀ w ∈ wsM0, w ∈ tqW := tq_sub (by decide +kernel) (by decide +kernel)
abbrev tqCl : List vw_C := [(RX0, TX0, 4), (RX1, TX1, 2), (RX2, TX2, 6), (RM, TM, 4)]
def tqN (U : State) : Prop := va_Nw (Cond.methodLinkNest RX2 35 yX0_init RX2) U ∧ va_Nw (Cond.methodLinkNest RX0 7 yX2_patternOf RX2) U ∧ va_Nw (Cond.methodLinkNest RX0 13 yX2_notOf RX2) U
theorem tqN_same {u U : State} (h : u.vm = U.vm) (q : tqN u) : tqN U := ⟨va_Nw.same rfl h q.1, va_Nw.same rfl h q.2.1, va_Nw.same rfl h q.2.2⟩
theorem tqN_warm {s U : State} (hW : s.WarmedH U.vm) (q : tqN s) : tqN U := ⟨va_Nw.warmM hW q.1, va_Nw.warmM hW q.2.1, va_Nw.warmM hW q.2.2⟩
abbrev tqw_J6_numberOfLeadingZeros_0f7a4 : List Cond := Cond.code yJ6_numberOfLeadingZeros_0f7a4 cJ6_numberOfLeadingZeros_0f7a4 2 (some .int) :: tqW
abbrev tqw_J6_numberOfTrailingZeros_0f7a4 : List Cond := Cond.code yJ6_numberOfTrailingZeros_0f7a4 cJ6_numberOfTrailingZeros_0f7a4 2 (some .int) :: tqW
abbrev tqw_J13_numberOfLeadingZeros_95d88 : List Cond := Cond.code yJ13_numberOfLeadingZeros_95d88 cJ13_numberOfLeadingZeros_95d88 3 (some .int) :: tqW
abbrev tqw_J13_numberOfTrailingZeros_95d88 : List Cond := Cond.code yJ13_numberOfTrailingZeros_95d88 cJ13_numberOfTrailingZeros_95d88 3 (some .int) :: tqW
abbrev tqw_X2_sizeOfWidth : List Cond := Cond.code yX2_sizeOfWidth cX2_sizeOfWidth 1 (some .int) :: tqW
abbrev tqw_X2_patternOf : List Cond := Cond.code yX2_patternOf cX2_patternOf 2 (some .int) :: tqW
abbrev tqw_X2_notOf : List Cond := Cond.code yX2_notOf cX2_notOf 1 (some .int) :: tqW
abbrev tqw_X2_isSum : List Cond := Cond.code yX2_isSum cX2_isSum 1 (some .boolean) :: tqW
abbrev tqw_X2_floorRoot : List Cond := Cond.code yX2_floorRoot cX2_floorRoot 7 (some .long) :: tqW
abbrev tqw_X2_positivePattern : List Cond := Cond.code yX2_positivePattern cX2_positivePattern 19 (some .int) :: tqW
abbrev tqw_X2_signedPattern : List Cond := Cond.code yX2_signedPattern cX2_signedPattern 7 (some .int) :: tqW
abbrev tqw_X2_rounded : List Cond := Cond.code yX2_rounded cX2_rounded 7 (some .int) :: tqW
abbrev tqw_X2_nearestWhole : List Cond := Cond.code yX2_nearestWhole cX2_nearestWhole 9 (some .long) :: tqW
abbrev tqw_X0_readBody : List Cond := Cond.code yX0_readBody cX0_readBody 12 none :: tqW
abbrev tqw_X0_read : List Cond := Cond.code yX0_read cX0_read 4 none :: tqW
abbrev tqw_X1_setZero : List Cond := Cond.code yX1_setZero cX1_setZero 2 none :: tqW
abbrev tqw_X1_setNot : List Cond := Cond.code yX1_setNot cX1_setNot 1 none :: tqW
abbrev tqw_X1_hasBitsBelow : List Cond := Cond.code yX1_hasBitsBelow cX1_hasBitsBelow 4 (some .boolean) :: tqW
abbrev tqw_X1_isNot : List Cond := Cond.code yX1_isNot cX1_isNot 2 (some .boolean) :: tqW
abbrev tqw_X1_isNegative : List Cond := Cond.code yX1_isNegative cX1_isNegative 1 (some .boolean) :: tqW
abbrev tqw_X1_flip : List Cond := Cond.code yX1_flip cX1_flip 4 none :: tqW
abbrev tqw_X1_topBit : List Cond := Cond.code yX1_topBit cX1_topBit 2 (some .int) :: tqW
abbrev tqw_X1_leadingBits : List Cond := Cond.code yX1_leadingBits cX1_leadingBits 6 (some .long) :: tqW
abbrev tqw_X1_setBits : List Cond := Cond.code yX1_setBits cX1_setBits 6 none :: tqW
abbrev tqw_X1_copy : List Cond := Cond.code yX1_copy cX1_copy 3 none :: tqW
abbrev tqw_X1_include : List Cond := Cond.code yX1_include cX1_include 11 none :: tqW
abbrev tqw_X1_setProduct : List Cond := Cond.code yX1_setProduct cX1_setProduct 3 none :: tqW
abbrev tqw_X2_bits : List Cond := Cond.code yX2_bits cX2_bits 1 (some .int) :: tqW
abbrev tqw_X2_one : List Cond := Cond.code yX2_one cX2_one 1 (some .int) :: tqW
abbrev tqw_X2_next : List Cond := Cond.code yX2_next cX2_next 2 (some .int) :: tqW
abbrev tqw_X2_compare : List Cond := Cond.code yX2_compare cX2_compare 5 (some .int) :: tqW
abbrev tqw_X2_fromLong : List Cond := Cond.code yX2_fromLong cX2_fromLong 3 (some .int) :: tqW
abbrev tqw_X2_whole : List Cond := Cond.code yX2_whole cX2_whole 2 (some .int) :: tqW
abbrev tqw_X2_toLong : List Cond := Cond.code yX2_toLong cX2_toLong 5 (some .long) :: tqW
abbrev tqw_X2_convert : List Cond := Cond.code yX2_convert cX2_convert 4 (some .int) :: tqW
abbrev tqw_X2_root : List Cond := Cond.code yX2_root cX2_root 8 (some .int) :: tqW
abbrev tqw_X2_divide : List Cond := Cond.code yX2_divide cX2_divide 10 (some .int) :: tqW
abbrev tqw_X2_setProduct : List Cond := Cond.code yX2_setProduct cX2_setProduct 4 none :: tqW
abbrev tqw_X2_roundedSum : List Cond := Cond.code yX2_roundedSum cX2_roundedSum 5 (some .int) :: tqW
abbrev tqw_X2_fused : List Cond := Cond.code yX2_fused cX2_fused 4 (some .int) :: tqW
abbrev tqw_X2_add : List Cond := Cond.code yX2_add cX2_add 3 (some .int) :: tqW
abbrev tqw_X2_subtract : List Cond := Cond.code yX2_subtract cX2_subtract 3 (some .int) :: tqW
abbrev tqw_X2_multiply : List Cond := Cond.code yX2_multiply cX2_multiply 3 (some .int) :: tqW
abbrev tqw_X2_clear : List Cond := Cond.code yX2_clear cX2_clear 2 (some .boolean) :: tqW
abbrev tqw_X2_merge : List Cond := Cond.code yX2_merge cX2_merge 2 (some .boolean) :: tqW
abbrev tqw_X2_negate : List Cond := Cond.code yX2_negate cX2_negate 2 (some .boolean) :: tqW
abbrev tqw_X2_word : List Cond := Cond.code yX2_word cX2_word 3 (some .long) :: tqW
abbrev tqw_X2_total : List Cond := Cond.code yX2_total cX2_total 2 (some .int) :: tqW
abbrev tqw_X2_collect : List Cond := Cond.code yX2_collect cX2_collect 5 (some .boolean) :: tqW
