/-- the words that go on from a state to the next: every method has these, and its own code -/
def tqW : List Cond := lw_tbl.filter goodWord
theorem tq_in {w : Cond} (i : Nat) (h : lw_tbl[i]? = some w) (g : goodWord w = true) : w ∈ tqW := List.mem_filter.mpr ⟨List.mem_of_getElem? h, g⟩
theorem tq_up {w : Cond} (h : w ∈ tqW) : w ∈ lw_tbl := (List.mem_filter.mp h).1
theorem tq_sub {ws : List Cond} (h : ∀ w ∈ ws, w ∈ lw_tbl) (g : ws.all goodWord = true) : ∀ w ∈ ws, w ∈ tqW := fun w hw => List.mem_filter.mpr ⟨h w hw, List.all_eq_true.mp g w hw⟩
theorem tq_ok {w : Cond} (h : w ∈ tqW) : w ∈ tqW ∧ ((w.onTables && w.keeps) = true ∨ ∃ ty, w = .arrayClass ty) := ⟨h, good_of_word (List.mem_filter.mp h).2⟩
theorem tq_gG {y : MethodName} {c : ByteArray} {mL : Nat} {r : Option FieldType} (h5 : Cond.code y c mL r ∈ tqW) : GoodIn tqW (Cond.code y c mL r :: tqW) := fun w hw => (List.mem_cons.mp hw).elim (fun e => e ▸ tq_ok h5) (fun h => tq_ok h)
theorem tq_gV {own C : String} {idx : Nat} {y : MethodName} {c : ByteArray} {mL : Nat} {r : Option FieldType} (h1 : Cond.methodLink own idx y ∈ tqW) (h2 : Cond.instanceMethod y ∈ tqW) (h3 : Cond.selects C y y ∈ tqW) (h4 : Cond.initialized C ∈ tqW) (h5 : Cond.code y c mL r ∈ tqW) : GoodIn tqW (wsV own idx C y (Cond.code y c mL r :: tqW)) := by
  intro w hw
  unfold wsV at hw
  rcases List.mem_append.mp hw with h | h
  · simp only [List.mem_cons, List.not_mem_nil, or_false] at h
    rcases h with rfl | rfl | rfl | rfl
    · exact tq_ok h1
    · exact tq_ok h2
    · exact tq_ok h3
    · exact tq_ok h4
  · exact tq_gG h5 w h
theorem tq_gS {own : String} {idx : Nat} {y : MethodName} {c : ByteArray} {mL : Nat} {r : Option FieldType} (h1 : Cond.methodLink own idx y ∈ tqW) (h2 : Cond.static y ∈ tqW) (h3 : Cond.initialized y.cls ∈ tqW) (h5 : Cond.code y c mL r ∈ tqW) : GoodIn tqW (va_wsS own idx y (Cond.code y c mL r :: tqW)) := by
  intro w hw
  unfold va_wsS at hw
  rcases List.mem_append.mp hw with h | h
  · simp only [List.mem_cons, List.not_mem_nil, or_false] at h
    rcases h with rfl | rfl | rfl
    · exact tq_ok h1
    · exact tq_ok h2
    · exact tq_ok h3
  · exact tq_gG h5 w h
theorem tqt_0 : Cond.selects RX2 yX2_one yX2_one ∈ tqW := tq_in 0 (by decide +kernel) rfl
theorem tqt_1 : Cond.selects RX2 yX2_setProduct yX2_setProduct ∈ tqW := tq_in 1 (by decide +kernel) rfl
theorem tqt_2 : Cond.selects RX0 yX0_readBody yX0_readBody ∈ tqW := tq_in 2 (by decide +kernel) rfl
theorem tqt_3 : Cond.selects RX1 yX1_setBits yX1_setBits ∈ tqW := tq_in 3 (by decide +kernel) rfl
theorem tqt_4 : Cond.selects RX2 yX2_roundedSum yX2_roundedSum ∈ tqW := tq_in 4 (by decide +kernel) rfl
theorem tqt_5 : Cond.selects RM yM_together yM_together ∈ tqW := tq_in 5 (by decide +kernel) rfl
theorem tqt_6 : Cond.selects RM yM_isNot yM_isNot ∈ tqW := tq_in 6 (by decide +kernel) rfl
theorem tqt_7 : Cond.selects RM yM_pattern yM_pattern ∈ tqW := tq_in 7 (by decide +kernel) rfl
theorem tqt_8 : Cond.selects RM yM_load yM_load ∈ tqW := tq_in 8 (by decide +kernel) rfl
theorem tqt_9 : Cond.selects RM yM_zero yM_zero ∈ tqW := tq_in 9 (by decide +kernel) rfl
theorem tqt_10 : Cond.selects RM yM_value yM_value ∈ tqW := tq_in 10 (by decide +kernel) rfl
theorem tqt_11 : Cond.selects RM yM_setLong yM_setLong ∈ tqW := tq_in 11 (by decide +kernel) rfl
theorem tqt_12 : Cond.selects RM yM_raise yM_raise ∈ tqW := tq_in 12 (by decide +kernel) rfl
theorem tqt_13 : Cond.selects RM yM_lower yM_lower ∈ tqW := tq_in 13 (by decide +kernel) rfl
theorem tqt_14 : Cond.selects RM yM_negative yM_negative ∈ tqW := tq_in 14 (by decide +kernel) rfl
theorem tqt_15 : Cond.selects RM yM_joined yM_joined ∈ tqW := tq_in 15 (by decide +kernel) rfl
theorem tqt_16 : Cond.selects RM yM_plus yM_plus ∈ tqW := tq_in 16 (by decide +kernel) rfl
theorem tqt_17 : Cond.selects RM yM_order yM_order ∈ tqW := tq_in 17 (by decide +kernel) rfl
theorem tqt_18 : Cond.selects RM yM_apart yM_apart ∈ tqW := tq_in 18 (by decide +kernel) rfl
theorem tqt_19 : Cond.selects RM yM_factor yM_factor ∈ tqW := tq_in 19 (by decide +kernel) rfl
theorem tqt_20 : Cond.selects RM yM_rounded yM_rounded ∈ tqW := tq_in 20 (by decide +kernel) rfl
theorem tqt_21 : Cond.selects RM yM_isZero yM_isZero ∈ tqW := tq_in 21 (by decide +kernel) rfl
theorem tqt_22 : Cond.selects RM yM_against yM_against ∈ tqW := tq_in 22 (by decide +kernel) rfl
theorem tqt_23 : Cond.selects RM yM_times yM_times ∈ tqW := tq_in 23 (by decide +kernel) rfl
theorem tqt_24 : Cond.selects RM yM_nearest yM_nearest ∈ tqW := tq_in 24 (by decide +kernel) rfl
theorem tqt_25 : Cond.selects RM yM_bit yM_bit ∈ tqW := tq_in 25 (by decide +kernel) rfl
theorem tqt_26 : Cond.selects RM yM_lose yM_lose ∈ tqW := tq_in 26 (by decide +kernel) rfl
theorem tqt_27 : Cond.selects RM yM_lost yM_lost ∈ tqW := tq_in 27 (by decide +kernel) rfl
theorem tqt_28 : Cond.selects RM yM_pour yM_pour ∈ tqW := tq_in 28 (by decide +kernel) rfl
theorem tqt_29 : Cond.selects RM yM_draw yM_draw ∈ tqW := tq_in 29 (by decide +kernel) rfl
theorem tqt_30 : Cond.selects RM yM_move yM_move ∈ tqW := tq_in 30 (by decide +kernel) rfl
theorem tqt_31 : Cond.initialized RL ∈ tqW := tq_in 31 (by decide +kernel) rfl
theorem tqt_32 : Cond.initialized RX2 ∈ tqW := tq_in 32 (by decide +kernel) rfl
theorem tqt_33 : Cond.initialized RX1 ∈ tqW := tq_in 33 (by decide +kernel) rfl
theorem tqt_34 : Cond.initialized RX0 ∈ tqW := tq_in 34 (by decide +kernel) rfl
theorem tqt_35 : Cond.initialized RM ∈ tqW := tq_in 35 (by decide +kernel) rfl
theorem tqt_36 : Cond.initialized "java/lang/Math" ∈ tqW := tq_in 36 (by decide +kernel) rfl
theorem tqt_37 : Cond.initialized RJ6 ∈ tqW := tq_in 37 (by decide +kernel) rfl
theorem tqt_38 : Cond.initialized RJ13 ∈ tqW := tq_in 38 (by decide +kernel) rfl
theorem tqt_39 : Cond.classLink RL 7 RX2 ∈ tqW := tq_in 39 (by decide +kernel) rfl
theorem tqt_40 : Cond.instantiable RX2 6 ∈ tqW := tq_in 40 (by decide +kernel) rfl
theorem tqt_41 : Cond.methodLink RL 15 yX2_init ∈ tqW := tq_in 41 (by decide +kernel) rfl
theorem tqt_42 : Cond.instanceMethod yX2_init ∈ tqW := tq_in 42 (by decide +kernel) rfl
set_option maxRecDepth 100000 in
theorem tqt_43 : Cond.code yX2_init cX2_init 2 none ∈ tqW := tq_in 43 (by rfl) rfl
theorem tqt_44 : Cond.methodLink RX2 1 objectInit ∈ tqW := tq_in 44 (by decide +kernel) rfl
theorem tqt_45 : Cond.instanceMethod objectInit ∈ tqW := tq_in 45 (by decide +kernel) rfl
set_option maxRecDepth 100000 in
theorem tqt_46 : Cond.code objectInit ⟨#[0xb1]⟩ 1 none ∈ tqW := tq_in 46 (by rfl) rfl
theorem tqt_47 : Cond.methodLink RX2 7 yX2_sizeOfWidth ∈ tqW := tq_in 47 (by decide +kernel) rfl
theorem tqt_48 : Cond.static yX2_sizeOfWidth ∈ tqW := tq_in 48 (by decide +kernel) rfl
set_option maxRecDepth 100000 in
theorem tqt_49 : Cond.code yX2_sizeOfWidth cX2_sizeOfWidth 1 (some .int) ∈ tqW := tq_in 49 (by rfl) rfl
theorem tqt_50 : Cond.classLink RX2 17 RX1 ∈ tqW := tq_in 50 (by decide +kernel) rfl
theorem tqt_52 : Cond.instantiable RX1 2 ∈ tqW := tq_in 52 (by decide +kernel) rfl
theorem tqt_53 : Cond.methodLink RX2 19 yX1_init ∈ tqW := tq_in 53 (by decide +kernel) rfl
theorem tqt_54 : Cond.instanceMethod yX1_init ∈ tqW := tq_in 54 (by decide +kernel) rfl
set_option maxRecDepth 100000 in
theorem tqt_55 : Cond.code yX1_init cX1_init 2 none ∈ tqW := tq_in 55 (by rfl) rfl
theorem tqt_56 : Cond.methodLink RX1 1 objectInit ∈ tqW := tq_in 56 (by decide +kernel) rfl
theorem tqt_57 : Cond.fieldLink RX1 7 "TaperedQuire$Sum" "placeOfOne" "I" ∈ tqW := tq_in 57 (by decide +kernel) rfl
theorem tqt_58 : Cond.fieldLink RX2 146 "TaperedQuire$Sum" "placeOfOne" "I" ∈ tqW := tq_in 58 (by decide +kernel) rfl
theorem tqt_59 : Cond.fieldLink RX1 13 "TaperedQuire$Sum" "words" "[J" ∈ tqW := tq_in 59 (by decide +kernel) rfl
theorem tqt_60 : Cond.fieldLink RX2 123 "TaperedQuire$Sum" "words" "[J" ∈ tqW := tq_in 60 (by decide +kernel) rfl
theorem tqt_66 : Cond.arrayClass .long ∈ tqW := tq_in 66 (by decide +kernel) rfl
theorem tqt_67 : Cond.classLink RX2 33 RX0 ∈ tqW := tq_in 67 (by decide +kernel) rfl
theorem tqt_68 : Cond.instantiable RX0 4 ∈ tqW := tq_in 68 (by decide +kernel) rfl
theorem tqt_70 : Cond.instanceMethod yX0_init ∈ tqW := tq_in 70 (by decide +kernel) rfl
set_option maxRecDepth 100000 in
theorem tqt_71 : Cond.code yX0_init cX0_init 1 none ∈ tqW := tq_in 71 (by rfl) rfl
theorem tqt_72 : Cond.methodLink RX0 1 objectInit ∈ tqW := tq_in 72 (by decide +kernel) rfl
theorem tqt_73 : Cond.fieldLink RX0 17 "TaperedQuire$Operand" "not" "Z" ∈ tqW := tq_in 73 (by decide +kernel) rfl
theorem tqt_74 : Cond.fieldLink RX2 55 "TaperedQuire$Operand" "not" "Z" ∈ tqW := tq_in 74 (by decide +kernel) rfl
theorem tqt_75 : Cond.fieldLink RX1 28 "TaperedQuire$Operand" "not" "Z" ∈ tqW := tq_in 75 (by decide +kernel) rfl
theorem tqt_76 : Cond.fieldLink RX0 23 "TaperedQuire$Operand" "negative" "Z" ∈ tqW := tq_in 76 (by decide +kernel) rfl
theorem tqt_77 : Cond.fieldLink RX2 75 "TaperedQuire$Operand" "negative" "Z" ∈ tqW := tq_in 77 (by decide +kernel) rfl
theorem tqt_78 : Cond.fieldLink RX1 48 "TaperedQuire$Operand" "negative" "Z" ∈ tqW := tq_in 78 (by decide +kernel) rfl
theorem tqt_79 : Cond.fieldLink RX0 26 "TaperedQuire$Operand" "magnitude" "J" ∈ tqW := tq_in 79 (by decide +kernel) rfl
theorem tqt_80 : Cond.fieldLink RX2 59 "TaperedQuire$Operand" "magnitude" "J" ∈ tqW := tq_in 80 (by decide +kernel) rfl
theorem tqt_81 : Cond.fieldLink RX1 37 "TaperedQuire$Operand" "magnitude" "J" ∈ tqW := tq_in 81 (by decide +kernel) rfl
theorem tqt_82 : Cond.fieldLink RX0 30 "TaperedQuire$Operand" "exponent" "I" ∈ tqW := tq_in 82 (by decide +kernel) rfl
theorem tqt_83 : Cond.fieldLink RX2 72 "TaperedQuire$Operand" "exponent" "I" ∈ tqW := tq_in 83 (by decide +kernel) rfl
theorem tqt_84 : Cond.fieldLink RX1 41 "TaperedQuire$Operand" "exponent" "I" ∈ tqW := tq_in 84 (by decide +kernel) rfl
theorem tqt_94 : Cond.fieldLink RX2 13 "TaperedQuire" "size" "I" ∈ tqW := tq_in 94 (by decide +kernel) rfl
theorem tqt_95 : Cond.fieldLink RX2 22 "TaperedQuire" "sums" "[LTaperedQuire$Sum;" ∈ tqW := tq_in 95 (by decide +kernel) rfl
theorem tqt_96 : Cond.fieldLink RX2 26 "TaperedQuire" "exact" "LTaperedQuire$Sum;" ∈ tqW := tq_in 96 (by decide +kernel) rfl
theorem tqt_97 : Cond.fieldLink RX2 30 "TaperedQuire" "term" "LTaperedQuire$Sum;" ∈ tqW := tq_in 97 (by decide +kernel) rfl
theorem tqt_98 : Cond.fieldLink RX2 36 "TaperedQuire" "left" "LTaperedQuire$Operand;" ∈ tqW := tq_in 98 (by decide +kernel) rfl
theorem tqt_99 : Cond.fieldLink RX2 40 "TaperedQuire" "right" "LTaperedQuire$Operand;" ∈ tqW := tq_in 99 (by decide +kernel) rfl
theorem tqt_113 : Cond.methodLink RL 21 yX2_bits ∈ tqW := tq_in 113 (by decide +kernel) rfl
theorem tqt_114 : Cond.instanceMethod yX2_bits ∈ tqW := tq_in 114 (by decide +kernel) rfl
theorem tqt_115 : Cond.selects RX2 yX2_bits yX2_bits ∈ tqW := tq_in 115 (by decide +kernel) rfl
set_option maxRecDepth 100000 in
theorem tqt_116 : Cond.code yX2_bits cX2_bits 1 (some .int) ∈ tqW := tq_in 116 (by rfl) rfl
theorem tqt_117 : Cond.methodLink RL 26 yX2_add ∈ tqW := tq_in 117 (by decide +kernel) rfl
theorem tqt_118 : Cond.instanceMethod yX2_add ∈ tqW := tq_in 118 (by decide +kernel) rfl
theorem tqt_119 : Cond.selects RX2 yX2_add yX2_add ∈ tqW := tq_in 119 (by decide +kernel) rfl
set_option maxRecDepth 100000 in
theorem tqt_120 : Cond.code yX2_add cX2_add 3 (some .int) ∈ tqW := tq_in 120 (by rfl) rfl
theorem tqt_121 : Cond.methodLink RX2 43 yX2_one ∈ tqW := tq_in 121 (by decide +kernel) rfl
theorem tqt_123 : Cond.instanceMethod yX2_one ∈ tqW := tq_in 123 (by decide +kernel) rfl
set_option maxRecDepth 100000 in
theorem tqt_124 : Cond.code yX2_one cX2_one 1 (some .int) ∈ tqW := tq_in 124 (by rfl) rfl
theorem tqt_125 : Cond.methodLink RX2 47 yX2_fused ∈ tqW := tq_in 125 (by decide +kernel) rfl
theorem tqt_126 : Cond.instanceMethod yX2_fused ∈ tqW := tq_in 126 (by decide +kernel) rfl
theorem tqt_127 : Cond.selects RX2 yX2_fused yX2_fused ∈ tqW := tq_in 127 (by decide +kernel) rfl
set_option maxRecDepth 100000 in
theorem tqt_128 : Cond.code yX2_fused cX2_fused 4 (some .int) ∈ tqW := tq_in 128 (by rfl) rfl
theorem tqt_129 : Cond.methodLink RX2 86 yX2_setProduct ∈ tqW := tq_in 129 (by decide +kernel) rfl
theorem tqt_131 : Cond.instanceMethod yX2_setProduct ∈ tqW := tq_in 131 (by decide +kernel) rfl
set_option maxRecDepth 100000 in
theorem tqt_132 : Cond.code yX2_setProduct cX2_setProduct 4 none ∈ tqW := tq_in 132 (by rfl) rfl
theorem tqt_133 : Cond.methodLink RX2 51 yX0_read ∈ tqW := tq_in 133 (by decide +kernel) rfl
theorem tqt_134 : Cond.instanceMethod yX0_read ∈ tqW := tq_in 134 (by decide +kernel) rfl
theorem tqt_135 : Cond.selects RX0 yX0_read yX0_read ∈ tqW := tq_in 135 (by decide +kernel) rfl
set_option maxRecDepth 100000 in
theorem tqt_136 : Cond.code yX0_read cX0_read 4 none ∈ tqW := tq_in 136 (by rfl) rfl
theorem tqt_138 : Cond.static yX2_patternOf ∈ tqW := tq_in 138 (by decide +kernel) rfl
set_option maxRecDepth 100000 in
theorem tqt_139 : Cond.code yX2_patternOf cX2_patternOf 2 (some .int) ∈ tqW := tq_in 139 (by rfl) rfl
theorem tqt_141 : Cond.static yX2_notOf ∈ tqW := tq_in 141 (by decide +kernel) rfl
set_option maxRecDepth 100000 in
theorem tqt_142 : Cond.code yX2_notOf cX2_notOf 1 (some .int) ∈ tqW := tq_in 142 (by rfl) rfl
theorem tqt_143 : Cond.methodLink RX0 34 Lib.Math.abs.name ∈ tqW := tq_in 143 (by decide +kernel) rfl
theorem tqt_144 : Cond.static Lib.Math.abs.name ∈ tqW := tq_in 144 (by decide +kernel) rfl
set_option maxRecDepth 100000 in
theorem tqt_145 : Cond.code Lib.Math.abs.name Lib.Math.abs.code 1 (some .int) ∈ tqW := tq_in 145 (by rfl) rfl
theorem tqt_146 : Cond.methodLink RX0 39 yX0_readBody ∈ tqW := tq_in 146 (by decide +kernel) rfl
theorem tqt_148 : Cond.instanceMethod yX0_readBody ∈ tqW := tq_in 148 (by decide +kernel) rfl
set_option maxRecDepth 100000 in
theorem tqt_149 : Cond.code yX0_readBody cX0_readBody 12 none ∈ tqW := tq_in 149 (by rfl) rfl
theorem tqt_150 : Cond.methodLink RX0 43 yJ6_numberOfLeadingZeros_0f7a4 ∈ tqW := tq_in 150 (by decide +kernel) rfl
theorem tqt_151 : Cond.static yJ6_numberOfLeadingZeros_0f7a4 ∈ tqW := tq_in 151 (by decide +kernel) rfl
set_option maxRecDepth 100000 in
theorem tqt_152 : Cond.code yJ6_numberOfLeadingZeros_0f7a4 cJ6_numberOfLeadingZeros_0f7a4 2 (some .int) ∈ tqW := tq_in 152 (by rfl) rfl
theorem tqt_153 : Cond.constant RJ6 264 (65536) ∈ tqW := tq_in 153 (by decide +kernel) rfl
theorem tqt_154 : Cond.constantLong RX0 48 (4294967295) ∈ tqW := tq_in 154 (by decide +kernel) rfl
theorem tqt_155 : Cond.constantLong RX0 50 (4294967296) ∈ tqW := tq_in 155 (by decide +kernel) rfl
theorem tqt_156 : Cond.methodLink RX0 52 yJ13_numberOfTrailingZeros_95d88 ∈ tqW := tq_in 156 (by decide +kernel) rfl
theorem tqt_157 : Cond.static yJ13_numberOfTrailingZeros_95d88 ∈ tqW := tq_in 157 (by decide +kernel) rfl
set_option maxRecDepth 100000 in
theorem tqt_158 : Cond.code yJ13_numberOfTrailingZeros_95d88 cJ13_numberOfTrailingZeros_95d88 3 (some .int) ∈ tqW := tq_in 158 (by rfl) rfl
theorem tqt_159 : Cond.methodLink RJ13 311 yJ6_numberOfTrailingZeros_0f7a4 ∈ tqW := tq_in 159 (by decide +kernel) rfl
theorem tqt_160 : Cond.static yJ6_numberOfTrailingZeros_0f7a4 ∈ tqW := tq_in 160 (by decide +kernel) rfl
set_option maxRecDepth 100000 in
theorem tqt_161 : Cond.code yJ6_numberOfTrailingZeros_0f7a4 cJ6_numberOfTrailingZeros_0f7a4 2 (some .int) ∈ tqW := tq_in 161 (by rfl) rfl
theorem tqt_162 : Cond.methodLink RX2 127 yX1_setProduct ∈ tqW := tq_in 162 (by decide +kernel) rfl
theorem tqt_163 : Cond.instanceMethod yX1_setProduct ∈ tqW := tq_in 163 (by decide +kernel) rfl
theorem tqt_164 : Cond.selects RX1 yX1_setProduct yX1_setProduct ∈ tqW := tq_in 164 (by decide +kernel) rfl
set_option maxRecDepth 100000 in
theorem tqt_165 : Cond.code yX1_setProduct cX1_setProduct 3 none ∈ tqW := tq_in 165 (by rfl) rfl
theorem tqt_166 : Cond.methodLink RX1 34 yX1_setNot ∈ tqW := tq_in 166 (by decide +kernel) rfl
theorem tqt_167 : Cond.instanceMethod yX1_setNot ∈ tqW := tq_in 167 (by decide +kernel) rfl
theorem tqt_168 : Cond.selects RX1 yX1_setNot yX1_setNot ∈ tqW := tq_in 168 (by decide +kernel) rfl
set_option maxRecDepth 100000 in
theorem tqt_169 : Cond.code yX1_setNot cX1_setNot 1 none ∈ tqW := tq_in 169 (by rfl) rfl
theorem tqt_170 : Cond.methodLink RX1 17 yX1_setZero ∈ tqW := tq_in 170 (by decide +kernel) rfl
theorem tqt_171 : Cond.instanceMethod yX1_setZero ∈ tqW := tq_in 171 (by decide +kernel) rfl
theorem tqt_172 : Cond.selects RX1 yX1_setZero yX1_setZero ∈ tqW := tq_in 172 (by decide +kernel) rfl
set_option maxRecDepth 100000 in
theorem tqt_173 : Cond.code yX1_setZero cX1_setZero 2 none ∈ tqW := tq_in 173 (by rfl) rfl
theorem tqt_174 : Cond.constantLong RX1 22 (-9223372036854775808) ∈ tqW := tq_in 174 (by decide +kernel) rfl
theorem tqt_175 : Cond.methodLink RX1 44 yX1_setBits ∈ tqW := tq_in 175 (by decide +kernel) rfl
theorem tqt_177 : Cond.instanceMethod yX1_setBits ∈ tqW := tq_in 177 (by decide +kernel) rfl
set_option maxRecDepth 100000 in
theorem tqt_178 : Cond.code yX1_setBits cX1_setBits 6 none ∈ tqW := tq_in 178 (by rfl) rfl
theorem tqt_179 : Cond.methodLink RX1 51 yX1_flip ∈ tqW := tq_in 179 (by decide +kernel) rfl
theorem tqt_180 : Cond.instanceMethod yX1_flip ∈ tqW := tq_in 180 (by decide +kernel) rfl
theorem tqt_181 : Cond.selects RX1 yX1_flip yX1_flip ∈ tqW := tq_in 181 (by decide +kernel) rfl
set_option maxRecDepth 100000 in
theorem tqt_182 : Cond.code yX1_flip cX1_flip 4 none ∈ tqW := tq_in 182 (by rfl) rfl
theorem tqt_183 : Cond.constantLong RX1 54 (-1) ∈ tqW := tq_in 183 (by decide +kernel) rfl
theorem tqt_184 : Cond.methodLink RX2 90 yX1_include ∈ tqW := tq_in 184 (by decide +kernel) rfl
theorem tqt_185 : Cond.instanceMethod yX1_include ∈ tqW := tq_in 185 (by decide +kernel) rfl
theorem tqt_186 : Cond.selects RX1 yX1_include yX1_include ∈ tqW := tq_in 186 (by decide +kernel) rfl
set_option maxRecDepth 100000 in
theorem tqt_187 : Cond.code yX1_include cX1_include 11 none ∈ tqW := tq_in 187 (by rfl) rfl
theorem tqt_188 : Cond.methodLink RX1 56 yX1_isNot ∈ tqW := tq_in 188 (by decide +kernel) rfl
theorem tqt_189 : Cond.instanceMethod yX1_isNot ∈ tqW := tq_in 189 (by decide +kernel) rfl
theorem tqt_190 : Cond.selects RX1 yX1_isNot yX1_isNot ∈ tqW := tq_in 190 (by decide +kernel) rfl
set_option maxRecDepth 100000 in
theorem tqt_191 : Cond.code yX1_isNot cX1_isNot 2 (some .boolean) ∈ tqW := tq_in 191 (by rfl) rfl
theorem tqt_192 : Cond.methodLink RX1 24 yX1_hasBitsBelow ∈ tqW := tq_in 192 (by decide +kernel) rfl
theorem tqt_193 : Cond.instanceMethod yX1_hasBitsBelow ∈ tqW := tq_in 193 (by decide +kernel) rfl
theorem tqt_194 : Cond.selects RX1 yX1_hasBitsBelow yX1_hasBitsBelow ∈ tqW := tq_in 194 (by decide +kernel) rfl
set_option maxRecDepth 100000 in
theorem tqt_195 : Cond.code yX1_hasBitsBelow cX1_hasBitsBelow 4 (some .boolean) ∈ tqW := tq_in 195 (by rfl) rfl
theorem tqt_196 : Cond.methodLink RX1 64 Lib.Math.min.name ∈ tqW := tq_in 196 (by decide +kernel) rfl
theorem tqt_197 : Cond.static Lib.Math.min.name ∈ tqW := tq_in 197 (by decide +kernel) rfl
set_option maxRecDepth 100000 in
theorem tqt_198 : Cond.code Lib.Math.min.name Lib.Math.min.code 2 (some .int) ∈ tqW := tq_in 198 (by rfl) rfl
theorem tqt_199 : Cond.methodLink RX2 94 yX2_roundedSum ∈ tqW := tq_in 199 (by decide +kernel) rfl
theorem tqt_201 : Cond.instanceMethod yX2_roundedSum ∈ tqW := tq_in 201 (by decide +kernel) rfl
set_option maxRecDepth 100000 in
theorem tqt_202 : Cond.code yX2_roundedSum cX2_roundedSum 5 (some .int) ∈ tqW := tq_in 202 (by rfl) rfl
theorem tqt_203 : Cond.methodLink RX2 130 yX1_isNot ∈ tqW := tq_in 203 (by decide +kernel) rfl
theorem tqt_204 : Cond.methodLink RX2 63 yX2_notOf ∈ tqW := tq_in 204 (by decide +kernel) rfl
theorem tqt_205 : Cond.methodLink RX2 134 yX1_isNegative ∈ tqW := tq_in 205 (by decide +kernel) rfl
theorem tqt_206 : Cond.instanceMethod yX1_isNegative ∈ tqW := tq_in 206 (by decide +kernel) rfl
theorem tqt_207 : Cond.selects RX1 yX1_isNegative yX1_isNegative ∈ tqW := tq_in 207 (by decide +kernel) rfl
set_option maxRecDepth 100000 in
theorem tqt_208 : Cond.code yX1_isNegative cX1_isNegative 1 (some .boolean) ∈ tqW := tq_in 208 (by rfl) rfl
theorem tqt_209 : Cond.methodLink RX2 137 yX1_copy ∈ tqW := tq_in 209 (by decide +kernel) rfl
theorem tqt_210 : Cond.instanceMethod yX1_copy ∈ tqW := tq_in 210 (by decide +kernel) rfl
theorem tqt_211 : Cond.selects RX1 yX1_copy yX1_copy ∈ tqW := tq_in 211 (by decide +kernel) rfl
set_option maxRecDepth 100000 in
theorem tqt_212 : Cond.code yX1_copy cX1_copy 3 none ∈ tqW := tq_in 212 (by rfl) rfl
theorem tqt_213 : Cond.methodLink RX2 120 yX1_flip ∈ tqW := tq_in 213 (by decide +kernel) rfl
theorem tqt_214 : Cond.methodLink RX2 140 yX1_topBit ∈ tqW := tq_in 214 (by decide +kernel) rfl
theorem tqt_215 : Cond.instanceMethod yX1_topBit ∈ tqW := tq_in 215 (by decide +kernel) rfl
theorem tqt_216 : Cond.selects RX1 yX1_topBit yX1_topBit ∈ tqW := tq_in 216 (by decide +kernel) rfl
set_option maxRecDepth 100000 in
theorem tqt_217 : Cond.code yX1_topBit cX1_topBit 2 (some .int) ∈ tqW := tq_in 217 (by rfl) rfl
theorem tqt_218 : Cond.methodLink RX1 60 yJ13_numberOfLeadingZeros_95d88 ∈ tqW := tq_in 218 (by decide +kernel) rfl
theorem tqt_219 : Cond.static yJ13_numberOfLeadingZeros_95d88 ∈ tqW := tq_in 219 (by decide +kernel) rfl
set_option maxRecDepth 100000 in
theorem tqt_220 : Cond.code yJ13_numberOfLeadingZeros_95d88 cJ13_numberOfLeadingZeros_95d88 3 (some .int) ∈ tqW := tq_in 220 (by rfl) rfl
theorem tqt_221 : Cond.methodLink RJ13 308 yJ6_numberOfLeadingZeros_0f7a4 ∈ tqW := tq_in 221 (by decide +kernel) rfl
theorem tqt_222 : Cond.methodLink RX2 143 yX1_hasBitsBelow ∈ tqW := tq_in 222 (by decide +kernel) rfl
theorem tqt_223 : Cond.methodLink RX2 149 yX1_leadingBits ∈ tqW := tq_in 223 (by decide +kernel) rfl
theorem tqt_224 : Cond.instanceMethod yX1_leadingBits ∈ tqW := tq_in 224 (by decide +kernel) rfl
theorem tqt_225 : Cond.selects RX1 yX1_leadingBits yX1_leadingBits ∈ tqW := tq_in 225 (by decide +kernel) rfl
set_option maxRecDepth 100000 in
theorem tqt_226 : Cond.code yX1_leadingBits cX1_leadingBits 6 (some .long) ∈ tqW := tq_in 226 (by rfl) rfl
theorem tqt_227 : Cond.methodLink RX2 153 yX2_signedPattern ∈ tqW := tq_in 227 (by decide +kernel) rfl
theorem tqt_228 : Cond.static yX2_signedPattern ∈ tqW := tq_in 228 (by decide +kernel) rfl
set_option maxRecDepth 100000 in
theorem tqt_229 : Cond.code yX2_signedPattern cX2_signedPattern 7 (some .int) ∈ tqW := tq_in 229 (by rfl) rfl
theorem tqt_230 : Cond.methodLink RX2 157 yX2_positivePattern ∈ tqW := tq_in 230 (by decide +kernel) rfl
theorem tqt_231 : Cond.static yX2_positivePattern ∈ tqW := tq_in 231 (by decide +kernel) rfl
set_option maxRecDepth 100000 in
theorem tqt_232 : Cond.code yX2_positivePattern cX2_positivePattern 19 (some .int) ∈ tqW := tq_in 232 (by rfl) rfl
theorem tqt_233 : Cond.constantLong RX2 161 (9223372036854775807) ∈ tqW := tq_in 233 (by decide +kernel) rfl
theorem tqt_234 : Cond.methodLink RL 31 yX2_subtract ∈ tqW := tq_in 234 (by decide +kernel) rfl
theorem tqt_235 : Cond.instanceMethod yX2_subtract ∈ tqW := tq_in 235 (by decide +kernel) rfl
theorem tqt_236 : Cond.selects RX2 yX2_subtract yX2_subtract ∈ tqW := tq_in 236 (by decide +kernel) rfl
set_option maxRecDepth 100000 in
theorem tqt_237 : Cond.code yX2_subtract cX2_subtract 3 (some .int) ∈ tqW := tq_in 237 (by rfl) rfl
theorem tqt_238 : Cond.methodLink RL 35 yX2_multiply ∈ tqW := tq_in 238 (by decide +kernel) rfl
theorem tqt_239 : Cond.instanceMethod yX2_multiply ∈ tqW := tq_in 239 (by decide +kernel) rfl
theorem tqt_240 : Cond.selects RX2 yX2_multiply yX2_multiply ∈ tqW := tq_in 240 (by decide +kernel) rfl
set_option maxRecDepth 100000 in
theorem tqt_241 : Cond.code yX2_multiply cX2_multiply 3 (some .int) ∈ tqW := tq_in 241 (by rfl) rfl
theorem tqt_242 : Cond.methodLink RL 39 yX2_divide ∈ tqW := tq_in 242 (by decide +kernel) rfl
theorem tqt_243 : Cond.instanceMethod yX2_divide ∈ tqW := tq_in 243 (by decide +kernel) rfl
theorem tqt_244 : Cond.selects RX2 yX2_divide yX2_divide ∈ tqW := tq_in 244 (by decide +kernel) rfl
set_option maxRecDepth 100000 in
theorem tqt_245 : Cond.code yX2_divide cX2_divide 10 (some .int) ∈ tqW := tq_in 245 (by rfl) rfl
theorem tqt_246 : Cond.methodLink RX2 66 yJ13_numberOfLeadingZeros_95d88 ∈ tqW := tq_in 246 (by decide +kernel) rfl
theorem tqt_247 : Cond.methodLink RX2 78 yX2_rounded ∈ tqW := tq_in 247 (by decide +kernel) rfl
theorem tqt_248 : Cond.static yX2_rounded ∈ tqW := tq_in 248 (by decide +kernel) rfl
set_option maxRecDepth 100000 in
theorem tqt_249 : Cond.code yX2_rounded cX2_rounded 7 (some .int) ∈ tqW := tq_in 249 (by rfl) rfl
theorem tqt_250 : Cond.methodLink RL 43 yX2_root ∈ tqW := tq_in 250 (by decide +kernel) rfl
theorem tqt_251 : Cond.instanceMethod yX2_root ∈ tqW := tq_in 251 (by decide +kernel) rfl
theorem tqt_252 : Cond.selects RX2 yX2_root yX2_root ∈ tqW := tq_in 252 (by decide +kernel) rfl
set_option maxRecDepth 100000 in
theorem tqt_253 : Cond.code yX2_root cX2_root 8 (some .int) ∈ tqW := tq_in 253 (by rfl) rfl
theorem tqt_254 : Cond.methodLink RX2 82 yX2_floorRoot ∈ tqW := tq_in 254 (by decide +kernel) rfl
theorem tqt_255 : Cond.static yX2_floorRoot ∈ tqW := tq_in 255 (by decide +kernel) rfl
set_option maxRecDepth 100000 in
theorem tqt_256 : Cond.code yX2_floorRoot cX2_floorRoot 7 (some .long) ∈ tqW := tq_in 256 (by rfl) rfl
theorem tqt_257 : Cond.methodLink RL 48 yX2_fused ∈ tqW := tq_in 257 (by decide +kernel) rfl
theorem tqt_258 : Cond.methodLink RL 53 yX2_whole ∈ tqW := tq_in 258 (by decide +kernel) rfl
theorem tqt_259 : Cond.instanceMethod yX2_whole ∈ tqW := tq_in 259 (by decide +kernel) rfl
theorem tqt_260 : Cond.selects RX2 yX2_whole yX2_whole ∈ tqW := tq_in 260 (by decide +kernel) rfl
set_option maxRecDepth 100000 in
theorem tqt_261 : Cond.code yX2_whole cX2_whole 2 (some .int) ∈ tqW := tq_in 261 (by rfl) rfl
theorem tqt_262 : Cond.methodLink RX2 98 yX2_patternOf ∈ tqW := tq_in 262 (by decide +kernel) rfl
theorem tqt_263 : Cond.methodLink RX2 102 yX2_nearestWhole ∈ tqW := tq_in 263 (by decide +kernel) rfl
theorem tqt_264 : Cond.static yX2_nearestWhole ∈ tqW := tq_in 264 (by decide +kernel) rfl
set_option maxRecDepth 100000 in
theorem tqt_265 : Cond.code yX2_nearestWhole cX2_nearestWhole 9 (some .long) ∈ tqW := tq_in 265 (by rfl) rfl
theorem tqt_266 : Cond.methodLink RL 57 yX2_next ∈ tqW := tq_in 266 (by decide +kernel) rfl
theorem tqt_267 : Cond.instanceMethod yX2_next ∈ tqW := tq_in 267 (by decide +kernel) rfl
theorem tqt_268 : Cond.selects RX2 yX2_next yX2_next ∈ tqW := tq_in 268 (by decide +kernel) rfl
set_option maxRecDepth 100000 in
theorem tqt_269 : Cond.code yX2_next cX2_next 2 (some .int) ∈ tqW := tq_in 269 (by rfl) rfl
theorem tqt_270 : Cond.methodLink RL 63 yX2_fromLong ∈ tqW := tq_in 270 (by decide +kernel) rfl
theorem tqt_271 : Cond.instanceMethod yX2_fromLong ∈ tqW := tq_in 271 (by decide +kernel) rfl
theorem tqt_272 : Cond.selects RX2 yX2_fromLong yX2_fromLong ∈ tqW := tq_in 272 (by decide +kernel) rfl
set_option maxRecDepth 100000 in
theorem tqt_273 : Cond.code yX2_fromLong cX2_fromLong 3 (some .int) ∈ tqW := tq_in 273 (by rfl) rfl
theorem tqt_274 : Cond.constantLong RX2 106 (-9223372036854775808) ∈ tqW := tq_in 274 (by decide +kernel) rfl
theorem tqt_275 : Cond.methodLink RX2 108 Lib.MathLoose.abs_long.x ∈ tqW := tq_in 275 (by decide +kernel) rfl
theorem tqt_276 : Cond.static Lib.MathLoose.abs_long.x ∈ tqW := tq_in 276 (by decide +kernel) rfl
set_option maxRecDepth 100000 in
theorem tqt_277 : Cond.code Lib.MathLoose.abs_long.x Lib.MathLoose.abs_long.code 2 (some .long) ∈ tqW := tq_in 277 (by rfl) rfl
theorem tqt_278 : Cond.methodLink RL 68 yX2_toLong ∈ tqW := tq_in 278 (by decide +kernel) rfl
theorem tqt_279 : Cond.instanceMethod yX2_toLong ∈ tqW := tq_in 279 (by decide +kernel) rfl
theorem tqt_280 : Cond.selects RX2 yX2_toLong yX2_toLong ∈ tqW := tq_in 280 (by decide +kernel) rfl
set_option maxRecDepth 100000 in
theorem tqt_281 : Cond.code yX2_toLong cX2_toLong 5 (some .long) ∈ tqW := tq_in 281 (by rfl) rfl
theorem tqt_282 : Cond.methodLink RL 73 yX2_convert ∈ tqW := tq_in 282 (by decide +kernel) rfl
theorem tqt_283 : Cond.instanceMethod yX2_convert ∈ tqW := tq_in 283 (by decide +kernel) rfl
theorem tqt_284 : Cond.selects RX2 yX2_convert yX2_convert ∈ tqW := tq_in 284 (by decide +kernel) rfl
set_option maxRecDepth 100000 in
theorem tqt_285 : Cond.code yX2_convert cX2_convert 4 (some .int) ∈ tqW := tq_in 285 (by rfl) rfl
theorem tqt_286 : Cond.methodLink RL 77 yX2_clear ∈ tqW := tq_in 286 (by decide +kernel) rfl
theorem tqt_287 : Cond.instanceMethod yX2_clear ∈ tqW := tq_in 287 (by decide +kernel) rfl
theorem tqt_288 : Cond.selects RX2 yX2_clear yX2_clear ∈ tqW := tq_in 288 (by decide +kernel) rfl
set_option maxRecDepth 100000 in
theorem tqt_289 : Cond.code yX2_clear cX2_clear 2 (some .boolean) ∈ tqW := tq_in 289 (by rfl) rfl
theorem tqt_290 : Cond.methodLink RX2 113 yX2_isSum ∈ tqW := tq_in 290 (by decide +kernel) rfl
theorem tqt_291 : Cond.static yX2_isSum ∈ tqW := tq_in 291 (by decide +kernel) rfl
set_option maxRecDepth 100000 in
theorem tqt_292 : Cond.code yX2_isSum cX2_isSum 1 (some .boolean) ∈ tqW := tq_in 292 (by rfl) rfl
theorem tqt_293 : Cond.methodLink RX2 117 yX1_setZero ∈ tqW := tq_in 293 (by decide +kernel) rfl
theorem tqt_294 : Cond.methodLink RL 82 yX2_collect ∈ tqW := tq_in 294 (by decide +kernel) rfl
theorem tqt_295 : Cond.instanceMethod yX2_collect ∈ tqW := tq_in 295 (by decide +kernel) rfl
theorem tqt_296 : Cond.selects RX2 yX2_collect yX2_collect ∈ tqW := tq_in 296 (by decide +kernel) rfl
set_option maxRecDepth 100000 in
theorem tqt_297 : Cond.code yX2_collect cX2_collect 5 (some .boolean) ∈ tqW := tq_in 297 (by rfl) rfl
theorem tqt_298 : Cond.methodLink RL 87 yX2_merge ∈ tqW := tq_in 298 (by decide +kernel) rfl
theorem tqt_299 : Cond.instanceMethod yX2_merge ∈ tqW := tq_in 299 (by decide +kernel) rfl
theorem tqt_300 : Cond.selects RX2 yX2_merge yX2_merge ∈ tqW := tq_in 300 (by decide +kernel) rfl
set_option maxRecDepth 100000 in
theorem tqt_301 : Cond.code yX2_merge cX2_merge 2 (some .boolean) ∈ tqW := tq_in 301 (by rfl) rfl
theorem tqt_302 : Cond.methodLink RL 91 yX2_negate ∈ tqW := tq_in 302 (by decide +kernel) rfl
theorem tqt_303 : Cond.instanceMethod yX2_negate ∈ tqW := tq_in 303 (by decide +kernel) rfl
theorem tqt_304 : Cond.selects RX2 yX2_negate yX2_negate ∈ tqW := tq_in 304 (by decide +kernel) rfl
set_option maxRecDepth 100000 in
theorem tqt_305 : Cond.code yX2_negate cX2_negate 2 (some .boolean) ∈ tqW := tq_in 305 (by rfl) rfl
theorem tqt_306 : Cond.methodLink RL 95 yX2_total ∈ tqW := tq_in 306 (by decide +kernel) rfl
theorem tqt_307 : Cond.instanceMethod yX2_total ∈ tqW := tq_in 307 (by decide +kernel) rfl
theorem tqt_308 : Cond.selects RX2 yX2_total yX2_total ∈ tqW := tq_in 308 (by decide +kernel) rfl
set_option maxRecDepth 100000 in
theorem tqt_309 : Cond.code yX2_total cX2_total 2 (some .int) ∈ tqW := tq_in 309 (by rfl) rfl
theorem tqt_310 : Cond.methodLink RL 99 yX2_word ∈ tqW := tq_in 310 (by decide +kernel) rfl
theorem tqt_311 : Cond.instanceMethod yX2_word ∈ tqW := tq_in 311 (by decide +kernel) rfl
theorem tqt_312 : Cond.selects RX2 yX2_word yX2_word ∈ tqW := tq_in 312 (by decide +kernel) rfl
set_option maxRecDepth 100000 in
theorem tqt_313 : Cond.code yX2_word cX2_word 3 (some .long) ∈ tqW := tq_in 313 (by rfl) rfl
theorem tqt_314 : Cond.methodLink RL 104 yX2_compare ∈ tqW := tq_in 314 (by decide +kernel) rfl
theorem tqt_315 : Cond.instanceMethod yX2_compare ∈ tqW := tq_in 315 (by decide +kernel) rfl
theorem tqt_316 : Cond.selects RX2 yX2_compare yX2_compare ∈ tqW := tq_in 316 (by decide +kernel) rfl
set_option maxRecDepth 100000 in
theorem tqt_317 : Cond.code yX2_compare cX2_compare 5 (some .int) ∈ tqW := tq_in 317 (by rfl) rfl
theorem tqt_318 : Cond.methodLink RL 9 yL_cell ∈ tqW := tq_in 318 (by decide +kernel) rfl
theorem tqt_319 : Cond.static yL_cell ∈ tqW := tq_in 319 (by decide +kernel) rfl
set_option maxRecDepth 100000 in
theorem tqt_320 : Cond.code yL_cell cL_cell 2 (some .int) ∈ tqW := tq_in 320 (by rfl) rfl
theorem tqt_321 : Cond.classLink RL 18 RM ∈ tqW := tq_in 321 (by decide +kernel) rfl
theorem tqt_322 : Cond.instantiable RM 4 ∈ tqW := tq_in 322 (by decide +kernel) rfl
theorem tqt_323 : Cond.methodLink RL 20 yM_init ∈ tqW := tq_in 323 (by decide +kernel) rfl
theorem tqt_324 : Cond.instanceMethod yM_init ∈ tqW := tq_in 324 (by decide +kernel) rfl
set_option maxRecDepth 100000 in
theorem tqt_325 : Cond.code yM_init cM_init 2 none ∈ tqW := tq_in 325 (by rfl) rfl
theorem tqt_326 : Cond.methodLink RM 1 objectInit ∈ tqW := tq_in 326 (by decide +kernel) rfl
theorem tqt_327 : Cond.methodLink RM 16 yM_sizeOf ∈ tqW := tq_in 327 (by decide +kernel) rfl
theorem tqt_328 : Cond.static yM_sizeOf ∈ tqW := tq_in 328 (by decide +kernel) rfl
set_option maxRecDepth 100000 in
theorem tqt_329 : Cond.code yM_sizeOf cM_sizeOf 1 (some .int) ∈ tqW := tq_in 329 (by rfl) rfl
theorem tqt_330 : Cond.fieldLink RM 20 "TaperedQuireModel" "n" "I" ∈ tqW := tq_in 330 (by decide +kernel) rfl
theorem tqt_331 : Cond.fieldLink RM 7 "TaperedQuireModel" "limb" "[I" ∈ tqW := tq_in 331 (by decide +kernel) rfl
theorem tqt_332 : Cond.fieldLink RM 52 "TaperedQuireModel" "square" "Z" ∈ tqW := tq_in 332 (by decide +kernel) rfl
theorem tqt_333 : Cond.fieldLink RM 13 "TaperedQuireModel" "sum" "[I" ∈ tqW := tq_in 333 (by decide +kernel) rfl
theorem tqt_343 : Cond.arrayClass .int ∈ tqW := tq_in 343 (by decide +kernel) rfl
theorem tqt_344 : Cond.methodLink RL 25 yM_bits ∈ tqW := tq_in 344 (by decide +kernel) rfl
theorem tqt_345 : Cond.instanceMethod yM_bits ∈ tqW := tq_in 345 (by decide +kernel) rfl
theorem tqt_346 : Cond.selects RM yM_bits yM_bits ∈ tqW := tq_in 346 (by decide +kernel) rfl
set_option maxRecDepth 100000 in
theorem tqt_347 : Cond.code yM_bits cM_bits 1 (some .int) ∈ tqW := tq_in 347 (by rfl) rfl
theorem tqt_348 : Cond.methodLink RL 30 yM_add ∈ tqW := tq_in 348 (by decide +kernel) rfl
theorem tqt_349 : Cond.instanceMethod yM_add ∈ tqW := tq_in 349 (by decide +kernel) rfl
theorem tqt_350 : Cond.selects RM yM_add yM_add ∈ tqW := tq_in 350 (by decide +kernel) rfl
set_option maxRecDepth 100000 in
theorem tqt_351 : Cond.code yM_add cM_add 3 (some .int) ∈ tqW := tq_in 351 (by rfl) rfl
theorem tqt_352 : Cond.methodLink RM 100 yM_together ∈ tqW := tq_in 352 (by decide +kernel) rfl
theorem tqt_354 : Cond.instanceMethod yM_together ∈ tqW := tq_in 354 (by decide +kernel) rfl
set_option maxRecDepth 100000 in
theorem tqt_355 : Cond.code yM_together cM_together 5 (some .int) ∈ tqW := tq_in 355 (by rfl) rfl
theorem tqt_356 : Cond.methodLink RM 80 yM_isNot ∈ tqW := tq_in 356 (by decide +kernel) rfl
theorem tqt_358 : Cond.instanceMethod yM_isNot ∈ tqW := tq_in 358 (by decide +kernel) rfl
set_option maxRecDepth 100000 in
theorem tqt_359 : Cond.code yM_isNot cM_isNot 2 (some .boolean) ∈ tqW := tq_in 359 (by rfl) rfl
theorem tqt_360 : Cond.methodLink RM 42 yM_pattern ∈ tqW := tq_in 360 (by decide +kernel) rfl
theorem tqt_362 : Cond.instanceMethod yM_pattern ∈ tqW := tq_in 362 (by decide +kernel) rfl
set_option maxRecDepth 100000 in
theorem tqt_363 : Cond.code yM_pattern cM_pattern 2 (some .int) ∈ tqW := tq_in 363 (by rfl) rfl
theorem tqt_364 : Cond.methodLink RM 45 yM_not ∈ tqW := tq_in 364 (by decide +kernel) rfl
theorem tqt_365 : Cond.static yM_not ∈ tqW := tq_in 365 (by decide +kernel) rfl
set_option maxRecDepth 100000 in
theorem tqt_366 : Cond.code yM_not cM_not 1 (some .int) ∈ tqW := tq_in 366 (by rfl) rfl
theorem tqt_367 : Cond.methodLink RM 83 yM_load ∈ tqW := tq_in 367 (by decide +kernel) rfl
theorem tqt_369 : Cond.instanceMethod yM_load ∈ tqW := tq_in 369 (by decide +kernel) rfl
set_option maxRecDepth 100000 in
theorem tqt_370 : Cond.code yM_load cM_load 6 none ∈ tqW := tq_in 370 (by rfl) rfl
theorem tqt_371 : Cond.methodLink RM 25 yM_zero ∈ tqW := tq_in 371 (by decide +kernel) rfl
theorem tqt_373 : Cond.instanceMethod yM_zero ∈ tqW := tq_in 373 (by decide +kernel) rfl
set_option maxRecDepth 100000 in
theorem tqt_374 : Cond.code yM_zero cM_zero 3 none ∈ tqW := tq_in 374 (by rfl) rfl
theorem tqt_375 : Cond.methodLink RM 48 yM_value ∈ tqW := tq_in 375 (by decide +kernel) rfl
theorem tqt_377 : Cond.instanceMethod yM_value ∈ tqW := tq_in 377 (by decide +kernel) rfl
set_option maxRecDepth 100000 in
theorem tqt_378 : Cond.code yM_value cM_value 14 none ∈ tqW := tq_in 378 (by rfl) rfl
theorem tqt_379 : Cond.methodLink RM 31 yM_setLong ∈ tqW := tq_in 379 (by decide +kernel) rfl
theorem tqt_381 : Cond.instanceMethod yM_setLong ∈ tqW := tq_in 381 (by decide +kernel) rfl
set_option maxRecDepth 100000 in
theorem tqt_382 : Cond.code yM_setLong cM_setLong 5 none ∈ tqW := tq_in 382 (by rfl) rfl
theorem tqt_383 : Cond.constantLong RM 29 (65535) ∈ tqW := tq_in 383 (by decide +kernel) rfl
theorem tqt_384 : Cond.methodLink RM 35 yM_raise ∈ tqW := tq_in 384 (by decide +kernel) rfl
theorem tqt_386 : Cond.instanceMethod yM_raise ∈ tqW := tq_in 386 (by decide +kernel) rfl
set_option maxRecDepth 100000 in
theorem tqt_387 : Cond.code yM_raise cM_raise 8 none ∈ tqW := tq_in 387 (by rfl) rfl
theorem tqt_388 : Cond.constant RM 24 (65535) ∈ tqW := tq_in 388 (by decide +kernel) rfl
theorem tqt_389 : Cond.methodLink RM 39 yM_lower ∈ tqW := tq_in 389 (by decide +kernel) rfl
theorem tqt_391 : Cond.instanceMethod yM_lower ∈ tqW := tq_in 391 (by decide +kernel) rfl
set_option maxRecDepth 100000 in
theorem tqt_392 : Cond.code yM_lower cM_lower 8 none ∈ tqW := tq_in 392 (by rfl) rfl
theorem tqt_393 : Cond.methodLink RM 86 yM_negative ∈ tqW := tq_in 393 (by decide +kernel) rfl
theorem tqt_395 : Cond.instanceMethod yM_negative ∈ tqW := tq_in 395 (by decide +kernel) rfl
set_option maxRecDepth 100000 in
theorem tqt_396 : Cond.code yM_negative cM_negative 2 (some .boolean) ∈ tqW := tq_in 396 (by rfl) rfl
theorem tqt_397 : Cond.methodLink RM 89 yM_joined ∈ tqW := tq_in 397 (by decide +kernel) rfl
theorem tqt_399 : Cond.instanceMethod yM_joined ∈ tqW := tq_in 399 (by decide +kernel) rfl
set_option maxRecDepth 100000 in
theorem tqt_400 : Cond.code yM_joined cM_joined 3 (some .boolean) ∈ tqW := tq_in 400 (by rfl) rfl
theorem tqt_401 : Cond.methodLink RM 74 yM_plus ∈ tqW := tq_in 401 (by decide +kernel) rfl
theorem tqt_403 : Cond.instanceMethod yM_plus ∈ tqW := tq_in 403 (by decide +kernel) rfl
set_option maxRecDepth 100000 in
theorem tqt_404 : Cond.code yM_plus cM_plus 6 none ∈ tqW := tq_in 404 (by rfl) rfl
theorem tqt_405 : Cond.methodLink RM 60 yM_order ∈ tqW := tq_in 405 (by decide +kernel) rfl
theorem tqt_407 : Cond.instanceMethod yM_order ∈ tqW := tq_in 407 (by decide +kernel) rfl
set_option maxRecDepth 100000 in
theorem tqt_408 : Cond.code yM_order cM_order 6 (some .int) ∈ tqW := tq_in 408 (by rfl) rfl
theorem tqt_409 : Cond.methodLink RM 77 yM_apart ∈ tqW := tq_in 409 (by decide +kernel) rfl
theorem tqt_411 : Cond.instanceMethod yM_apart ∈ tqW := tq_in 411 (by decide +kernel) rfl
set_option maxRecDepth 100000 in
theorem tqt_412 : Cond.code yM_apart cM_apart 7 none ∈ tqW := tq_in 412 (by rfl) rfl
theorem tqt_413 : Cond.methodLink RM 93 yM_factor ∈ tqW := tq_in 413 (by decide +kernel) rfl
theorem tqt_415 : Cond.instanceMethod yM_factor ∈ tqW := tq_in 415 (by decide +kernel) rfl
set_option maxRecDepth 100000 in
theorem tqt_416 : Cond.code yM_factor cM_factor 2 none ∈ tqW := tq_in 416 (by rfl) rfl
theorem tqt_417 : Cond.methodLink RM 96 yM_rounded ∈ tqW := tq_in 417 (by decide +kernel) rfl
theorem tqt_419 : Cond.instanceMethod yM_rounded ∈ tqW := tq_in 419 (by decide +kernel) rfl
set_option maxRecDepth 100000 in
theorem tqt_420 : Cond.code yM_rounded cM_rounded 11 (some .int) ∈ tqW := tq_in 420 (by rfl) rfl
theorem tqt_421 : Cond.methodLink RM 64 yM_isZero ∈ tqW := tq_in 421 (by decide +kernel) rfl
theorem tqt_423 : Cond.instanceMethod yM_isZero ∈ tqW := tq_in 423 (by decide +kernel) rfl
set_option maxRecDepth 100000 in
theorem tqt_424 : Cond.code yM_isZero cM_isZero 4 (some .boolean) ∈ tqW := tq_in 424 (by rfl) rfl
theorem tqt_425 : Cond.methodLink RM 68 yM_against ∈ tqW := tq_in 425 (by decide +kernel) rfl
theorem tqt_427 : Cond.instanceMethod yM_against ∈ tqW := tq_in 427 (by decide +kernel) rfl
set_option maxRecDepth 100000 in
theorem tqt_428 : Cond.code yM_against cM_against 4 (some .int) ∈ tqW := tq_in 428 (by rfl) rfl
theorem tqt_429 : Cond.methodLink RM 56 yM_times ∈ tqW := tq_in 429 (by decide +kernel) rfl
theorem tqt_431 : Cond.instanceMethod yM_times ∈ tqW := tq_in 431 (by decide +kernel) rfl
set_option maxRecDepth 100000 in
theorem tqt_432 : Cond.code yM_times cM_times 12 none ∈ tqW := tq_in 432 (by rfl) rfl
theorem tqt_433 : Cond.constantLong RM 72 (2) ∈ tqW := tq_in 433 (by decide +kernel) rfl
theorem tqt_434 : Cond.methodLink RL 34 yM_subtract ∈ tqW := tq_in 434 (by decide +kernel) rfl
theorem tqt_435 : Cond.instanceMethod yM_subtract ∈ tqW := tq_in 435 (by decide +kernel) rfl
theorem tqt_436 : Cond.selects RM yM_subtract yM_subtract ∈ tqW := tq_in 436 (by decide +kernel) rfl
set_option maxRecDepth 100000 in
theorem tqt_437 : Cond.code yM_subtract cM_subtract 3 (some .int) ∈ tqW := tq_in 437 (by rfl) rfl
theorem tqt_438 : Cond.methodLink RL 38 yM_multiply ∈ tqW := tq_in 438 (by decide +kernel) rfl
theorem tqt_439 : Cond.instanceMethod yM_multiply ∈ tqW := tq_in 439 (by decide +kernel) rfl
theorem tqt_440 : Cond.selects RM yM_multiply yM_multiply ∈ tqW := tq_in 440 (by decide +kernel) rfl
set_option maxRecDepth 100000 in
theorem tqt_441 : Cond.code yM_multiply cM_multiply 3 (some .int) ∈ tqW := tq_in 441 (by rfl) rfl
theorem tqt_442 : Cond.methodLink RM 104 yM_fused ∈ tqW := tq_in 442 (by decide +kernel) rfl
theorem tqt_443 : Cond.instanceMethod yM_fused ∈ tqW := tq_in 443 (by decide +kernel) rfl
theorem tqt_444 : Cond.selects RM yM_fused yM_fused ∈ tqW := tq_in 444 (by decide +kernel) rfl
set_option maxRecDepth 100000 in
theorem tqt_445 : Cond.code yM_fused cM_fused 5 (some .int) ∈ tqW := tq_in 445 (by rfl) rfl
theorem tqt_446 : Cond.methodLink RL 42 yM_divide ∈ tqW := tq_in 446 (by decide +kernel) rfl
theorem tqt_447 : Cond.instanceMethod yM_divide ∈ tqW := tq_in 447 (by decide +kernel) rfl
theorem tqt_448 : Cond.selects RM yM_divide yM_divide ∈ tqW := tq_in 448 (by decide +kernel) rfl
set_option maxRecDepth 100000 in
theorem tqt_449 : Cond.code yM_divide cM_divide 3 (some .int) ∈ tqW := tq_in 449 (by rfl) rfl
theorem tqt_450 : Cond.methodLink RL 47 yM_root ∈ tqW := tq_in 450 (by decide +kernel) rfl
theorem tqt_451 : Cond.instanceMethod yM_root ∈ tqW := tq_in 451 (by decide +kernel) rfl
theorem tqt_452 : Cond.selects RM yM_root yM_root ∈ tqW := tq_in 452 (by decide +kernel) rfl
set_option maxRecDepth 100000 in
theorem tqt_453 : Cond.code yM_root cM_root 2 (some .int) ∈ tqW := tq_in 453 (by rfl) rfl
theorem tqt_454 : Cond.methodLink RL 52 yM_fused ∈ tqW := tq_in 454 (by decide +kernel) rfl
theorem tqt_455 : Cond.methodLink RL 56 yM_whole ∈ tqW := tq_in 455 (by decide +kernel) rfl
theorem tqt_456 : Cond.instanceMethod yM_whole ∈ tqW := tq_in 456 (by decide +kernel) rfl
theorem tqt_457 : Cond.selects RM yM_whole yM_whole ∈ tqW := tq_in 457 (by decide +kernel) rfl
set_option maxRecDepth 100000 in
theorem tqt_458 : Cond.code yM_whole cM_whole 2 (some .int) ∈ tqW := tq_in 458 (by rfl) rfl
theorem tqt_459 : Cond.methodLink RM 111 yM_nearest ∈ tqW := tq_in 459 (by decide +kernel) rfl
theorem tqt_461 : Cond.instanceMethod yM_nearest ∈ tqW := tq_in 461 (by decide +kernel) rfl
set_option maxRecDepth 100000 in
theorem tqt_462 : Cond.code yM_nearest cM_nearest 5 none ∈ tqW := tq_in 462 (by rfl) rfl
theorem tqt_463 : Cond.methodLink RM 108 yM_bit ∈ tqW := tq_in 463 (by decide +kernel) rfl
theorem tqt_465 : Cond.instanceMethod yM_bit ∈ tqW := tq_in 465 (by decide +kernel) rfl
set_option maxRecDepth 100000 in
theorem tqt_466 : Cond.code yM_bit cM_bit 3 (some .int) ∈ tqW := tq_in 466 (by rfl) rfl
theorem tqt_467 : Cond.methodLink RL 60 yM_next ∈ tqW := tq_in 467 (by decide +kernel) rfl
theorem tqt_468 : Cond.instanceMethod yM_next ∈ tqW := tq_in 468 (by decide +kernel) rfl
theorem tqt_469 : Cond.selects RM yM_next yM_next ∈ tqW := tq_in 469 (by decide +kernel) rfl
set_option maxRecDepth 100000 in
theorem tqt_470 : Cond.code yM_next cM_next 2 (some .int) ∈ tqW := tq_in 470 (by rfl) rfl
theorem tqt_471 : Cond.methodLink RL 67 yM_fromLong ∈ tqW := tq_in 471 (by decide +kernel) rfl
theorem tqt_472 : Cond.instanceMethod yM_fromLong ∈ tqW := tq_in 472 (by decide +kernel) rfl
theorem tqt_473 : Cond.selects RM yM_fromLong yM_fromLong ∈ tqW := tq_in 473 (by decide +kernel) rfl
set_option maxRecDepth 100000 in
theorem tqt_474 : Cond.code yM_fromLong cM_fromLong 3 (some .int) ∈ tqW := tq_in 474 (by rfl) rfl
theorem tqt_475 : Cond.methodLink RL 72 yM_toLong ∈ tqW := tq_in 475 (by decide +kernel) rfl
theorem tqt_476 : Cond.instanceMethod yM_toLong ∈ tqW := tq_in 476 (by decide +kernel) rfl
theorem tqt_477 : Cond.selects RM yM_toLong yM_toLong ∈ tqW := tq_in 477 (by decide +kernel) rfl
set_option maxRecDepth 100000 in
theorem tqt_478 : Cond.code yM_toLong cM_toLong 8 (some .long) ∈ tqW := tq_in 478 (by rfl) rfl
theorem tqt_479 : Cond.constantLong RM 114 (-9223372036854775808) ∈ tqW := tq_in 479 (by decide +kernel) rfl
theorem tqt_480 : Cond.methodLink RL 76 yM_convert ∈ tqW := tq_in 480 (by decide +kernel) rfl
theorem tqt_481 : Cond.instanceMethod yM_convert ∈ tqW := tq_in 481 (by decide +kernel) rfl
theorem tqt_482 : Cond.selects RM yM_convert yM_convert ∈ tqW := tq_in 482 (by decide +kernel) rfl
set_option maxRecDepth 100000 in
theorem tqt_483 : Cond.code yM_convert cM_convert 4 (some .int) ∈ tqW := tq_in 483 (by rfl) rfl
theorem tqt_484 : Cond.methodLink RL 81 yM_clear ∈ tqW := tq_in 484 (by decide +kernel) rfl
theorem tqt_485 : Cond.instanceMethod yM_clear ∈ tqW := tq_in 485 (by decide +kernel) rfl
theorem tqt_486 : Cond.selects RM yM_clear yM_clear ∈ tqW := tq_in 486 (by decide +kernel) rfl
set_option maxRecDepth 100000 in
theorem tqt_487 : Cond.code yM_clear cM_clear 3 (some .boolean) ∈ tqW := tq_in 487 (by rfl) rfl
theorem tqt_488 : Cond.methodLink RM 117 yM_isSum ∈ tqW := tq_in 488 (by decide +kernel) rfl
theorem tqt_489 : Cond.static yM_isSum ∈ tqW := tq_in 489 (by decide +kernel) rfl
set_option maxRecDepth 100000 in
theorem tqt_490 : Cond.code yM_isSum cM_isSum 1 (some .boolean) ∈ tqW := tq_in 490 (by rfl) rfl
theorem tqt_491 : Cond.methodLink RL 86 yM_collect ∈ tqW := tq_in 491 (by decide +kernel) rfl
theorem tqt_492 : Cond.instanceMethod yM_collect ∈ tqW := tq_in 492 (by decide +kernel) rfl
theorem tqt_493 : Cond.selects RM yM_collect yM_collect ∈ tqW := tq_in 493 (by decide +kernel) rfl
set_option maxRecDepth 100000 in
theorem tqt_494 : Cond.code yM_collect cM_collect 5 (some .boolean) ∈ tqW := tq_in 494 (by rfl) rfl
theorem tqt_495 : Cond.methodLink RM 120 yM_lose ∈ tqW := tq_in 495 (by decide +kernel) rfl
theorem tqt_497 : Cond.instanceMethod yM_lose ∈ tqW := tq_in 497 (by decide +kernel) rfl
set_option maxRecDepth 100000 in
theorem tqt_498 : Cond.code yM_lose cM_lose 3 none ∈ tqW := tq_in 498 (by rfl) rfl
theorem tqt_499 : Cond.constant RM 116 (32768) ∈ tqW := tq_in 499 (by decide +kernel) rfl
theorem tqt_500 : Cond.methodLink RM 123 yM_lost ∈ tqW := tq_in 500 (by decide +kernel) rfl
theorem tqt_502 : Cond.instanceMethod yM_lost ∈ tqW := tq_in 502 (by decide +kernel) rfl
set_option maxRecDepth 100000 in
theorem tqt_503 : Cond.code yM_lost cM_lost 4 (some .boolean) ∈ tqW := tq_in 503 (by rfl) rfl
theorem tqt_504 : Cond.methodLink RM 126 yM_pour ∈ tqW := tq_in 504 (by decide +kernel) rfl
theorem tqt_506 : Cond.instanceMethod yM_pour ∈ tqW := tq_in 506 (by decide +kernel) rfl
set_option maxRecDepth 100000 in
theorem tqt_507 : Cond.code yM_pour cM_pour 7 none ∈ tqW := tq_in 507 (by rfl) rfl
theorem tqt_508 : Cond.methodLink RL 90 yM_merge ∈ tqW := tq_in 508 (by decide +kernel) rfl
theorem tqt_509 : Cond.instanceMethod yM_merge ∈ tqW := tq_in 509 (by decide +kernel) rfl
theorem tqt_510 : Cond.selects RM yM_merge yM_merge ∈ tqW := tq_in 510 (by decide +kernel) rfl
set_option maxRecDepth 100000 in
theorem tqt_511 : Cond.code yM_merge cM_merge 2 (some .boolean) ∈ tqW := tq_in 511 (by rfl) rfl
theorem tqt_512 : Cond.methodLink RM 130 yM_draw ∈ tqW := tq_in 512 (by decide +kernel) rfl
theorem tqt_514 : Cond.instanceMethod yM_draw ∈ tqW := tq_in 514 (by decide +kernel) rfl
set_option maxRecDepth 100000 in
theorem tqt_515 : Cond.code yM_draw cM_draw 4 none ∈ tqW := tq_in 515 (by rfl) rfl
theorem tqt_516 : Cond.methodLink RL 94 yM_negate ∈ tqW := tq_in 516 (by decide +kernel) rfl
theorem tqt_517 : Cond.instanceMethod yM_negate ∈ tqW := tq_in 517 (by decide +kernel) rfl
theorem tqt_518 : Cond.selects RM yM_negate yM_negate ∈ tqW := tq_in 518 (by decide +kernel) rfl
set_option maxRecDepth 100000 in
theorem tqt_519 : Cond.code yM_negate cM_negate 2 (some .boolean) ∈ tqW := tq_in 519 (by rfl) rfl
theorem tqt_520 : Cond.methodLink RL 98 yM_total ∈ tqW := tq_in 520 (by decide +kernel) rfl
theorem tqt_521 : Cond.instanceMethod yM_total ∈ tqW := tq_in 521 (by decide +kernel) rfl
theorem tqt_522 : Cond.selects RM yM_total yM_total ∈ tqW := tq_in 522 (by decide +kernel) rfl
set_option maxRecDepth 100000 in
theorem tqt_523 : Cond.code yM_total cM_total 3 (some .int) ∈ tqW := tq_in 523 (by rfl) rfl
theorem tqt_524 : Cond.methodLink RM 133 yM_negate ∈ tqW := tq_in 524 (by decide +kernel) rfl
theorem tqt_525 : Cond.methodLink RM 136 yM_move ∈ tqW := tq_in 525 (by decide +kernel) rfl
theorem tqt_527 : Cond.instanceMethod yM_move ∈ tqW := tq_in 527 (by decide +kernel) rfl
set_option maxRecDepth 100000 in
theorem tqt_528 : Cond.code yM_move cM_move 4 none ∈ tqW := tq_in 528 (by rfl) rfl
theorem tqt_529 : Cond.methodLink RL 103 yM_word ∈ tqW := tq_in 529 (by decide +kernel) rfl
theorem tqt_530 : Cond.instanceMethod yM_word ∈ tqW := tq_in 530 (by decide +kernel) rfl
theorem tqt_531 : Cond.selects RM yM_word yM_word ∈ tqW := tq_in 531 (by decide +kernel) rfl
set_option maxRecDepth 100000 in
theorem tqt_532 : Cond.code yM_word cM_word 6 (some .long) ∈ tqW := tq_in 532 (by rfl) rfl
theorem tqt_533 : Cond.methodLink RL 107 yM_compare ∈ tqW := tq_in 533 (by decide +kernel) rfl
theorem tqt_534 : Cond.instanceMethod yM_compare ∈ tqW := tq_in 534 (by decide +kernel) rfl
theorem tqt_535 : Cond.selects RM yM_compare yM_compare ∈ tqW := tq_in 535 (by decide +kernel) rfl
set_option maxRecDepth 100000 in
theorem tqt_536 : Cond.code yM_compare cM_compare 5 (some .int) ∈ tqW := tq_in 536 (by rfl) rfl
theorem tqt_537 : Cond.constantLong RL 61 (4294967295) ∈ tqW := tq_in 537 (by decide +kernel) rfl
theorem tqinX0 : ∀ w ∈ wsX00, w ∈ tqW := tq_sub (by decide +kernel) (by decide +kernel)
theorem tqinX1 : ∀ w ∈ wsX10, w ∈ tqW := tq_sub (by decide +kernel) (by decide +kernel)
theorem tqinX2 : ∀ w ∈ wsX20, w ∈ tqW := tq_sub (by decide +kernel) (by decide +kernel)
theorem tqinM : ∀ w ∈ wsM0, w ∈ tqW := tq_sub (by decide +kernel) (by decide +kernel)
abbrev tqCl : List vw_C := [(RX0, TX0, 4), (RX1, TX1, 2), (RX2, TX2, 6), (RM, TM, 4)]
def tqN (U : State) : Prop := va_Nw (Cond.methodLinkNest RX2 35 yX0_init RX2) U ∧ va_Nw (Cond.methodLinkNest RX0 7 yX2_patternOf RX2) U ∧ va_Nw (Cond.methodLinkNest RX0 13 yX2_notOf RX2) U
theorem tqN_same {u U : State} (h : u.vm = U.vm) (q : tqN u) : tqN U := ⟨va_Nw.same rfl h q.1, va_Nw.same rfl h q.2.1, va_Nw.same rfl h q.2.2⟩
theorem tqN_warm {s U : State} (hW : s.WarmedH U.vm) (q : tqN s) : tqN U := ⟨va_Nw.warmM hW q.1, va_Nw.warmM hW q.2.1, va_Nw.warmM hW q.2.2⟩
abbrev tqw_J6_numberOfLeadingZeros_0f7a4 : List Cond := Cond.code yJ6_numberOfLeadingZeros_0f7a4 cJ6_numberOfLeadingZeros_0f7a4 2 (some .int) :: tqW
abbrev tqw_J6_numberOfTrailingZeros_0f7a4 : List Cond := Cond.code yJ6_numberOfTrailingZeros_0f7a4 cJ6_numberOfTrailingZeros_0f7a4 2 (some .int) :: tqW
abbrev tqw_J13_numberOfLeadingZeros_95d88 : List Cond := Cond.code yJ13_numberOfLeadingZeros_95d88 cJ13_numberOfLeadingZeros_95d88 3 (some .int) :: tqW
abbrev tqw_J13_numberOfTrailingZeros_95d88 : List Cond := Cond.code yJ13_numberOfTrailingZeros_95d88 cJ13_numberOfTrailingZeros_95d88 3 (some .int) :: tqW
abbrev tqw_X2_sizeOfWidth : List Cond := Cond.code yX2_sizeOfWidth cX2_sizeOfWidth 1 (some .int) :: tqW
abbrev tqw_X2_patternOf : List Cond := Cond.code yX2_patternOf cX2_patternOf 2 (some .int) :: tqW
abbrev tqw_X2_notOf : List Cond := Cond.code yX2_notOf cX2_notOf 1 (some .int) :: tqW
abbrev tqw_X2_isSum : List Cond := Cond.code yX2_isSum cX2_isSum 1 (some .boolean) :: tqW
abbrev tqw_X2_floorRoot : List Cond := Cond.code yX2_floorRoot cX2_floorRoot 7 (some .long) :: tqW
abbrev tqw_X2_positivePattern : List Cond := Cond.code yX2_positivePattern cX2_positivePattern 19 (some .int) :: tqW
abbrev tqw_X2_signedPattern : List Cond := Cond.code yX2_signedPattern cX2_signedPattern 7 (some .int) :: tqW
abbrev tqw_X2_rounded : List Cond := Cond.code yX2_rounded cX2_rounded 7 (some .int) :: tqW
abbrev tqw_X2_nearestWhole : List Cond := Cond.code yX2_nearestWhole cX2_nearestWhole 9 (some .long) :: tqW
abbrev tqw_X0_readBody : List Cond := Cond.code yX0_readBody cX0_readBody 12 none :: tqW
abbrev tqw_X0_read : List Cond := Cond.code yX0_read cX0_read 4 none :: tqW
abbrev tqw_X1_setZero : List Cond := Cond.code yX1_setZero cX1_setZero 2 none :: tqW
abbrev tqw_X1_setNot : List Cond := Cond.code yX1_setNot cX1_setNot 1 none :: tqW
abbrev tqw_X1_hasBitsBelow : List Cond := Cond.code yX1_hasBitsBelow cX1_hasBitsBelow 4 (some .boolean) :: tqW
abbrev tqw_X1_isNot : List Cond := Cond.code yX1_isNot cX1_isNot 2 (some .boolean) :: tqW
abbrev tqw_X1_isNegative : List Cond := Cond.code yX1_isNegative cX1_isNegative 1 (some .boolean) :: tqW
abbrev tqw_X1_flip : List Cond := Cond.code yX1_flip cX1_flip 4 none :: tqW
abbrev tqw_X1_topBit : List Cond := Cond.code yX1_topBit cX1_topBit 2 (some .int) :: tqW
abbrev tqw_X1_leadingBits : List Cond := Cond.code yX1_leadingBits cX1_leadingBits 6 (some .long) :: tqW
abbrev tqw_X1_setBits : List Cond := Cond.code yX1_setBits cX1_setBits 6 none :: tqW
abbrev tqw_X1_copy : List Cond := Cond.code yX1_copy cX1_copy 3 none :: tqW
abbrev tqw_X1_include : List Cond := Cond.code yX1_include cX1_include 11 none :: tqW
abbrev tqw_X1_setProduct : List Cond := Cond.code yX1_setProduct cX1_setProduct 3 none :: tqW
abbrev tqw_X2_bits : List Cond := Cond.code yX2_bits cX2_bits 1 (some .int) :: tqW
abbrev tqw_X2_one : List Cond := Cond.code yX2_one cX2_one 1 (some .int) :: tqW
abbrev tqw_X2_next : List Cond := Cond.code yX2_next cX2_next 2 (some .int) :: tqW
abbrev tqw_X2_compare : List Cond := Cond.code yX2_compare cX2_compare 5 (some .int) :: tqW
abbrev tqw_X2_fromLong : List Cond := Cond.code yX2_fromLong cX2_fromLong 3 (some .int) :: tqW
abbrev tqw_X2_whole : List Cond := Cond.code yX2_whole cX2_whole 2 (some .int) :: tqW
abbrev tqw_X2_toLong : List Cond := Cond.code yX2_toLong cX2_toLong 5 (some .long) :: tqW
abbrev tqw_X2_convert : List Cond := Cond.code yX2_convert cX2_convert 4 (some .int) :: tqW
abbrev tqw_X2_root : List Cond := Cond.code yX2_root cX2_root 8 (some .int) :: tqW
abbrev tqw_X2_divide : List Cond := Cond.code yX2_divide cX2_divide 10 (some .int) :: tqW
abbrev tqw_X2_setProduct : List Cond := Cond.code yX2_setProduct cX2_setProduct 4 none :: tqW
abbrev tqw_X2_roundedSum : List Cond := Cond.code yX2_roundedSum cX2_roundedSum 5 (some .int) :: tqW
abbrev tqw_X2_fused : List Cond := Cond.code yX2_fused cX2_fused 4 (some .int) :: tqW
abbrev tqw_X2_add : List Cond := Cond.code yX2_add cX2_add 3 (some .int) :: tqW
abbrev tqw_X2_subtract : List Cond := Cond.code yX2_subtract cX2_subtract 3 (some .int) :: tqW
abbrev tqw_X2_multiply : List Cond := Cond.code yX2_multiply cX2_multiply 3 (some .int) :: tqW
abbrev tqw_X2_clear : List Cond := Cond.code yX2_clear cX2_clear 2 (some .boolean) :: tqW
abbrev tqw_X2_merge : List Cond := Cond.code yX2_merge cX2_merge 2 (some .boolean) :: tqW
abbrev tqw_X2_negate : List Cond := Cond.code yX2_negate cX2_negate 2 (some .boolean) :: tqW
abbrev tqw_X2_word : List Cond := Cond.code yX2_word cX2_word 3 (some .long) :: tqW
abbrev tqw_X2_total : List Cond := Cond.code yX2_total cX2_total 2 (some .int) :: tqW
abbrev tqw_X2_collect : List Cond := Cond.code yX2_collect cX2_collect 5 (some .boolean) :: tqW
abbrev tqw_M_sizeOf : List Cond := Cond.code yM_sizeOf cM_sizeOf 1 (some .int) :: tqW
abbrev tqw_M_not : List Cond := Cond.code yM_not cM_not 1 (some .int) :: tqW
abbrev tqw_M_isSum : List Cond := Cond.code yM_isSum cM_isSum 1 (some .boolean) :: tqW
abbrev tqw_M_bits : List Cond := Cond.code yM_bits cM_bits 1 (some .int) :: tqW
abbrev tqw_M_zero : List Cond := Cond.code yM_zero cM_zero 3 none :: tqW
abbrev tqw_M_move : List Cond := Cond.code yM_move cM_move 4 none :: tqW
abbrev tqw_M_order : List Cond := Cond.code yM_order cM_order 6 (some .int) :: tqW
abbrev tqw_M_isZero : List Cond := Cond.code yM_isZero cM_isZero 4 (some .boolean) :: tqW
abbrev tqw_M_plus : List Cond := Cond.code yM_plus cM_plus 6 none :: tqW
abbrev tqw_M_apart : List Cond := Cond.code yM_apart cM_apart 7 none :: tqW
abbrev tqw_M_times : List Cond := Cond.code yM_times cM_times 12 none :: tqW
abbrev tqw_M_raise : List Cond := Cond.code yM_raise cM_raise 8 none :: tqW
abbrev tqw_M_lower : List Cond := Cond.code yM_lower cM_lower 8 none :: tqW
abbrev tqw_M_bit : List Cond := Cond.code yM_bit cM_bit 3 (some .int) :: tqW
abbrev tqw_M_setLong : List Cond := Cond.code yM_setLong cM_setLong 5 none :: tqW
abbrev tqw_M_value : List Cond := Cond.code yM_value cM_value 14 none :: tqW
abbrev tqw_M_pattern : List Cond := Cond.code yM_pattern cM_pattern 2 (some .int) :: tqW
abbrev tqw_M_isNot : List Cond := Cond.code yM_isNot cM_isNot 2 (some .boolean) :: tqW
abbrev tqw_M_negative : List Cond := Cond.code yM_negative cM_negative 2 (some .boolean) :: tqW
abbrev tqw_M_load : List Cond := Cond.code yM_load cM_load 6 none :: tqW
abbrev tqw_M_factor : List Cond := Cond.code yM_factor cM_factor 2 none :: tqW
abbrev tqw_M_against : List Cond := Cond.code yM_against cM_against 4 (some .int) :: tqW
abbrev tqw_M_rounded : List Cond := Cond.code yM_rounded cM_rounded 11 (some .int) :: tqW
abbrev tqw_M_joined : List Cond := Cond.code yM_joined cM_joined 3 (some .boolean) :: tqW
abbrev tqw_M_together : List Cond := Cond.code yM_together cM_together 5 (some .int) :: tqW
abbrev tqw_M_add : List Cond := Cond.code yM_add cM_add 3 (some .int) :: tqW
abbrev tqw_M_subtract : List Cond := Cond.code yM_subtract cM_subtract 3 (some .int) :: tqW
abbrev tqw_M_fused : List Cond := Cond.code yM_fused cM_fused 5 (some .int) :: tqW
abbrev tqw_M_multiply : List Cond := Cond.code yM_multiply cM_multiply 3 (some .int) :: tqW
abbrev tqw_M_divide : List Cond := Cond.code yM_divide cM_divide 3 (some .int) :: tqW
abbrev tqw_M_root : List Cond := Cond.code yM_root cM_root 2 (some .int) :: tqW
abbrev tqw_M_nearest : List Cond := Cond.code yM_nearest cM_nearest 5 none :: tqW
abbrev tqw_M_whole : List Cond := Cond.code yM_whole cM_whole 2 (some .int) :: tqW
abbrev tqw_M_next : List Cond := Cond.code yM_next cM_next 2 (some .int) :: tqW
abbrev tqw_M_fromLong : List Cond := Cond.code yM_fromLong cM_fromLong 3 (some .int) :: tqW
abbrev tqw_M_toLong : List Cond := Cond.code yM_toLong cM_toLong 8 (some .long) :: tqW
abbrev tqw_M_convert : List Cond := Cond.code yM_convert cM_convert 4 (some .int) :: tqW
abbrev tqw_M_lost : List Cond := Cond.code yM_lost cM_lost 4 (some .boolean) :: tqW
abbrev tqw_M_lose : List Cond := Cond.code yM_lose cM_lose 3 none :: tqW
abbrev tqw_M_clear : List Cond := Cond.code yM_clear cM_clear 3 (some .boolean) :: tqW
abbrev tqw_M_pour : List Cond := Cond.code yM_pour cM_pour 7 none :: tqW
abbrev tqw_M_collect : List Cond := Cond.code yM_collect cM_collect 5 (some .boolean) :: tqW
abbrev tqw_M_draw : List Cond := Cond.code yM_draw cM_draw 4 none :: tqW
abbrev tqw_M_merge : List Cond := Cond.code yM_merge cM_merge 2 (some .boolean) :: tqW
abbrev tqw_M_negate : List Cond := Cond.code yM_negate cM_negate 2 (some .boolean) :: tqW
abbrev tqw_M_total : List Cond := Cond.code yM_total cM_total 3 (some .int) :: tqW
abbrev tqw_M_word : List Cond := Cond.code yM_word cM_word 6 (some .long) :: tqW
abbrev tqw_M_compare : List Cond := Cond.code yM_compare cM_compare 5 (some .int) :: tqW
abbrev tqw_X0_init : List Cond := Cond.code yX0_init cX0_init 1 none :: tqW
abbrev tqw_X1_init : List Cond := Cond.code yX1_init cX1_init 2 none :: tqW
abbrev tqw_X2_init : List Cond := Cond.code yX2_init cX2_init 2 none :: tqW
abbrev tqw_M_init : List Cond := Cond.code yM_init cM_init 2 none :: tqW
abbrev tqw_L_cell : List Cond := Cond.code yL_cell cL_cell 2 (some .int) :: tqW
