def RX0 : String := "TaperedQuire$Operand"
def TX0 : u_T := fun k => match k with
  | 0 => ("TaperedQuire$Operand", "not", "Z", false)
  | 1 => ("TaperedQuire$Operand", "negative", "Z", false)
  | 2 => ("TaperedQuire$Operand", "magnitude", "J", false)
  | _ => ("TaperedQuire$Operand", "exponent", "I", false)
def tyX0 : Nat → FieldType := fun k => match k with
  | 0 => .boolean
  | 1 => .boolean
  | 2 => .long
  | _ => .int
abbrev wsX00 : List Cond := u_ws RX0 TX0 4
theorem nmX0 : ∀ a, a < 4 → ∀ b, b < 4 → a ≠ b → (TX0 a).2.1 ≠ (TX0 b).2.1 := by decide +kernel
theorem tyX0_ok : ∀ k, k < 4 → parseFieldDescriptor (TX0 k).2.2.1 = some (tyX0 k) := by decide +kernel
abbrev cX0_init : ByteArray := prog_2_method_1_code
def yX0_init : MethodName := ⟨RX0, "<init>", "()V"⟩
abbrev cX0_read : ByteArray := prog_2_method_2_code
def yX0_read : MethodName := ⟨RX0, "read", "(II)V"⟩
abbrev cX0_readBody : ByteArray := prog_2_method_3_code
def yX0_readBody : MethodName := ⟨RX0, "readBody", "(I)V"⟩
def RX1 : String := "TaperedQuire$Sum"
def TX1 : u_T := fun k => match k with
  | 0 => ("TaperedQuire$Sum", "placeOfOne", "I", true)
  | _ => ("TaperedQuire$Sum", "words", "[J", true)
def tyX1 : Nat → FieldType := fun k => match k with
  | 0 => .int
  | _ => .array .long
abbrev wsX10 : List Cond := u_ws RX1 TX1 2
theorem nmX1 : ∀ a, a < 2 → ∀ b, b < 2 → a ≠ b → (TX1 a).2.1 ≠ (TX1 b).2.1 := by decide +kernel
theorem tyX1_ok : ∀ k, k < 2 → parseFieldDescriptor (TX1 k).2.2.1 = some (tyX1 k) := by decide +kernel
abbrev cX1_init : ByteArray := prog_3_method_1_code
def yX1_init : MethodName := ⟨RX1, "<init>", "(I)V"⟩
abbrev cX1_setZero : ByteArray := prog_3_method_2_code
def yX1_setZero : MethodName := ⟨RX1, "setZero", "()V"⟩
abbrev cX1_setNot : ByteArray := prog_3_method_3_code
def yX1_setNot : MethodName := ⟨RX1, "setNot", "()V"⟩
abbrev cX1_isNot : ByteArray := prog_3_method_4_code
def yX1_isNot : MethodName := ⟨RX1, "isNot", "()Z"⟩
abbrev cX1_isNegative : ByteArray := prog_3_method_5_code
def yX1_isNegative : MethodName := ⟨RX1, "isNegative", "()Z"⟩
abbrev cX1_copy : ByteArray := prog_3_method_6_code
def yX1_copy : MethodName := ⟨RX1, "copy", "(LTaperedQuire$Sum;)V"⟩
abbrev cX1_setProduct : ByteArray := prog_3_method_7_code
def yX1_setProduct : MethodName := ⟨RX1, "setProduct", "(LTaperedQuire$Operand;LTaperedQuire$Operand;)V"⟩
abbrev cX1_setBits : ByteArray := prog_3_method_8_code
def yX1_setBits : MethodName := ⟨RX1, "setBits", "(JI)V"⟩
abbrev cX1_flip : ByteArray := prog_3_method_9_code
def yX1_flip : MethodName := ⟨RX1, "flip", "()V"⟩
abbrev cX1_include : ByteArray := prog_3_method_10_code
def yX1_include : MethodName := ⟨RX1, "include", "(LTaperedQuire$Sum;)V"⟩
abbrev cX1_topBit : ByteArray := prog_3_method_11_code
def yX1_topBit : MethodName := ⟨RX1, "topBit", "()I"⟩
abbrev cX1_leadingBits : ByteArray := prog_3_method_12_code
def yX1_leadingBits : MethodName := ⟨RX1, "leadingBits", "(I)J"⟩
abbrev cX1_hasBitsBelow : ByteArray := prog_3_method_13_code
def yX1_hasBitsBelow : MethodName := ⟨RX1, "hasBitsBelow", "(I)Z"⟩
def RX2 : String := "TaperedQuire"
def TX2 : u_T := fun k => match k with
  | 0 => ("TaperedQuire", "size", "I", true)
  | 1 => ("TaperedQuire", "sums", "[LTaperedQuire$Sum;", true)
  | 2 => ("TaperedQuire", "exact", "LTaperedQuire$Sum;", true)
  | 3 => ("TaperedQuire", "term", "LTaperedQuire$Sum;", true)
  | 4 => ("TaperedQuire", "left", "LTaperedQuire$Operand;", true)
  | _ => ("TaperedQuire", "right", "LTaperedQuire$Operand;", true)
def tyX2 : Nat → FieldType := fun k => match k with
  | 0 => .int
  | 1 => .array (.object "TaperedQuire$Sum")
  | 2 => .object "TaperedQuire$Sum"
  | 3 => .object "TaperedQuire$Sum"
  | 4 => .object "TaperedQuire$Operand"
  | _ => .object "TaperedQuire$Operand"
abbrev wsX20 : List Cond := u_ws RX2 TX2 6
theorem nmX2 : ∀ a, a < 6 → ∀ b, b < 6 → a ≠ b → (TX2 a).2.1 ≠ (TX2 b).2.1 := by decide +kernel
theorem tyX2_ok : ∀ k, k < 6 → parseFieldDescriptor (TX2 k).2.2.1 = some (tyX2 k) := by decide +kernel
abbrev cX2_init : ByteArray := prog_1_method_1_code
def yX2_init : MethodName := ⟨RX2, "<init>", "(I)V"⟩
abbrev cX2_bits : ByteArray := prog_1_method_2_code
def yX2_bits : MethodName := ⟨RX2, "bits", "()I"⟩
abbrev cX2_add : ByteArray := prog_1_method_3_code
def yX2_add : MethodName := ⟨RX2, "add", "(II)I"⟩
abbrev cX2_subtract : ByteArray := prog_1_method_4_code
def yX2_subtract : MethodName := ⟨RX2, "subtract", "(II)I"⟩
abbrev cX2_multiply : ByteArray := prog_1_method_5_code
def yX2_multiply : MethodName := ⟨RX2, "multiply", "(II)I"⟩
abbrev cX2_divide : ByteArray := prog_1_method_6_code
def yX2_divide : MethodName := ⟨RX2, "divide", "(II)I"⟩
abbrev cX2_root : ByteArray := prog_1_method_7_code
def yX2_root : MethodName := ⟨RX2, "root", "(I)I"⟩
abbrev cX2_fused : ByteArray := prog_1_method_8_code
def yX2_fused : MethodName := ⟨RX2, "fused", "(III)I"⟩
abbrev cX2_whole : ByteArray := prog_1_method_9_code
def yX2_whole : MethodName := ⟨RX2, "whole", "(I)I"⟩
abbrev cX2_next : ByteArray := prog_1_method_10_code
def yX2_next : MethodName := ⟨RX2, "next", "(I)I"⟩
abbrev cX2_sizeOfWidth : ByteArray := prog_1_method_21_code
def yX2_sizeOfWidth : MethodName := ⟨RX2, "sizeOfWidth", "(I)I"⟩
abbrev cX2_patternOf : ByteArray := prog_1_method_22_code
def yX2_patternOf : MethodName := ⟨RX2, "patternOf", "(II)I"⟩
abbrev cX2_notOf : ByteArray := prog_1_method_23_code
def yX2_notOf : MethodName := ⟨RX2, "notOf", "(I)I"⟩
abbrev cX2_one : ByteArray := prog_1_method_24_code
def yX2_one : MethodName := ⟨RX2, "one", "()I"⟩
abbrev cX2_setProduct : ByteArray := prog_1_method_26_code
def yX2_setProduct : MethodName := ⟨RX2, "setProduct", "(LTaperedQuire$Sum;II)V"⟩
abbrev cX2_floorRoot : ByteArray := prog_1_method_27_code
def yX2_floorRoot : MethodName := ⟨RX2, "floorRoot", "(J)J"⟩
abbrev cX2_nearestWhole : ByteArray := prog_1_method_28_code
def yX2_nearestWhole : MethodName := ⟨RX2, "nearestWhole", "(LTaperedQuire$Operand;)J"⟩
abbrev cX2_roundedSum : ByteArray := prog_1_method_29_code
def yX2_roundedSum : MethodName := ⟨RX2, "roundedSum", "(LTaperedQuire$Sum;)I"⟩
abbrev cX2_rounded : ByteArray := prog_1_method_30_code
def yX2_rounded : MethodName := ⟨RX2, "rounded", "(IZJIZ)I"⟩
abbrev cX2_signedPattern : ByteArray := prog_1_method_31_code
def yX2_signedPattern : MethodName := ⟨RX2, "signedPattern", "(IZIJZ)I"⟩
abbrev cX2_positivePattern : ByteArray := prog_1_method_32_code
def yX2_positivePattern : MethodName := ⟨RX2, "positivePattern", "(IIJZ)I"⟩
def RJ6 : String := "java/lang/Integer"
abbrev cJ6_numberOfLeadingZeros_0f7a4 : ByteArray := prog_6_method_47_code
def yJ6_numberOfLeadingZeros_0f7a4 : MethodName := ⟨RJ6, "numberOfLeadingZeros", "(I)I"⟩
abbrev cJ6_numberOfTrailingZeros_0f7a4 : ByteArray := prog_6_method_48_code
def yJ6_numberOfTrailingZeros_0f7a4 : MethodName := ⟨RJ6, "numberOfTrailingZeros", "(I)I"⟩
def RJ13 : String := "java/lang/Long"
abbrev cJ13_numberOfLeadingZeros_95d88 : ByteArray := prog_7_method_48_code
def yJ13_numberOfLeadingZeros_95d88 : MethodName := ⟨RJ13, "numberOfLeadingZeros", "(J)I"⟩
abbrev cJ13_numberOfTrailingZeros_95d88 : ByteArray := prog_7_method_49_code
def yJ13_numberOfTrailingZeros_95d88 : MethodName := ⟨RJ13, "numberOfTrailingZeros", "(J)I"⟩
def RJ9 : String := "java/lang/Math"
abbrev cJ9_abs_0f7a4 : ByteArray := prog_8_method_59_code
def yJ9_abs_0f7a4 : MethodName := ⟨RJ9, "abs", "(I)I"⟩
abbrev cJ9_min_7cf53 : ByteArray := prog_8_method_69_code
def yJ9_min_7cf53 : MethodName := ⟨RJ9, "min", "(II)I"⟩
def RL : String := "TaperedQuireLaw"
abbrev cL_law : ByteArray := code
def yL_law : MethodName := ⟨RL, "law", "([I)Z"⟩
theorem dX0_init_0 : decode cX0_init 0 = .ok (.aload_n 0, 1) := by decide +kernel
theorem dX0_init_1 : decode cX0_init 1 = .ok (.invokespecial 1, 3) := by decide +kernel
theorem dX0_init_4 : decode cX0_init 4 = .ok (.return_, 1) := by decide +kernel
theorem dX0_read_0 : decode cX0_read 0 = .ok (.iload_n 1, 1) := by decide +kernel
theorem dX0_read_1 : decode cX0_read 1 = .ok (.iload_n 2, 1) := by decide +kernel
theorem dX0_read_2 : decode cX0_read 2 = .ok (.invokestatic 7, 3) := by decide +kernel
theorem dX0_read_5 : decode cX0_read 5 = .ok (.istore_n 3, 1) := by decide +kernel
theorem dX0_read_6 : decode cX0_read 6 = .ok (.aload_n 0, 1) := by decide +kernel
theorem dX0_read_7 : decode cX0_read 7 = .ok (.iload_n 3, 1) := by decide +kernel
theorem dX0_read_8 : decode cX0_read 8 = .ok (.iload_n 2, 1) := by decide +kernel
theorem dX0_read_9 : decode cX0_read 9 = .ok (.invokestatic 13, 3) := by decide +kernel
theorem dX0_read_12 : decode cX0_read 12 = .ok (.if_icmp .ne 7, 3) := by decide +kernel
theorem dX0_read_15 : decode cX0_read 15 = .ok (.iconst 1, 1) := by decide +kernel
theorem dX0_read_16 : decode cX0_read 16 = .ok (.goto 4, 3) := by decide +kernel
theorem dX0_read_19 : decode cX0_read 19 = .ok (.iconst 0, 1) := by decide +kernel
theorem dX0_read_20 : decode cX0_read 20 = .ok (.putfield 17, 3) := by decide +kernel
theorem dX0_read_23 : decode cX0_read 23 = .ok (.aload_n 0, 1) := by decide +kernel
theorem dX0_read_24 : decode cX0_read 24 = .ok (.iload_n 3, 1) := by decide +kernel
theorem dX0_read_25 : decode cX0_read 25 = .ok (.ifCond .ge 7, 3) := by decide +kernel
theorem dX0_read_28 : decode cX0_read 28 = .ok (.iconst 1, 1) := by decide +kernel
theorem dX0_read_29 : decode cX0_read 29 = .ok (.goto 4, 3) := by decide +kernel
theorem dX0_read_32 : decode cX0_read 32 = .ok (.iconst 0, 1) := by decide +kernel
theorem dX0_read_33 : decode cX0_read 33 = .ok (.putfield 23, 3) := by decide +kernel
theorem dX0_read_36 : decode cX0_read 36 = .ok (.aload_n 0, 1) := by decide +kernel
theorem dX0_read_37 : decode cX0_read 37 = .ok (.lconst 0, 1) := by decide +kernel
theorem dX0_read_38 : decode cX0_read 38 = .ok (.putfield 26, 3) := by decide +kernel
theorem dX0_read_41 : decode cX0_read 41 = .ok (.aload_n 0, 1) := by decide +kernel
theorem dX0_read_42 : decode cX0_read 42 = .ok (.iconst 0, 1) := by decide +kernel
theorem dX0_read_43 : decode cX0_read 43 = .ok (.putfield 30, 3) := by decide +kernel
theorem dX0_read_46 : decode cX0_read 46 = .ok (.iload_n 3, 1) := by decide +kernel
theorem dX0_read_47 : decode cX0_read 47 = .ok (.ifCond .eq 23, 3) := by decide +kernel
theorem dX0_read_50 : decode cX0_read 50 = .ok (.aload_n 0, 1) := by decide +kernel
theorem dX0_read_51 : decode cX0_read 51 = .ok (.getfield 17, 3) := by decide +kernel
theorem dX0_read_54 : decode cX0_read 54 = .ok (.ifCond .ne 16, 3) := by decide +kernel
theorem dX0_read_57 : decode cX0_read 57 = .ok (.aload_n 0, 1) := by decide +kernel
theorem dX0_read_58 : decode cX0_read 58 = .ok (.iload_n 3, 1) := by decide +kernel
theorem dX0_read_59 : decode cX0_read 59 = .ok (.invokestatic 34, 3) := by decide +kernel
theorem dX0_read_62 : decode cX0_read 62 = .ok (.bipush 33, 2) := by decide +kernel
theorem dX0_read_64 : decode cX0_read 64 = .ok (.iload_n 2, 1) := by decide +kernel
theorem dX0_read_65 : decode cX0_read 65 = .ok (.isub, 1) := by decide +kernel
theorem dX0_read_66 : decode cX0_read 66 = .ok (.ishl, 1) := by decide +kernel
theorem dX0_read_67 : decode cX0_read 67 = .ok (.invokevirtual 39, 3) := by decide +kernel
theorem dX0_read_70 : decode cX0_read 70 = .ok (.return_, 1) := by decide +kernel
theorem dX0_readBody_0 : decode cX0_readBody 0 = .ok (.iload_n 1, 1) := by decide +kernel
theorem dX0_readBody_1 : decode cX0_readBody 1 = .ok (.ifCond .ge 7, 3) := by decide +kernel
theorem dX0_readBody_4 : decode cX0_readBody 4 = .ok (.iconst 1, 1) := by decide +kernel
theorem dX0_readBody_5 : decode cX0_readBody 5 = .ok (.goto 4, 3) := by decide +kernel
theorem dX0_readBody_8 : decode cX0_readBody 8 = .ok (.iconst 0, 1) := by decide +kernel
theorem dX0_readBody_9 : decode cX0_readBody 9 = .ok (.istore_n 2, 1) := by decide +kernel
theorem dX0_readBody_10 : decode cX0_readBody 10 = .ok (.iload_n 2, 1) := by decide +kernel
theorem dX0_readBody_11 : decode cX0_readBody 11 = .ok (.ifCond .eq 9, 3) := by decide +kernel
theorem dX0_readBody_14 : decode cX0_readBody 14 = .ok (.iload_n 1, 1) := by decide +kernel
theorem dX0_readBody_15 : decode cX0_readBody 15 = .ok (.iconst (-1), 1) := by decide +kernel
theorem dX0_readBody_16 : decode cX0_readBody 16 = .ok (.ixor, 1) := by decide +kernel
theorem dX0_readBody_17 : decode cX0_readBody 17 = .ok (.goto 4, 3) := by decide +kernel
theorem dX0_readBody_20 : decode cX0_readBody 20 = .ok (.iload_n 1, 1) := by decide +kernel
theorem dX0_readBody_21 : decode cX0_readBody 21 = .ok (.invokestatic 43, 3) := by decide +kernel
theorem dX0_readBody_24 : decode cX0_readBody 24 = .ok (.istore_n 3, 1) := by decide +kernel
theorem dX0_readBody_25 : decode cX0_readBody 25 = .ok (.iload_n 2, 1) := by decide +kernel
theorem dX0_readBody_26 : decode cX0_readBody 26 = .ok (.ifCond .eq 9, 3) := by decide +kernel
theorem dX0_readBody_29 : decode cX0_readBody 29 = .ok (.iload_n 3, 1) := by decide +kernel
theorem dX0_readBody_30 : decode cX0_readBody 30 = .ok (.iconst 1, 1) := by decide +kernel
theorem dX0_readBody_31 : decode cX0_readBody 31 = .ok (.isub, 1) := by decide +kernel
theorem dX0_readBody_32 : decode cX0_readBody 32 = .ok (.goto 5, 3) := by decide +kernel
theorem dX0_readBody_35 : decode cX0_readBody 35 = .ok (.iload_n 3, 1) := by decide +kernel
theorem dX0_readBody_36 : decode cX0_readBody 36 = .ok (.ineg, 1) := by decide +kernel
theorem dX0_readBody_37 : decode cX0_readBody 37 = .ok (.istore 4, 2) := by decide +kernel
theorem dX0_readBody_39 : decode cX0_readBody 39 = .ok (.iload_n 1, 1) := by decide +kernel
theorem dX0_readBody_40 : decode cX0_readBody 40 = .ok (.iload_n 3, 1) := by decide +kernel
theorem dX0_readBody_41 : decode cX0_readBody 41 = .ok (.ishl, 1) := by decide +kernel
theorem dX0_readBody_42 : decode cX0_readBody 42 = .ok (.iconst 1, 1) := by decide +kernel
theorem dX0_readBody_43 : decode cX0_readBody 43 = .ok (.ishl, 1) := by decide +kernel
theorem dX0_readBody_44 : decode cX0_readBody 44 = .ok (.istore 5, 2) := by decide +kernel
theorem dX0_readBody_46 : decode cX0_readBody 46 = .ok (.iconst 4, 1) := by decide +kernel
theorem dX0_readBody_47 : decode cX0_readBody 47 = .ok (.iload 4, 2) := by decide +kernel
theorem dX0_readBody_49 : decode cX0_readBody 49 = .ok (.imul, 1) := by decide +kernel
theorem dX0_readBody_50 : decode cX0_readBody 50 = .ok (.iload 5, 2) := by decide +kernel
theorem dX0_readBody_52 : decode cX0_readBody 52 = .ok (.bipush 30, 2) := by decide +kernel
theorem dX0_readBody_54 : decode cX0_readBody 54 = .ok (.iushr, 1) := by decide +kernel
theorem dX0_readBody_55 : decode cX0_readBody 55 = .ok (.iadd, 1) := by decide +kernel
theorem dX0_readBody_56 : decode cX0_readBody 56 = .ok (.istore 6, 2) := by decide +kernel
theorem dX0_readBody_58 : decode cX0_readBody 58 = .ok (.iload 5, 2) := by decide +kernel
theorem dX0_readBody_60 : decode cX0_readBody 60 = .ok (.iconst 2, 1) := by decide +kernel
theorem dX0_readBody_61 : decode cX0_readBody 61 = .ok (.ishl, 1) := by decide +kernel
theorem dX0_readBody_62 : decode cX0_readBody 62 = .ok (.i2l, 1) := by decide +kernel
theorem dX0_readBody_63 : decode cX0_readBody 63 = .ok (.ldc2_w 48, 3) := by decide +kernel
theorem dX0_readBody_66 : decode cX0_readBody 66 = .ok (.land, 1) := by decide +kernel
theorem dX0_readBody_67 : decode cX0_readBody 67 = .ok (.lstore 7, 2) := by decide +kernel
theorem dX0_readBody_69 : decode cX0_readBody 69 = .ok (.ldc2_w 50, 3) := by decide +kernel
theorem dX0_readBody_72 : decode cX0_readBody 72 = .ok (.lload 7, 2) := by decide +kernel
theorem dX0_readBody_74 : decode cX0_readBody 74 = .ok (.lor, 1) := by decide +kernel
theorem dX0_readBody_75 : decode cX0_readBody 75 = .ok (.lstore 9, 2) := by decide +kernel
theorem dX0_readBody_77 : decode cX0_readBody 77 = .ok (.lload 9, 2) := by decide +kernel
theorem dX0_readBody_79 : decode cX0_readBody 79 = .ok (.invokestatic 52, 3) := by decide +kernel
theorem dX0_readBody_82 : decode cX0_readBody 82 = .ok (.istore 11, 2) := by decide +kernel
theorem dX0_readBody_84 : decode cX0_readBody 84 = .ok (.aload_n 0, 1) := by decide +kernel
theorem dX0_readBody_85 : decode cX0_readBody 85 = .ok (.lload 9, 2) := by decide +kernel
theorem dX0_readBody_87 : decode cX0_readBody 87 = .ok (.iload 11, 2) := by decide +kernel
theorem dX0_readBody_89 : decode cX0_readBody 89 = .ok (.lshr, 1) := by decide +kernel
theorem dX0_readBody_90 : decode cX0_readBody 90 = .ok (.putfield 26, 3) := by decide +kernel
theorem dX0_readBody_93 : decode cX0_readBody 93 = .ok (.aload_n 0, 1) := by decide +kernel
theorem dX0_readBody_94 : decode cX0_readBody 94 = .ok (.iload 6, 2) := by decide +kernel
theorem dX0_readBody_96 : decode cX0_readBody 96 = .ok (.bipush 32, 2) := by decide +kernel
theorem dX0_readBody_98 : decode cX0_readBody 98 = .ok (.isub, 1) := by decide +kernel
theorem dX0_readBody_99 : decode cX0_readBody 99 = .ok (.iload 11, 2) := by decide +kernel
theorem dX0_readBody_101 : decode cX0_readBody 101 = .ok (.iadd, 1) := by decide +kernel
theorem dX0_readBody_102 : decode cX0_readBody 102 = .ok (.putfield 30, 3) := by decide +kernel
theorem dX0_readBody_105 : decode cX0_readBody 105 = .ok (.return_, 1) := by decide +kernel
theorem dX1_init_0 : decode cX1_init 0 = .ok (.aload_n 0, 1) := by decide +kernel
theorem dX1_init_1 : decode cX1_init 1 = .ok (.invokespecial 1, 3) := by decide +kernel
theorem dX1_init_4 : decode cX1_init 4 = .ok (.aload_n 0, 1) := by decide +kernel
theorem dX1_init_5 : decode cX1_init 5 = .ok (.bipush 8, 2) := by decide +kernel
theorem dX1_init_7 : decode cX1_init 7 = .ok (.iload_n 1, 1) := by decide +kernel
theorem dX1_init_8 : decode cX1_init 8 = .ok (.imul, 1) := by decide +kernel
theorem dX1_init_9 : decode cX1_init 9 = .ok (.bipush 16, 2) := by decide +kernel
theorem dX1_init_11 : decode cX1_init 11 = .ok (.isub, 1) := by decide +kernel
theorem dX1_init_12 : decode cX1_init 12 = .ok (.putfield 7, 3) := by decide +kernel
theorem dX1_init_15 : decode cX1_init 15 = .ok (.aload_n 0, 1) := by decide +kernel
theorem dX1_init_16 : decode cX1_init 16 = .ok (.bipush 16, 2) := by decide +kernel
theorem dX1_init_18 : decode cX1_init 18 = .ok (.iload_n 1, 1) := by decide +kernel
theorem dX1_init_19 : decode cX1_init 19 = .ok (.imul, 1) := by decide +kernel
theorem dX1_init_20 : decode cX1_init 20 = .ok (.bipush 64, 2) := by decide +kernel
theorem dX1_init_22 : decode cX1_init 22 = .ok (.idiv, 1) := by decide +kernel
theorem dX1_init_23 : decode cX1_init 23 = .ok (.newarray .long, 2) := by decide +kernel
theorem dX1_init_25 : decode cX1_init 25 = .ok (.putfield 13, 3) := by decide +kernel
theorem dX1_init_28 : decode cX1_init 28 = .ok (.return_, 1) := by decide +kernel
theorem dX1_setZero_0 : decode cX1_setZero 0 = .ok (.iconst 0, 1) := by decide +kernel
theorem dX1_setZero_1 : decode cX1_setZero 1 = .ok (.istore_n 1, 1) := by decide +kernel
theorem dX1_setZero_2 : decode cX1_setZero 2 = .ok (.iload_n 1, 1) := by decide +kernel
theorem dX1_setZero_3 : decode cX1_setZero 3 = .ok (.aload_n 0, 1) := by decide +kernel
theorem dX1_setZero_4 : decode cX1_setZero 4 = .ok (.getfield 13, 3) := by decide +kernel
theorem dX1_setZero_7 : decode cX1_setZero 7 = .ok (.arraylength, 1) := by decide +kernel
theorem dX1_setZero_8 : decode cX1_setZero 8 = .ok (.if_icmp .ge 16, 3) := by decide +kernel
theorem dX1_setZero_11 : decode cX1_setZero 11 = .ok (.aload_n 0, 1) := by decide +kernel
theorem dX1_setZero_12 : decode cX1_setZero 12 = .ok (.getfield 13, 3) := by decide +kernel
theorem dX1_setZero_15 : decode cX1_setZero 15 = .ok (.iload_n 1, 1) := by decide +kernel
theorem dX1_setZero_16 : decode cX1_setZero 16 = .ok (.lconst 0, 1) := by decide +kernel
theorem dX1_setZero_17 : decode cX1_setZero 17 = .ok (.lastore, 1) := by decide +kernel
theorem dX1_setZero_18 : decode cX1_setZero 18 = .ok (.iinc 1 1, 3) := by decide +kernel
theorem dX1_setZero_21 : decode cX1_setZero 21 = .ok (.goto (-19), 3) := by decide +kernel
theorem dX1_setZero_24 : decode cX1_setZero 24 = .ok (.return_, 1) := by decide +kernel
theorem dX1_setNot_0 : decode cX1_setNot 0 = .ok (.aload_n 0, 1) := by decide +kernel
theorem dX1_setNot_1 : decode cX1_setNot 1 = .ok (.invokevirtual 17, 3) := by decide +kernel
theorem dX1_setNot_4 : decode cX1_setNot 4 = .ok (.aload_n 0, 1) := by decide +kernel
theorem dX1_setNot_5 : decode cX1_setNot 5 = .ok (.getfield 13, 3) := by decide +kernel
theorem dX1_setNot_8 : decode cX1_setNot 8 = .ok (.aload_n 0, 1) := by decide +kernel
theorem dX1_setNot_9 : decode cX1_setNot 9 = .ok (.getfield 13, 3) := by decide +kernel
theorem dX1_setNot_12 : decode cX1_setNot 12 = .ok (.arraylength, 1) := by decide +kernel
theorem dX1_setNot_13 : decode cX1_setNot 13 = .ok (.iconst 1, 1) := by decide +kernel
theorem dX1_setNot_14 : decode cX1_setNot 14 = .ok (.isub, 1) := by decide +kernel
theorem dX1_setNot_15 : decode cX1_setNot 15 = .ok (.ldc2_w 22, 3) := by decide +kernel
theorem dX1_setNot_18 : decode cX1_setNot 18 = .ok (.lastore, 1) := by decide +kernel
theorem dX1_setNot_19 : decode cX1_setNot 19 = .ok (.return_, 1) := by decide +kernel
theorem dX1_isNot_0 : decode cX1_isNot 0 = .ok (.aload_n 0, 1) := by decide +kernel
theorem dX1_isNot_1 : decode cX1_isNot 1 = .ok (.getfield 13, 3) := by decide +kernel
theorem dX1_isNot_4 : decode cX1_isNot 4 = .ok (.arraylength, 1) := by decide +kernel
theorem dX1_isNot_5 : decode cX1_isNot 5 = .ok (.iconst 1, 1) := by decide +kernel
theorem dX1_isNot_6 : decode cX1_isNot 6 = .ok (.isub, 1) := by decide +kernel
theorem dX1_isNot_7 : decode cX1_isNot 7 = .ok (.istore_n 1, 1) := by decide +kernel
theorem dX1_isNot_8 : decode cX1_isNot 8 = .ok (.aload_n 0, 1) := by decide +kernel
theorem dX1_isNot_9 : decode cX1_isNot 9 = .ok (.getfield 13, 3) := by decide +kernel
theorem dX1_isNot_12 : decode cX1_isNot 12 = .ok (.iload_n 1, 1) := by decide +kernel
theorem dX1_isNot_13 : decode cX1_isNot 13 = .ok (.laload, 1) := by decide +kernel
theorem dX1_isNot_14 : decode cX1_isNot 14 = .ok (.ldc2_w 22, 3) := by decide +kernel
theorem dX1_isNot_17 : decode cX1_isNot 17 = .ok (.lcmp, 1) := by decide +kernel
theorem dX1_isNot_18 : decode cX1_isNot 18 = .ok (.ifCond .ne 18, 3) := by decide +kernel
theorem dX1_isNot_21 : decode cX1_isNot 21 = .ok (.aload_n 0, 1) := by decide +kernel
theorem dX1_isNot_22 : decode cX1_isNot 22 = .ok (.bipush 64, 2) := by decide +kernel
theorem dX1_isNot_24 : decode cX1_isNot 24 = .ok (.iload_n 1, 1) := by decide +kernel
theorem dX1_isNot_25 : decode cX1_isNot 25 = .ok (.imul, 1) := by decide +kernel
theorem dX1_isNot_26 : decode cX1_isNot 26 = .ok (.invokevirtual 24, 3) := by decide +kernel
theorem dX1_isNot_29 : decode cX1_isNot 29 = .ok (.ifCond .ne 7, 3) := by decide +kernel
theorem dX1_isNot_32 : decode cX1_isNot 32 = .ok (.iconst 1, 1) := by decide +kernel
theorem dX1_isNot_33 : decode cX1_isNot 33 = .ok (.goto 4, 3) := by decide +kernel
theorem dX1_isNot_36 : decode cX1_isNot 36 = .ok (.iconst 0, 1) := by decide +kernel
theorem dX1_isNot_37 : decode cX1_isNot 37 = .ok (.ireturn, 1) := by decide +kernel
theorem dX1_isNegative_0 : decode cX1_isNegative 0 = .ok (.aload_n 0, 1) := by decide +kernel
theorem dX1_isNegative_1 : decode cX1_isNegative 1 = .ok (.getfield 13, 3) := by decide +kernel
theorem dX1_isNegative_4 : decode cX1_isNegative 4 = .ok (.aload_n 0, 1) := by decide +kernel
theorem dX1_isNegative_5 : decode cX1_isNegative 5 = .ok (.getfield 13, 3) := by decide +kernel
theorem dX1_isNegative_8 : decode cX1_isNegative 8 = .ok (.arraylength, 1) := by decide +kernel
theorem dX1_isNegative_9 : decode cX1_isNegative 9 = .ok (.iconst 1, 1) := by decide +kernel
theorem dX1_isNegative_10 : decode cX1_isNegative 10 = .ok (.isub, 1) := by decide +kernel
theorem dX1_isNegative_11 : decode cX1_isNegative 11 = .ok (.laload, 1) := by decide +kernel
theorem dX1_isNegative_12 : decode cX1_isNegative 12 = .ok (.lconst 0, 1) := by decide +kernel
theorem dX1_isNegative_13 : decode cX1_isNegative 13 = .ok (.lcmp, 1) := by decide +kernel
theorem dX1_isNegative_14 : decode cX1_isNegative 14 = .ok (.ifCond .ge 7, 3) := by decide +kernel
theorem dX1_isNegative_17 : decode cX1_isNegative 17 = .ok (.iconst 1, 1) := by decide +kernel
theorem dX1_isNegative_18 : decode cX1_isNegative 18 = .ok (.goto 4, 3) := by decide +kernel
theorem dX1_isNegative_21 : decode cX1_isNegative 21 = .ok (.iconst 0, 1) := by decide +kernel
theorem dX1_isNegative_22 : decode cX1_isNegative 22 = .ok (.ireturn, 1) := by decide +kernel
theorem dX1_copy_0 : decode cX1_copy 0 = .ok (.iconst 0, 1) := by decide +kernel
theorem dX1_copy_1 : decode cX1_copy 1 = .ok (.istore_n 2, 1) := by decide +kernel
theorem dX1_copy_2 : decode cX1_copy 2 = .ok (.iload_n 2, 1) := by decide +kernel
theorem dX1_copy_3 : decode cX1_copy 3 = .ok (.aload_n 0, 1) := by decide +kernel
theorem dX1_copy_4 : decode cX1_copy 4 = .ok (.getfield 13, 3) := by decide +kernel
theorem dX1_copy_7 : decode cX1_copy 7 = .ok (.arraylength, 1) := by decide +kernel
theorem dX1_copy_8 : decode cX1_copy 8 = .ok (.if_icmp .ge 30, 3) := by decide +kernel
theorem dX1_copy_11 : decode cX1_copy 11 = .ok (.iload_n 2, 1) := by decide +kernel
theorem dX1_copy_12 : decode cX1_copy 12 = .ok (.aload_n 1, 1) := by decide +kernel
theorem dX1_copy_13 : decode cX1_copy 13 = .ok (.getfield 13, 3) := by decide +kernel
theorem dX1_copy_16 : decode cX1_copy 16 = .ok (.arraylength, 1) := by decide +kernel
theorem dX1_copy_17 : decode cX1_copy 17 = .ok (.if_icmp .ge 21, 3) := by decide +kernel
theorem dX1_copy_20 : decode cX1_copy 20 = .ok (.aload_n 0, 1) := by decide +kernel
theorem dX1_copy_21 : decode cX1_copy 21 = .ok (.getfield 13, 3) := by decide +kernel
theorem dX1_copy_24 : decode cX1_copy 24 = .ok (.iload_n 2, 1) := by decide +kernel
theorem dX1_copy_25 : decode cX1_copy 25 = .ok (.aload_n 1, 1) := by decide +kernel
theorem dX1_copy_26 : decode cX1_copy 26 = .ok (.getfield 13, 3) := by decide +kernel
theorem dX1_copy_29 : decode cX1_copy 29 = .ok (.iload_n 2, 1) := by decide +kernel
theorem dX1_copy_30 : decode cX1_copy 30 = .ok (.laload, 1) := by decide +kernel
theorem dX1_copy_31 : decode cX1_copy 31 = .ok (.lastore, 1) := by decide +kernel
theorem dX1_copy_32 : decode cX1_copy 32 = .ok (.iinc 2 1, 3) := by decide +kernel
theorem dX1_copy_35 : decode cX1_copy 35 = .ok (.goto (-33), 3) := by decide +kernel
theorem dX1_copy_38 : decode cX1_copy 38 = .ok (.return_, 1) := by decide +kernel
theorem dX1_setProduct_0 : decode cX1_setProduct 0 = .ok (.aload_n 1, 1) := by decide +kernel
theorem dX1_setProduct_1 : decode cX1_setProduct 1 = .ok (.getfield 28, 3) := by decide +kernel
theorem dX1_setProduct_4 : decode cX1_setProduct 4 = .ok (.ifCond .ne 10, 3) := by decide +kernel
theorem dX1_setProduct_7 : decode cX1_setProduct 7 = .ok (.aload_n 2, 1) := by decide +kernel
theorem dX1_setProduct_8 : decode cX1_setProduct 8 = .ok (.getfield 28, 3) := by decide +kernel
theorem dX1_setProduct_11 : decode cX1_setProduct 11 = .ok (.ifCond .eq 8, 3) := by decide +kernel
theorem dX1_setProduct_14 : decode cX1_setProduct 14 = .ok (.aload_n 0, 1) := by decide +kernel
theorem dX1_setProduct_15 : decode cX1_setProduct 15 = .ok (.invokevirtual 34, 3) := by decide +kernel
theorem dX1_setProduct_18 : decode cX1_setProduct 18 = .ok (.return_, 1) := by decide +kernel
theorem dX1_setProduct_19 : decode cX1_setProduct 19 = .ok (.aload_n 0, 1) := by decide +kernel
theorem dX1_setProduct_20 : decode cX1_setProduct 20 = .ok (.invokevirtual 17, 3) := by decide +kernel
theorem dX1_setProduct_23 : decode cX1_setProduct 23 = .ok (.aload_n 0, 1) := by decide +kernel
theorem dX1_setProduct_24 : decode cX1_setProduct 24 = .ok (.aload_n 1, 1) := by decide +kernel
theorem dX1_setProduct_25 : decode cX1_setProduct 25 = .ok (.getfield 37, 3) := by decide +kernel
theorem dX1_setProduct_28 : decode cX1_setProduct 28 = .ok (.aload_n 2, 1) := by decide +kernel
theorem dX1_setProduct_29 : decode cX1_setProduct 29 = .ok (.getfield 37, 3) := by decide +kernel
theorem dX1_setProduct_32 : decode cX1_setProduct 32 = .ok (.lmul, 1) := by decide +kernel
theorem dX1_setProduct_33 : decode cX1_setProduct 33 = .ok (.aload_n 1, 1) := by decide +kernel
theorem dX1_setProduct_34 : decode cX1_setProduct 34 = .ok (.getfield 41, 3) := by decide +kernel
theorem dX1_setProduct_37 : decode cX1_setProduct 37 = .ok (.aload_n 2, 1) := by decide +kernel
theorem dX1_setProduct_38 : decode cX1_setProduct 38 = .ok (.getfield 41, 3) := by decide +kernel
theorem dX1_setProduct_41 : decode cX1_setProduct 41 = .ok (.iadd, 1) := by decide +kernel
theorem dX1_setProduct_42 : decode cX1_setProduct 42 = .ok (.aload_n 0, 1) := by decide +kernel
theorem dX1_setProduct_43 : decode cX1_setProduct 43 = .ok (.getfield 7, 3) := by decide +kernel
theorem dX1_setProduct_46 : decode cX1_setProduct 46 = .ok (.iadd, 1) := by decide +kernel
theorem dX1_setProduct_47 : decode cX1_setProduct 47 = .ok (.invokevirtual 44, 3) := by decide +kernel
theorem dX1_setProduct_50 : decode cX1_setProduct 50 = .ok (.aload_n 1, 1) := by decide +kernel
theorem dX1_setProduct_51 : decode cX1_setProduct 51 = .ok (.getfield 48, 3) := by decide +kernel
theorem dX1_setProduct_54 : decode cX1_setProduct 54 = .ok (.aload_n 2, 1) := by decide +kernel
theorem dX1_setProduct_55 : decode cX1_setProduct 55 = .ok (.getfield 48, 3) := by decide +kernel
theorem dX1_setProduct_58 : decode cX1_setProduct 58 = .ok (.if_icmp .eq 7, 3) := by decide +kernel
theorem dX1_setProduct_61 : decode cX1_setProduct 61 = .ok (.aload_n 0, 1) := by decide +kernel
theorem dX1_setProduct_62 : decode cX1_setProduct 62 = .ok (.invokevirtual 51, 3) := by decide +kernel
theorem dX1_setProduct_65 : decode cX1_setProduct 65 = .ok (.return_, 1) := by decide +kernel
theorem dX1_setBits_0 : decode cX1_setBits 0 = .ok (.iload_n 3, 1) := by decide +kernel
theorem dX1_setBits_1 : decode cX1_setBits 1 = .ok (.bipush 6, 2) := by decide +kernel
theorem dX1_setBits_3 : decode cX1_setBits 3 = .ok (.ishr, 1) := by decide +kernel
theorem dX1_setBits_4 : decode cX1_setBits 4 = .ok (.istore 4, 2) := by decide +kernel
theorem dX1_setBits_6 : decode cX1_setBits 6 = .ok (.iload_n 3, 1) := by decide +kernel
theorem dX1_setBits_7 : decode cX1_setBits 7 = .ok (.bipush 63, 2) := by decide +kernel
theorem dX1_setBits_9 : decode cX1_setBits 9 = .ok (.iand, 1) := by decide +kernel
theorem dX1_setBits_10 : decode cX1_setBits 10 = .ok (.istore 5, 2) := by decide +kernel
theorem dX1_setBits_12 : decode cX1_setBits 12 = .ok (.iload 4, 2) := by decide +kernel
theorem dX1_setBits_14 : decode cX1_setBits 14 = .ok (.ifCond .lt 24, 3) := by decide +kernel
theorem dX1_setBits_17 : decode cX1_setBits 17 = .ok (.iload 4, 2) := by decide +kernel
theorem dX1_setBits_19 : decode cX1_setBits 19 = .ok (.aload_n 0, 1) := by decide +kernel
theorem dX1_setBits_20 : decode cX1_setBits 20 = .ok (.getfield 13, 3) := by decide +kernel
theorem dX1_setBits_23 : decode cX1_setBits 23 = .ok (.arraylength, 1) := by decide +kernel
theorem dX1_setBits_24 : decode cX1_setBits 24 = .ok (.if_icmp .ge 14, 3) := by decide +kernel
theorem dX1_setBits_27 : decode cX1_setBits 27 = .ok (.aload_n 0, 1) := by decide +kernel
theorem dX1_setBits_28 : decode cX1_setBits 28 = .ok (.getfield 13, 3) := by decide +kernel
theorem dX1_setBits_31 : decode cX1_setBits 31 = .ok (.iload 4, 2) := by decide +kernel
theorem dX1_setBits_33 : decode cX1_setBits 33 = .ok (.lload_n 1, 1) := by decide +kernel
theorem dX1_setBits_34 : decode cX1_setBits 34 = .ok (.iload 5, 2) := by decide +kernel
theorem dX1_setBits_36 : decode cX1_setBits 36 = .ok (.lshl, 1) := by decide +kernel
theorem dX1_setBits_37 : decode cX1_setBits 37 = .ok (.lastore, 1) := by decide +kernel
theorem dX1_setBits_38 : decode cX1_setBits 38 = .ok (.iload 4, 2) := by decide +kernel
theorem dX1_setBits_40 : decode cX1_setBits 40 = .ok (.ifCond .lt 33, 3) := by decide +kernel
theorem dX1_setBits_43 : decode cX1_setBits 43 = .ok (.iload 4, 2) := by decide +kernel
theorem dX1_setBits_45 : decode cX1_setBits 45 = .ok (.iconst 1, 1) := by decide +kernel
theorem dX1_setBits_46 : decode cX1_setBits 46 = .ok (.iadd, 1) := by decide +kernel
theorem dX1_setBits_47 : decode cX1_setBits 47 = .ok (.aload_n 0, 1) := by decide +kernel
theorem dX1_setBits_48 : decode cX1_setBits 48 = .ok (.getfield 13, 3) := by decide +kernel
theorem dX1_setBits_51 : decode cX1_setBits 51 = .ok (.arraylength, 1) := by decide +kernel
theorem dX1_setBits_52 : decode cX1_setBits 52 = .ok (.if_icmp .ge 21, 3) := by decide +kernel
theorem dX1_setBits_55 : decode cX1_setBits 55 = .ok (.aload_n 0, 1) := by decide +kernel
theorem dX1_setBits_56 : decode cX1_setBits 56 = .ok (.getfield 13, 3) := by decide +kernel
theorem dX1_setBits_59 : decode cX1_setBits 59 = .ok (.iload 4, 2) := by decide +kernel
theorem dX1_setBits_61 : decode cX1_setBits 61 = .ok (.iconst 1, 1) := by decide +kernel
theorem dX1_setBits_62 : decode cX1_setBits 62 = .ok (.iadd, 1) := by decide +kernel
theorem dX1_setBits_63 : decode cX1_setBits 63 = .ok (.lload_n 1, 1) := by decide +kernel
theorem dX1_setBits_64 : decode cX1_setBits 64 = .ok (.iconst 1, 1) := by decide +kernel
theorem dX1_setBits_65 : decode cX1_setBits 65 = .ok (.lushr, 1) := by decide +kernel
theorem dX1_setBits_66 : decode cX1_setBits 66 = .ok (.bipush 63, 2) := by decide +kernel
theorem dX1_setBits_68 : decode cX1_setBits 68 = .ok (.iload 5, 2) := by decide +kernel
theorem dX1_setBits_70 : decode cX1_setBits 70 = .ok (.isub, 1) := by decide +kernel
theorem dX1_setBits_71 : decode cX1_setBits 71 = .ok (.lushr, 1) := by decide +kernel
theorem dX1_setBits_72 : decode cX1_setBits 72 = .ok (.lastore, 1) := by decide +kernel
theorem dX1_setBits_73 : decode cX1_setBits 73 = .ok (.return_, 1) := by decide +kernel
theorem dX1_flip_0 : decode cX1_flip 0 = .ok (.lconst 1, 1) := by decide +kernel
theorem dX1_flip_1 : decode cX1_flip 1 = .ok (.lstore_n 1, 1) := by decide +kernel
theorem dX1_flip_2 : decode cX1_flip 2 = .ok (.iconst 0, 1) := by decide +kernel
theorem dX1_flip_3 : decode cX1_flip 3 = .ok (.istore_n 3, 1) := by decide +kernel
theorem dX1_flip_4 : decode cX1_flip 4 = .ok (.iload_n 3, 1) := by decide +kernel
theorem dX1_flip_5 : decode cX1_flip 5 = .ok (.aload_n 0, 1) := by decide +kernel
theorem dX1_flip_6 : decode cX1_flip 6 = .ok (.getfield 13, 3) := by decide +kernel
theorem dX1_flip_9 : decode cX1_flip 9 = .ok (.arraylength, 1) := by decide +kernel
theorem dX1_flip_10 : decode cX1_flip 10 = .ok (.if_icmp .ge 50, 3) := by decide +kernel
theorem dX1_flip_13 : decode cX1_flip 13 = .ok (.aload_n 0, 1) := by decide +kernel
theorem dX1_flip_14 : decode cX1_flip 14 = .ok (.getfield 13, 3) := by decide +kernel
theorem dX1_flip_17 : decode cX1_flip 17 = .ok (.iload_n 3, 1) := by decide +kernel
theorem dX1_flip_18 : decode cX1_flip 18 = .ok (.aload_n 0, 1) := by decide +kernel
theorem dX1_flip_19 : decode cX1_flip 19 = .ok (.getfield 13, 3) := by decide +kernel
theorem dX1_flip_22 : decode cX1_flip 22 = .ok (.iload_n 3, 1) := by decide +kernel
theorem dX1_flip_23 : decode cX1_flip 23 = .ok (.laload, 1) := by decide +kernel
theorem dX1_flip_24 : decode cX1_flip 24 = .ok (.ldc2_w 54, 3) := by decide +kernel
theorem dX1_flip_27 : decode cX1_flip 27 = .ok (.lxor, 1) := by decide +kernel
theorem dX1_flip_28 : decode cX1_flip 28 = .ok (.lload_n 1, 1) := by decide +kernel
theorem dX1_flip_29 : decode cX1_flip 29 = .ok (.ladd, 1) := by decide +kernel
theorem dX1_flip_30 : decode cX1_flip 30 = .ok (.lastore, 1) := by decide +kernel
theorem dX1_flip_31 : decode cX1_flip 31 = .ok (.lload_n 1, 1) := by decide +kernel
theorem dX1_flip_32 : decode cX1_flip 32 = .ok (.lconst 1, 1) := by decide +kernel
theorem dX1_flip_33 : decode cX1_flip 33 = .ok (.lcmp, 1) := by decide +kernel
theorem dX1_flip_34 : decode cX1_flip 34 = .ok (.ifCond .ne 18, 3) := by decide +kernel
theorem dX1_flip_37 : decode cX1_flip 37 = .ok (.aload_n 0, 1) := by decide +kernel
theorem dX1_flip_38 : decode cX1_flip 38 = .ok (.getfield 13, 3) := by decide +kernel
theorem dX1_flip_41 : decode cX1_flip 41 = .ok (.iload_n 3, 1) := by decide +kernel
theorem dX1_flip_42 : decode cX1_flip 42 = .ok (.laload, 1) := by decide +kernel
theorem dX1_flip_43 : decode cX1_flip 43 = .ok (.lconst 0, 1) := by decide +kernel
theorem dX1_flip_44 : decode cX1_flip 44 = .ok (.lcmp, 1) := by decide +kernel
theorem dX1_flip_45 : decode cX1_flip 45 = .ok (.ifCond .ne 7, 3) := by decide +kernel
theorem dX1_flip_48 : decode cX1_flip 48 = .ok (.lconst 1, 1) := by decide +kernel
theorem dX1_flip_49 : decode cX1_flip 49 = .ok (.goto 4, 3) := by decide +kernel
theorem dX1_flip_52 : decode cX1_flip 52 = .ok (.lconst 0, 1) := by decide +kernel
theorem dX1_flip_53 : decode cX1_flip 53 = .ok (.lstore_n 1, 1) := by decide +kernel
theorem dX1_flip_54 : decode cX1_flip 54 = .ok (.iinc 3 1, 3) := by decide +kernel
theorem dX1_flip_57 : decode cX1_flip 57 = .ok (.goto (-53), 3) := by decide +kernel
theorem dX1_flip_60 : decode cX1_flip 60 = .ok (.return_, 1) := by decide +kernel
theorem dX1_include_0 : decode cX1_include 0 = .ok (.aload_n 0, 1) := by decide +kernel
theorem dX1_include_1 : decode cX1_include 1 = .ok (.invokevirtual 56, 3) := by decide +kernel
theorem dX1_include_4 : decode cX1_include 4 = .ok (.ifCond .ne 10, 3) := by decide +kernel
theorem dX1_include_7 : decode cX1_include 7 = .ok (.aload_n 1, 1) := by decide +kernel
theorem dX1_include_8 : decode cX1_include 8 = .ok (.invokevirtual 56, 3) := by decide +kernel
theorem dX1_include_11 : decode cX1_include 11 = .ok (.ifCond .eq 8, 3) := by decide +kernel
theorem dX1_include_14 : decode cX1_include 14 = .ok (.aload_n 0, 1) := by decide +kernel
theorem dX1_include_15 : decode cX1_include 15 = .ok (.invokevirtual 34, 3) := by decide +kernel
theorem dX1_include_18 : decode cX1_include 18 = .ok (.return_, 1) := by decide +kernel
theorem dX1_include_19 : decode cX1_include 19 = .ok (.lconst 0, 1) := by decide +kernel
theorem dX1_include_20 : decode cX1_include 20 = .ok (.lstore_n 2, 1) := by decide +kernel
theorem dX1_include_21 : decode cX1_include 21 = .ok (.iconst 0, 1) := by decide +kernel
theorem dX1_include_22 : decode cX1_include 22 = .ok (.istore 4, 2) := by decide +kernel
theorem dX1_include_24 : decode cX1_include 24 = .ok (.iload 4, 2) := by decide +kernel
theorem dX1_include_26 : decode cX1_include 26 = .ok (.aload_n 0, 1) := by decide +kernel
theorem dX1_include_27 : decode cX1_include 27 = .ok (.getfield 13, 3) := by decide +kernel
theorem dX1_include_30 : decode cX1_include 30 = .ok (.arraylength, 1) := by decide +kernel
theorem dX1_include_31 : decode cX1_include 31 = .ok (.if_icmp .ge 77, 3) := by decide +kernel
theorem dX1_include_34 : decode cX1_include 34 = .ok (.iload 4, 2) := by decide +kernel
theorem dX1_include_36 : decode cX1_include 36 = .ok (.aload_n 1, 1) := by decide +kernel
theorem dX1_include_37 : decode cX1_include 37 = .ok (.getfield 13, 3) := by decide +kernel
theorem dX1_include_40 : decode cX1_include 40 = .ok (.arraylength, 1) := by decide +kernel
theorem dX1_include_41 : decode cX1_include 41 = .ok (.if_icmp .ge 67, 3) := by decide +kernel
theorem dX1_include_44 : decode cX1_include 44 = .ok (.aload_n 0, 1) := by decide +kernel
theorem dX1_include_45 : decode cX1_include 45 = .ok (.getfield 13, 3) := by decide +kernel
theorem dX1_include_48 : decode cX1_include 48 = .ok (.iload 4, 2) := by decide +kernel
theorem dX1_include_50 : decode cX1_include 50 = .ok (.laload, 1) := by decide +kernel
theorem dX1_include_51 : decode cX1_include 51 = .ok (.lstore 5, 2) := by decide +kernel
theorem dX1_include_53 : decode cX1_include 53 = .ok (.aload_n 1, 1) := by decide +kernel
theorem dX1_include_54 : decode cX1_include 54 = .ok (.getfield 13, 3) := by decide +kernel
theorem dX1_include_57 : decode cX1_include 57 = .ok (.iload 4, 2) := by decide +kernel
theorem dX1_include_59 : decode cX1_include 59 = .ok (.laload, 1) := by decide +kernel
theorem dX1_include_60 : decode cX1_include 60 = .ok (.lstore 7, 2) := by decide +kernel
theorem dX1_include_62 : decode cX1_include 62 = .ok (.lload 5, 2) := by decide +kernel
theorem dX1_include_64 : decode cX1_include 64 = .ok (.lload 7, 2) := by decide +kernel
theorem dX1_include_66 : decode cX1_include 66 = .ok (.ladd, 1) := by decide +kernel
theorem dX1_include_67 : decode cX1_include 67 = .ok (.lload_n 2, 1) := by decide +kernel
theorem dX1_include_68 : decode cX1_include 68 = .ok (.ladd, 1) := by decide +kernel
theorem dX1_include_69 : decode cX1_include 69 = .ok (.lstore 9, 2) := by decide +kernel
theorem dX1_include_71 : decode cX1_include 71 = .ok (.lload 5, 2) := by decide +kernel
theorem dX1_include_73 : decode cX1_include 73 = .ok (.lload 7, 2) := by decide +kernel
theorem dX1_include_75 : decode cX1_include 75 = .ok (.land, 1) := by decide +kernel
theorem dX1_include_76 : decode cX1_include 76 = .ok (.lload 5, 2) := by decide +kernel
theorem dX1_include_78 : decode cX1_include 78 = .ok (.lload 7, 2) := by decide +kernel
theorem dX1_include_80 : decode cX1_include 80 = .ok (.lor, 1) := by decide +kernel
theorem dX1_include_81 : decode cX1_include 81 = .ok (.lload 9, 2) := by decide +kernel
theorem dX1_include_83 : decode cX1_include 83 = .ok (.ldc2_w 54, 3) := by decide +kernel
theorem dX1_include_86 : decode cX1_include 86 = .ok (.lxor, 1) := by decide +kernel
theorem dX1_include_87 : decode cX1_include 87 = .ok (.land, 1) := by decide +kernel
theorem dX1_include_88 : decode cX1_include 88 = .ok (.lor, 1) := by decide +kernel
theorem dX1_include_89 : decode cX1_include 89 = .ok (.bipush 63, 2) := by decide +kernel
theorem dX1_include_91 : decode cX1_include 91 = .ok (.lushr, 1) := by decide +kernel
theorem dX1_include_92 : decode cX1_include 92 = .ok (.lstore_n 2, 1) := by decide +kernel
theorem dX1_include_93 : decode cX1_include 93 = .ok (.aload_n 0, 1) := by decide +kernel
theorem dX1_include_94 : decode cX1_include 94 = .ok (.getfield 13, 3) := by decide +kernel
theorem dX1_include_97 : decode cX1_include 97 = .ok (.iload 4, 2) := by decide +kernel
theorem dX1_include_99 : decode cX1_include 99 = .ok (.lload 9, 2) := by decide +kernel
theorem dX1_include_101 : decode cX1_include 101 = .ok (.lastore, 1) := by decide +kernel
theorem dX1_include_102 : decode cX1_include 102 = .ok (.iinc 4 1, 3) := by decide +kernel
theorem dX1_include_105 : decode cX1_include 105 = .ok (.goto (-81), 3) := by decide +kernel
theorem dX1_include_108 : decode cX1_include 108 = .ok (.return_, 1) := by decide +kernel
theorem dX1_topBit_0 : decode cX1_topBit 0 = .ok (.aload_n 0, 1) := by decide +kernel
theorem dX1_topBit_1 : decode cX1_topBit 1 = .ok (.getfield 13, 3) := by decide +kernel
theorem dX1_topBit_4 : decode cX1_topBit 4 = .ok (.arraylength, 1) := by decide +kernel
theorem dX1_topBit_5 : decode cX1_topBit 5 = .ok (.iconst 1, 1) := by decide +kernel
theorem dX1_topBit_6 : decode cX1_topBit 6 = .ok (.isub, 1) := by decide +kernel
theorem dX1_topBit_7 : decode cX1_topBit 7 = .ok (.istore_n 1, 1) := by decide +kernel
theorem dX1_topBit_8 : decode cX1_topBit 8 = .ok (.iload_n 1, 1) := by decide +kernel
theorem dX1_topBit_9 : decode cX1_topBit 9 = .ok (.ifCond .lt 38, 3) := by decide +kernel
theorem dX1_topBit_12 : decode cX1_topBit 12 = .ok (.aload_n 0, 1) := by decide +kernel
theorem dX1_topBit_13 : decode cX1_topBit 13 = .ok (.getfield 13, 3) := by decide +kernel
theorem dX1_topBit_16 : decode cX1_topBit 16 = .ok (.iload_n 1, 1) := by decide +kernel
theorem dX1_topBit_17 : decode cX1_topBit 17 = .ok (.laload, 1) := by decide +kernel
theorem dX1_topBit_18 : decode cX1_topBit 18 = .ok (.lconst 0, 1) := by decide +kernel
theorem dX1_topBit_19 : decode cX1_topBit 19 = .ok (.lcmp, 1) := by decide +kernel
theorem dX1_topBit_20 : decode cX1_topBit 20 = .ok (.ifCond .eq 21, 3) := by decide +kernel
theorem dX1_topBit_23 : decode cX1_topBit 23 = .ok (.bipush 64, 2) := by decide +kernel
theorem dX1_topBit_25 : decode cX1_topBit 25 = .ok (.iload_n 1, 1) := by decide +kernel
theorem dX1_topBit_26 : decode cX1_topBit 26 = .ok (.imul, 1) := by decide +kernel
theorem dX1_topBit_27 : decode cX1_topBit 27 = .ok (.bipush 63, 2) := by decide +kernel
theorem dX1_topBit_29 : decode cX1_topBit 29 = .ok (.iadd, 1) := by decide +kernel
theorem dX1_topBit_30 : decode cX1_topBit 30 = .ok (.aload_n 0, 1) := by decide +kernel
theorem dX1_topBit_31 : decode cX1_topBit 31 = .ok (.getfield 13, 3) := by decide +kernel
theorem dX1_topBit_34 : decode cX1_topBit 34 = .ok (.iload_n 1, 1) := by decide +kernel
theorem dX1_topBit_35 : decode cX1_topBit 35 = .ok (.laload, 1) := by decide +kernel
theorem dX1_topBit_36 : decode cX1_topBit 36 = .ok (.invokestatic 60, 3) := by decide +kernel
theorem dX1_topBit_39 : decode cX1_topBit 39 = .ok (.isub, 1) := by decide +kernel
theorem dX1_topBit_40 : decode cX1_topBit 40 = .ok (.ireturn, 1) := by decide +kernel
theorem dX1_topBit_41 : decode cX1_topBit 41 = .ok (.iinc 1 (-1), 3) := by decide +kernel
theorem dX1_topBit_44 : decode cX1_topBit 44 = .ok (.goto (-36), 3) := by decide +kernel
theorem dX1_topBit_47 : decode cX1_topBit 47 = .ok (.iconst (-1), 1) := by decide +kernel
theorem dX1_topBit_48 : decode cX1_topBit 48 = .ok (.ireturn, 1) := by decide +kernel
theorem dX1_leadingBits_0 : decode cX1_leadingBits 0 = .ok (.iload_n 1, 1) := by decide +kernel
theorem dX1_leadingBits_1 : decode cX1_leadingBits 1 = .ok (.bipush 6, 2) := by decide +kernel
theorem dX1_leadingBits_3 : decode cX1_leadingBits 3 = .ok (.ishr, 1) := by decide +kernel
theorem dX1_leadingBits_4 : decode cX1_leadingBits 4 = .ok (.istore_n 2, 1) := by decide +kernel
theorem dX1_leadingBits_5 : decode cX1_leadingBits 5 = .ok (.iload_n 2, 1) := by decide +kernel
theorem dX1_leadingBits_6 : decode cX1_leadingBits 6 = .ok (.ifCond .lt 12, 3) := by decide +kernel
theorem dX1_leadingBits_9 : decode cX1_leadingBits 9 = .ok (.iload_n 2, 1) := by decide +kernel
theorem dX1_leadingBits_10 : decode cX1_leadingBits 10 = .ok (.aload_n 0, 1) := by decide +kernel
theorem dX1_leadingBits_11 : decode cX1_leadingBits 11 = .ok (.getfield 13, 3) := by decide +kernel
theorem dX1_leadingBits_14 : decode cX1_leadingBits 14 = .ok (.arraylength, 1) := by decide +kernel
theorem dX1_leadingBits_15 : decode cX1_leadingBits 15 = .ok (.if_icmp .lt 5, 3) := by decide +kernel
theorem dX1_leadingBits_18 : decode cX1_leadingBits 18 = .ok (.lconst 0, 1) := by decide +kernel
theorem dX1_leadingBits_19 : decode cX1_leadingBits 19 = .ok (.lreturn, 1) := by decide +kernel
theorem dX1_leadingBits_20 : decode cX1_leadingBits 20 = .ok (.bipush 63, 2) := by decide +kernel
theorem dX1_leadingBits_22 : decode cX1_leadingBits 22 = .ok (.iload_n 1, 1) := by decide +kernel
theorem dX1_leadingBits_23 : decode cX1_leadingBits 23 = .ok (.bipush 63, 2) := by decide +kernel
theorem dX1_leadingBits_25 : decode cX1_leadingBits 25 = .ok (.iand, 1) := by decide +kernel
theorem dX1_leadingBits_26 : decode cX1_leadingBits 26 = .ok (.isub, 1) := by decide +kernel
theorem dX1_leadingBits_27 : decode cX1_leadingBits 27 = .ok (.istore_n 3, 1) := by decide +kernel
theorem dX1_leadingBits_28 : decode cX1_leadingBits 28 = .ok (.iload_n 2, 1) := by decide +kernel
theorem dX1_leadingBits_29 : decode cX1_leadingBits 29 = .ok (.ifCond .le 14, 3) := by decide +kernel
theorem dX1_leadingBits_32 : decode cX1_leadingBits 32 = .ok (.aload_n 0, 1) := by decide +kernel
theorem dX1_leadingBits_33 : decode cX1_leadingBits 33 = .ok (.getfield 13, 3) := by decide +kernel
theorem dX1_leadingBits_36 : decode cX1_leadingBits 36 = .ok (.iload_n 2, 1) := by decide +kernel
theorem dX1_leadingBits_37 : decode cX1_leadingBits 37 = .ok (.iconst 1, 1) := by decide +kernel
theorem dX1_leadingBits_38 : decode cX1_leadingBits 38 = .ok (.isub, 1) := by decide +kernel
theorem dX1_leadingBits_39 : decode cX1_leadingBits 39 = .ok (.laload, 1) := by decide +kernel
theorem dX1_leadingBits_40 : decode cX1_leadingBits 40 = .ok (.goto 4, 3) := by decide +kernel
theorem dX1_leadingBits_43 : decode cX1_leadingBits 43 = .ok (.lconst 0, 1) := by decide +kernel
theorem dX1_leadingBits_44 : decode cX1_leadingBits 44 = .ok (.lstore 4, 2) := by decide +kernel
theorem dX1_leadingBits_46 : decode cX1_leadingBits 46 = .ok (.aload_n 0, 1) := by decide +kernel
theorem dX1_leadingBits_47 : decode cX1_leadingBits 47 = .ok (.getfield 13, 3) := by decide +kernel
theorem dX1_leadingBits_50 : decode cX1_leadingBits 50 = .ok (.iload_n 2, 1) := by decide +kernel
theorem dX1_leadingBits_51 : decode cX1_leadingBits 51 = .ok (.laload, 1) := by decide +kernel
theorem dX1_leadingBits_52 : decode cX1_leadingBits 52 = .ok (.iload_n 3, 1) := by decide +kernel
theorem dX1_leadingBits_53 : decode cX1_leadingBits 53 = .ok (.lshl, 1) := by decide +kernel
theorem dX1_leadingBits_54 : decode cX1_leadingBits 54 = .ok (.lload 4, 2) := by decide +kernel
theorem dX1_leadingBits_56 : decode cX1_leadingBits 56 = .ok (.iconst 1, 1) := by decide +kernel
theorem dX1_leadingBits_57 : decode cX1_leadingBits 57 = .ok (.lushr, 1) := by decide +kernel
theorem dX1_leadingBits_58 : decode cX1_leadingBits 58 = .ok (.bipush 63, 2) := by decide +kernel
theorem dX1_leadingBits_60 : decode cX1_leadingBits 60 = .ok (.iload_n 3, 1) := by decide +kernel
theorem dX1_leadingBits_61 : decode cX1_leadingBits 61 = .ok (.isub, 1) := by decide +kernel
theorem dX1_leadingBits_62 : decode cX1_leadingBits 62 = .ok (.lushr, 1) := by decide +kernel
theorem dX1_leadingBits_63 : decode cX1_leadingBits 63 = .ok (.lor, 1) := by decide +kernel
theorem dX1_leadingBits_64 : decode cX1_leadingBits 64 = .ok (.lreturn, 1) := by decide +kernel
theorem dX1_hasBitsBelow_0 : decode cX1_hasBitsBelow 0 = .ok (.iconst 0, 1) := by decide +kernel
theorem dX1_hasBitsBelow_1 : decode cX1_hasBitsBelow 1 = .ok (.istore_n 2, 1) := by decide +kernel
theorem dX1_hasBitsBelow_2 : decode cX1_hasBitsBelow 2 = .ok (.iload_n 2, 1) := by decide +kernel
theorem dX1_hasBitsBelow_3 : decode cX1_hasBitsBelow 3 = .ok (.aload_n 0, 1) := by decide +kernel
theorem dX1_hasBitsBelow_4 : decode cX1_hasBitsBelow 4 = .ok (.getfield 13, 3) := by decide +kernel
theorem dX1_hasBitsBelow_7 : decode cX1_hasBitsBelow 7 = .ok (.arraylength, 1) := by decide +kernel
theorem dX1_hasBitsBelow_8 : decode cX1_hasBitsBelow 8 = .ok (.if_icmp .ge 47, 3) := by decide +kernel
theorem dX1_hasBitsBelow_11 : decode cX1_hasBitsBelow 11 = .ok (.bipush 64, 2) := by decide +kernel
theorem dX1_hasBitsBelow_13 : decode cX1_hasBitsBelow 13 = .ok (.iload_n 2, 1) := by decide +kernel
theorem dX1_hasBitsBelow_14 : decode cX1_hasBitsBelow 14 = .ok (.imul, 1) := by decide +kernel
theorem dX1_hasBitsBelow_15 : decode cX1_hasBitsBelow 15 = .ok (.iload_n 1, 1) := by decide +kernel
theorem dX1_hasBitsBelow_16 : decode cX1_hasBitsBelow 16 = .ok (.if_icmp .ge 39, 3) := by decide +kernel
theorem dX1_hasBitsBelow_19 : decode cX1_hasBitsBelow 19 = .ok (.bipush 64, 2) := by decide +kernel
theorem dX1_hasBitsBelow_21 : decode cX1_hasBitsBelow 21 = .ok (.iload_n 1, 1) := by decide +kernel
theorem dX1_hasBitsBelow_22 : decode cX1_hasBitsBelow 22 = .ok (.bipush 64, 2) := by decide +kernel
theorem dX1_hasBitsBelow_24 : decode cX1_hasBitsBelow 24 = .ok (.iload_n 2, 1) := by decide +kernel
theorem dX1_hasBitsBelow_25 : decode cX1_hasBitsBelow 25 = .ok (.imul, 1) := by decide +kernel
theorem dX1_hasBitsBelow_26 : decode cX1_hasBitsBelow 26 = .ok (.isub, 1) := by decide +kernel
theorem dX1_hasBitsBelow_27 : decode cX1_hasBitsBelow 27 = .ok (.invokestatic 64, 3) := by decide +kernel
theorem dX1_hasBitsBelow_30 : decode cX1_hasBitsBelow 30 = .ok (.istore_n 3, 1) := by decide +kernel
theorem dX1_hasBitsBelow_31 : decode cX1_hasBitsBelow 31 = .ok (.aload_n 0, 1) := by decide +kernel
theorem dX1_hasBitsBelow_32 : decode cX1_hasBitsBelow 32 = .ok (.getfield 13, 3) := by decide +kernel
theorem dX1_hasBitsBelow_35 : decode cX1_hasBitsBelow 35 = .ok (.iload_n 2, 1) := by decide +kernel
theorem dX1_hasBitsBelow_36 : decode cX1_hasBitsBelow 36 = .ok (.laload, 1) := by decide +kernel
theorem dX1_hasBitsBelow_37 : decode cX1_hasBitsBelow 37 = .ok (.bipush 64, 2) := by decide +kernel
theorem dX1_hasBitsBelow_39 : decode cX1_hasBitsBelow 39 = .ok (.iload_n 3, 1) := by decide +kernel
theorem dX1_hasBitsBelow_40 : decode cX1_hasBitsBelow 40 = .ok (.isub, 1) := by decide +kernel
theorem dX1_hasBitsBelow_41 : decode cX1_hasBitsBelow 41 = .ok (.lshl, 1) := by decide +kernel
theorem dX1_hasBitsBelow_42 : decode cX1_hasBitsBelow 42 = .ok (.lconst 0, 1) := by decide +kernel
theorem dX1_hasBitsBelow_43 : decode cX1_hasBitsBelow 43 = .ok (.lcmp, 1) := by decide +kernel
theorem dX1_hasBitsBelow_44 : decode cX1_hasBitsBelow 44 = .ok (.ifCond .eq 5, 3) := by decide +kernel
theorem dX1_hasBitsBelow_47 : decode cX1_hasBitsBelow 47 = .ok (.iconst 1, 1) := by decide +kernel
theorem dX1_hasBitsBelow_48 : decode cX1_hasBitsBelow 48 = .ok (.ireturn, 1) := by decide +kernel
theorem dX1_hasBitsBelow_49 : decode cX1_hasBitsBelow 49 = .ok (.iinc 2 1, 3) := by decide +kernel
theorem dX1_hasBitsBelow_52 : decode cX1_hasBitsBelow 52 = .ok (.goto (-50), 3) := by decide +kernel
theorem dX1_hasBitsBelow_55 : decode cX1_hasBitsBelow 55 = .ok (.iconst 0, 1) := by decide +kernel
theorem dX1_hasBitsBelow_56 : decode cX1_hasBitsBelow 56 = .ok (.ireturn, 1) := by decide +kernel
theorem dX2_init_0 : decode cX2_init 0 = .ok (.aload_n 0, 1) := by decide +kernel
theorem dX2_init_1 : decode cX2_init 1 = .ok (.invokespecial 1, 3) := by decide +kernel
theorem dX2_init_4 : decode cX2_init 4 = .ok (.aload_n 0, 1) := by decide +kernel
theorem dX2_init_5 : decode cX2_init 5 = .ok (.iload_n 1, 1) := by decide +kernel
theorem dX2_init_6 : decode cX2_init 6 = .ok (.invokestatic 7, 3) := by decide +kernel
theorem dX2_init_9 : decode cX2_init 9 = .ok (.putfield 13, 3) := by decide +kernel
theorem dX2_init_12 : decode cX2_init 12 = .ok (.aload_n 0, 1) := by decide +kernel
theorem dX2_init_13 : decode cX2_init 13 = .ok (.iconst 2, 1) := by decide +kernel
theorem dX2_init_14 : decode cX2_init 14 = .ok (.anewarray 17, 3) := by decide +kernel
theorem dX2_init_17 : decode cX2_init 17 = .ok (.dup, 1) := by decide +kernel
theorem dX2_init_18 : decode cX2_init 18 = .ok (.iconst 0, 1) := by decide +kernel
theorem dX2_init_19 : decode cX2_init 19 = .ok (.new 17, 3) := by decide +kernel
theorem dX2_init_22 : decode cX2_init 22 = .ok (.dup, 1) := by decide +kernel
theorem dX2_init_23 : decode cX2_init 23 = .ok (.aload_n 0, 1) := by decide +kernel
theorem dX2_init_24 : decode cX2_init 24 = .ok (.getfield 13, 3) := by decide +kernel
theorem dX2_init_27 : decode cX2_init 27 = .ok (.invokespecial 19, 3) := by decide +kernel
theorem dX2_init_30 : decode cX2_init 30 = .ok (.aastore, 1) := by decide +kernel
theorem dX2_init_31 : decode cX2_init 31 = .ok (.dup, 1) := by decide +kernel
theorem dX2_init_32 : decode cX2_init 32 = .ok (.iconst 1, 1) := by decide +kernel
theorem dX2_init_33 : decode cX2_init 33 = .ok (.new 17, 3) := by decide +kernel
theorem dX2_init_36 : decode cX2_init 36 = .ok (.dup, 1) := by decide +kernel
theorem dX2_init_37 : decode cX2_init 37 = .ok (.aload_n 0, 1) := by decide +kernel
theorem dX2_init_38 : decode cX2_init 38 = .ok (.getfield 13, 3) := by decide +kernel
theorem dX2_init_41 : decode cX2_init 41 = .ok (.invokespecial 19, 3) := by decide +kernel
theorem dX2_init_44 : decode cX2_init 44 = .ok (.aastore, 1) := by decide +kernel
theorem dX2_init_45 : decode cX2_init 45 = .ok (.putfield 22, 3) := by decide +kernel
theorem dX2_init_48 : decode cX2_init 48 = .ok (.aload_n 0, 1) := by decide +kernel
theorem dX2_init_49 : decode cX2_init 49 = .ok (.new 17, 3) := by decide +kernel
theorem dX2_init_52 : decode cX2_init 52 = .ok (.dup, 1) := by decide +kernel
theorem dX2_init_53 : decode cX2_init 53 = .ok (.aload_n 0, 1) := by decide +kernel
theorem dX2_init_54 : decode cX2_init 54 = .ok (.getfield 13, 3) := by decide +kernel
theorem dX2_init_57 : decode cX2_init 57 = .ok (.invokespecial 19, 3) := by decide +kernel
theorem dX2_init_60 : decode cX2_init 60 = .ok (.putfield 26, 3) := by decide +kernel
theorem dX2_init_63 : decode cX2_init 63 = .ok (.aload_n 0, 1) := by decide +kernel
theorem dX2_init_64 : decode cX2_init 64 = .ok (.new 17, 3) := by decide +kernel
theorem dX2_init_67 : decode cX2_init 67 = .ok (.dup, 1) := by decide +kernel
theorem dX2_init_68 : decode cX2_init 68 = .ok (.aload_n 0, 1) := by decide +kernel
theorem dX2_init_69 : decode cX2_init 69 = .ok (.getfield 13, 3) := by decide +kernel
theorem dX2_init_72 : decode cX2_init 72 = .ok (.invokespecial 19, 3) := by decide +kernel
theorem dX2_init_75 : decode cX2_init 75 = .ok (.putfield 30, 3) := by decide +kernel
theorem dX2_init_78 : decode cX2_init 78 = .ok (.aload_n 0, 1) := by decide +kernel
theorem dX2_init_79 : decode cX2_init 79 = .ok (.new 33, 3) := by decide +kernel
theorem dX2_init_82 : decode cX2_init 82 = .ok (.dup, 1) := by decide +kernel
theorem dX2_init_83 : decode cX2_init 83 = .ok (.invokespecial 35, 3) := by decide +kernel
theorem dX2_init_86 : decode cX2_init 86 = .ok (.putfield 36, 3) := by decide +kernel
theorem dX2_init_89 : decode cX2_init 89 = .ok (.aload_n 0, 1) := by decide +kernel
theorem dX2_init_90 : decode cX2_init 90 = .ok (.new 33, 3) := by decide +kernel
theorem dX2_init_93 : decode cX2_init 93 = .ok (.dup, 1) := by decide +kernel
theorem dX2_init_94 : decode cX2_init 94 = .ok (.invokespecial 35, 3) := by decide +kernel
theorem dX2_init_97 : decode cX2_init 97 = .ok (.putfield 40, 3) := by decide +kernel
theorem dX2_init_100 : decode cX2_init 100 = .ok (.return_, 1) := by decide +kernel
theorem dX2_bits_0 : decode cX2_bits 0 = .ok (.aload_n 0, 1) := by decide +kernel
theorem dX2_bits_1 : decode cX2_bits 1 = .ok (.getfield 13, 3) := by decide +kernel
theorem dX2_bits_4 : decode cX2_bits 4 = .ok (.ireturn, 1) := by decide +kernel
theorem dX2_add_0 : decode cX2_add 0 = .ok (.aload_n 0, 1) := by decide +kernel
theorem dX2_add_1 : decode cX2_add 1 = .ok (.iload_n 1, 1) := by decide +kernel
theorem dX2_add_2 : decode cX2_add 2 = .ok (.aload_n 0, 1) := by decide +kernel
theorem dX2_add_3 : decode cX2_add 3 = .ok (.invokevirtual 43, 3) := by decide +kernel
theorem dX2_add_6 : decode cX2_add 6 = .ok (.iload_n 2, 1) := by decide +kernel
theorem dX2_add_7 : decode cX2_add 7 = .ok (.invokevirtual 47, 3) := by decide +kernel
theorem dX2_add_10 : decode cX2_add 10 = .ok (.ireturn, 1) := by decide +kernel
theorem dX2_subtract_0 : decode cX2_subtract 0 = .ok (.aload_n 0, 1) := by decide +kernel
theorem dX2_subtract_1 : decode cX2_subtract 1 = .ok (.iload_n 1, 1) := by decide +kernel
theorem dX2_subtract_2 : decode cX2_subtract 2 = .ok (.aload_n 0, 1) := by decide +kernel
theorem dX2_subtract_3 : decode cX2_subtract 3 = .ok (.invokevirtual 43, 3) := by decide +kernel
theorem dX2_subtract_6 : decode cX2_subtract 6 = .ok (.iload_n 2, 1) := by decide +kernel
theorem dX2_subtract_7 : decode cX2_subtract 7 = .ok (.ineg, 1) := by decide +kernel
theorem dX2_subtract_8 : decode cX2_subtract 8 = .ok (.invokevirtual 47, 3) := by decide +kernel
theorem dX2_subtract_11 : decode cX2_subtract 11 = .ok (.ireturn, 1) := by decide +kernel
theorem dX2_multiply_0 : decode cX2_multiply 0 = .ok (.aload_n 0, 1) := by decide +kernel
theorem dX2_multiply_1 : decode cX2_multiply 1 = .ok (.iload_n 1, 1) := by decide +kernel
theorem dX2_multiply_2 : decode cX2_multiply 2 = .ok (.iload_n 2, 1) := by decide +kernel
theorem dX2_multiply_3 : decode cX2_multiply 3 = .ok (.iconst 0, 1) := by decide +kernel
theorem dX2_multiply_4 : decode cX2_multiply 4 = .ok (.invokevirtual 47, 3) := by decide +kernel
theorem dX2_multiply_7 : decode cX2_multiply 7 = .ok (.ireturn, 1) := by decide +kernel
theorem dX2_divide_0 : decode cX2_divide 0 = .ok (.aload_n 0, 1) := by decide +kernel
theorem dX2_divide_1 : decode cX2_divide 1 = .ok (.getfield 36, 3) := by decide +kernel
theorem dX2_divide_4 : decode cX2_divide 4 = .ok (.iload_n 1, 1) := by decide +kernel
theorem dX2_divide_5 : decode cX2_divide 5 = .ok (.aload_n 0, 1) := by decide +kernel
theorem dX2_divide_6 : decode cX2_divide 6 = .ok (.getfield 13, 3) := by decide +kernel
theorem dX2_divide_9 : decode cX2_divide 9 = .ok (.invokevirtual 51, 3) := by decide +kernel
theorem dX2_divide_12 : decode cX2_divide 12 = .ok (.aload_n 0, 1) := by decide +kernel
theorem dX2_divide_13 : decode cX2_divide 13 = .ok (.getfield 40, 3) := by decide +kernel
theorem dX2_divide_16 : decode cX2_divide 16 = .ok (.iload_n 2, 1) := by decide +kernel
theorem dX2_divide_17 : decode cX2_divide 17 = .ok (.aload_n 0, 1) := by decide +kernel
theorem dX2_divide_18 : decode cX2_divide 18 = .ok (.getfield 13, 3) := by decide +kernel
theorem dX2_divide_21 : decode cX2_divide 21 = .ok (.invokevirtual 51, 3) := by decide +kernel
theorem dX2_divide_24 : decode cX2_divide 24 = .ok (.aload_n 0, 1) := by decide +kernel
theorem dX2_divide_25 : decode cX2_divide 25 = .ok (.getfield 36, 3) := by decide +kernel
theorem dX2_divide_28 : decode cX2_divide 28 = .ok (.getfield 55, 3) := by decide +kernel
theorem dX2_divide_31 : decode cX2_divide 31 = .ok (.ifCond .ne 25, 3) := by decide +kernel
theorem dX2_divide_34 : decode cX2_divide 34 = .ok (.aload_n 0, 1) := by decide +kernel
theorem dX2_divide_35 : decode cX2_divide 35 = .ok (.getfield 40, 3) := by decide +kernel
theorem dX2_divide_38 : decode cX2_divide 38 = .ok (.getfield 55, 3) := by decide +kernel
theorem dX2_divide_41 : decode cX2_divide 41 = .ok (.ifCond .ne 15, 3) := by decide +kernel
theorem dX2_divide_44 : decode cX2_divide 44 = .ok (.aload_n 0, 1) := by decide +kernel
theorem dX2_divide_45 : decode cX2_divide 45 = .ok (.getfield 40, 3) := by decide +kernel
theorem dX2_divide_48 : decode cX2_divide 48 = .ok (.getfield 59, 3) := by decide +kernel
theorem dX2_divide_51 : decode cX2_divide 51 = .ok (.lconst 0, 1) := by decide +kernel
theorem dX2_divide_52 : decode cX2_divide 52 = .ok (.lcmp, 1) := by decide +kernel
theorem dX2_divide_53 : decode cX2_divide 53 = .ok (.ifCond .ne 11, 3) := by decide +kernel
theorem dX2_divide_56 : decode cX2_divide 56 = .ok (.aload_n 0, 1) := by decide +kernel
theorem dX2_divide_57 : decode cX2_divide 57 = .ok (.getfield 13, 3) := by decide +kernel
theorem dX2_divide_60 : decode cX2_divide 60 = .ok (.invokestatic 63, 3) := by decide +kernel
theorem dX2_divide_63 : decode cX2_divide 63 = .ok (.ireturn, 1) := by decide +kernel
theorem dX2_divide_64 : decode cX2_divide 64 = .ok (.aload_n 0, 1) := by decide +kernel
theorem dX2_divide_65 : decode cX2_divide 65 = .ok (.getfield 36, 3) := by decide +kernel
theorem dX2_divide_68 : decode cX2_divide 68 = .ok (.getfield 59, 3) := by decide +kernel
theorem dX2_divide_71 : decode cX2_divide 71 = .ok (.invokestatic 66, 3) := by decide +kernel
theorem dX2_divide_74 : decode cX2_divide 74 = .ok (.iconst 1, 1) := by decide +kernel
theorem dX2_divide_75 : decode cX2_divide 75 = .ok (.isub, 1) := by decide +kernel
theorem dX2_divide_76 : decode cX2_divide 76 = .ok (.istore_n 3, 1) := by decide +kernel
theorem dX2_divide_77 : decode cX2_divide 77 = .ok (.aload_n 0, 1) := by decide +kernel
theorem dX2_divide_78 : decode cX2_divide 78 = .ok (.getfield 36, 3) := by decide +kernel
theorem dX2_divide_81 : decode cX2_divide 81 = .ok (.getfield 59, 3) := by decide +kernel
theorem dX2_divide_84 : decode cX2_divide 84 = .ok (.iload_n 3, 1) := by decide +kernel
theorem dX2_divide_85 : decode cX2_divide 85 = .ok (.lshl, 1) := by decide +kernel
theorem dX2_divide_86 : decode cX2_divide 86 = .ok (.lstore 4, 2) := by decide +kernel
theorem dX2_divide_88 : decode cX2_divide 88 = .ok (.lload 4, 2) := by decide +kernel
theorem dX2_divide_90 : decode cX2_divide 90 = .ok (.aload_n 0, 1) := by decide +kernel
theorem dX2_divide_91 : decode cX2_divide 91 = .ok (.getfield 40, 3) := by decide +kernel
theorem dX2_divide_94 : decode cX2_divide 94 = .ok (.getfield 59, 3) := by decide +kernel
theorem dX2_divide_97 : decode cX2_divide 97 = .ok (.ldiv, 1) := by decide +kernel
theorem dX2_divide_98 : decode cX2_divide 98 = .ok (.lstore 6, 2) := by decide +kernel
theorem dX2_divide_100 : decode cX2_divide 100 = .ok (.lload 6, 2) := by decide +kernel
theorem dX2_divide_102 : decode cX2_divide 102 = .ok (.aload_n 0, 1) := by decide +kernel
theorem dX2_divide_103 : decode cX2_divide 103 = .ok (.getfield 40, 3) := by decide +kernel
theorem dX2_divide_106 : decode cX2_divide 106 = .ok (.getfield 59, 3) := by decide +kernel
theorem dX2_divide_109 : decode cX2_divide 109 = .ok (.lmul, 1) := by decide +kernel
theorem dX2_divide_110 : decode cX2_divide 110 = .ok (.lload 4, 2) := by decide +kernel
theorem dX2_divide_112 : decode cX2_divide 112 = .ok (.lcmp, 1) := by decide +kernel
theorem dX2_divide_113 : decode cX2_divide 113 = .ok (.ifCond .eq 7, 3) := by decide +kernel
theorem dX2_divide_116 : decode cX2_divide 116 = .ok (.iconst 1, 1) := by decide +kernel
theorem dX2_divide_117 : decode cX2_divide 117 = .ok (.goto 4, 3) := by decide +kernel
theorem dX2_divide_120 : decode cX2_divide 120 = .ok (.iconst 0, 1) := by decide +kernel
theorem dX2_divide_121 : decode cX2_divide 121 = .ok (.istore 8, 2) := by decide +kernel
theorem dX2_divide_123 : decode cX2_divide 123 = .ok (.aload_n 0, 1) := by decide +kernel
theorem dX2_divide_124 : decode cX2_divide 124 = .ok (.getfield 36, 3) := by decide +kernel
theorem dX2_divide_127 : decode cX2_divide 127 = .ok (.getfield 72, 3) := by decide +kernel
theorem dX2_divide_130 : decode cX2_divide 130 = .ok (.iload_n 3, 1) := by decide +kernel
theorem dX2_divide_131 : decode cX2_divide 131 = .ok (.isub, 1) := by decide +kernel
theorem dX2_divide_132 : decode cX2_divide 132 = .ok (.aload_n 0, 1) := by decide +kernel
theorem dX2_divide_133 : decode cX2_divide 133 = .ok (.getfield 40, 3) := by decide +kernel
theorem dX2_divide_136 : decode cX2_divide 136 = .ok (.getfield 72, 3) := by decide +kernel
theorem dX2_divide_139 : decode cX2_divide 139 = .ok (.isub, 1) := by decide +kernel
theorem dX2_divide_140 : decode cX2_divide 140 = .ok (.istore 9, 2) := by decide +kernel
theorem dX2_divide_142 : decode cX2_divide 142 = .ok (.aload_n 0, 1) := by decide +kernel
theorem dX2_divide_143 : decode cX2_divide 143 = .ok (.getfield 13, 3) := by decide +kernel
theorem dX2_divide_146 : decode cX2_divide 146 = .ok (.aload_n 0, 1) := by decide +kernel
theorem dX2_divide_147 : decode cX2_divide 147 = .ok (.getfield 36, 3) := by decide +kernel
theorem dX2_divide_150 : decode cX2_divide 150 = .ok (.getfield 75, 3) := by decide +kernel
theorem dX2_divide_153 : decode cX2_divide 153 = .ok (.aload_n 0, 1) := by decide +kernel
theorem dX2_divide_154 : decode cX2_divide 154 = .ok (.getfield 40, 3) := by decide +kernel
theorem dX2_divide_157 : decode cX2_divide 157 = .ok (.getfield 75, 3) := by decide +kernel
theorem dX2_divide_160 : decode cX2_divide 160 = .ok (.if_icmp .eq 7, 3) := by decide +kernel
theorem dX2_divide_163 : decode cX2_divide 163 = .ok (.iconst 1, 1) := by decide +kernel
theorem dX2_divide_164 : decode cX2_divide 164 = .ok (.goto 4, 3) := by decide +kernel
theorem dX2_divide_167 : decode cX2_divide 167 = .ok (.iconst 0, 1) := by decide +kernel
theorem dX2_divide_168 : decode cX2_divide 168 = .ok (.lload 6, 2) := by decide +kernel
theorem dX2_divide_170 : decode cX2_divide 170 = .ok (.iload 9, 2) := by decide +kernel
theorem dX2_divide_172 : decode cX2_divide 172 = .ok (.iload 8, 2) := by decide +kernel
theorem dX2_divide_174 : decode cX2_divide 174 = .ok (.invokestatic 78, 3) := by decide +kernel
theorem dX2_divide_177 : decode cX2_divide 177 = .ok (.ireturn, 1) := by decide +kernel
theorem dX2_root_0 : decode cX2_root 0 = .ok (.aload_n 0, 1) := by decide +kernel
theorem dX2_root_1 : decode cX2_root 1 = .ok (.getfield 36, 3) := by decide +kernel
theorem dX2_root_4 : decode cX2_root 4 = .ok (.iload_n 1, 1) := by decide +kernel
theorem dX2_root_5 : decode cX2_root 5 = .ok (.aload_n 0, 1) := by decide +kernel
theorem dX2_root_6 : decode cX2_root 6 = .ok (.getfield 13, 3) := by decide +kernel
theorem dX2_root_9 : decode cX2_root 9 = .ok (.invokevirtual 51, 3) := by decide +kernel
theorem dX2_root_12 : decode cX2_root 12 = .ok (.aload_n 0, 1) := by decide +kernel
theorem dX2_root_13 : decode cX2_root 13 = .ok (.getfield 36, 3) := by decide +kernel
theorem dX2_root_16 : decode cX2_root 16 = .ok (.getfield 55, 3) := by decide +kernel
theorem dX2_root_19 : decode cX2_root 19 = .ok (.ifCond .ne 13, 3) := by decide +kernel
theorem dX2_root_22 : decode cX2_root 22 = .ok (.aload_n 0, 1) := by decide +kernel
theorem dX2_root_23 : decode cX2_root 23 = .ok (.getfield 36, 3) := by decide +kernel
theorem dX2_root_26 : decode cX2_root 26 = .ok (.getfield 75, 3) := by decide +kernel
theorem dX2_root_29 : decode cX2_root 29 = .ok (.ifCond .eq 11, 3) := by decide +kernel
theorem dX2_root_32 : decode cX2_root 32 = .ok (.aload_n 0, 1) := by decide +kernel
theorem dX2_root_33 : decode cX2_root 33 = .ok (.getfield 13, 3) := by decide +kernel
theorem dX2_root_36 : decode cX2_root 36 = .ok (.invokestatic 63, 3) := by decide +kernel
theorem dX2_root_39 : decode cX2_root 39 = .ok (.ireturn, 1) := by decide +kernel
theorem dX2_root_40 : decode cX2_root 40 = .ok (.aload_n 0, 1) := by decide +kernel
theorem dX2_root_41 : decode cX2_root 41 = .ok (.getfield 36, 3) := by decide +kernel
theorem dX2_root_44 : decode cX2_root 44 = .ok (.getfield 59, 3) := by decide +kernel
theorem dX2_root_47 : decode cX2_root 47 = .ok (.lconst 0, 1) := by decide +kernel
theorem dX2_root_48 : decode cX2_root 48 = .ok (.lcmp, 1) := by decide +kernel
theorem dX2_root_49 : decode cX2_root 49 = .ok (.ifCond .ne 5, 3) := by decide +kernel
theorem dX2_root_52 : decode cX2_root 52 = .ok (.iconst 0, 1) := by decide +kernel
theorem dX2_root_53 : decode cX2_root 53 = .ok (.ireturn, 1) := by decide +kernel
theorem dX2_root_54 : decode cX2_root 54 = .ok (.aload_n 0, 1) := by decide +kernel
theorem dX2_root_55 : decode cX2_root 55 = .ok (.getfield 36, 3) := by decide +kernel
theorem dX2_root_58 : decode cX2_root 58 = .ok (.getfield 59, 3) := by decide +kernel
theorem dX2_root_61 : decode cX2_root 61 = .ok (.invokestatic 66, 3) := by decide +kernel
theorem dX2_root_64 : decode cX2_root 64 = .ok (.iconst 2, 1) := by decide +kernel
theorem dX2_root_65 : decode cX2_root 65 = .ok (.isub, 1) := by decide +kernel
theorem dX2_root_66 : decode cX2_root 66 = .ok (.istore_n 2, 1) := by decide +kernel
theorem dX2_root_67 : decode cX2_root 67 = .ok (.aload_n 0, 1) := by decide +kernel
theorem dX2_root_68 : decode cX2_root 68 = .ok (.getfield 36, 3) := by decide +kernel
theorem dX2_root_71 : decode cX2_root 71 = .ok (.getfield 72, 3) := by decide +kernel
theorem dX2_root_74 : decode cX2_root 74 = .ok (.iload_n 2, 1) := by decide +kernel
theorem dX2_root_75 : decode cX2_root 75 = .ok (.isub, 1) := by decide +kernel
theorem dX2_root_76 : decode cX2_root 76 = .ok (.iconst 1, 1) := by decide +kernel
theorem dX2_root_77 : decode cX2_root 77 = .ok (.iand, 1) := by decide +kernel
theorem dX2_root_78 : decode cX2_root 78 = .ok (.ifCond .eq 6, 3) := by decide +kernel
theorem dX2_root_81 : decode cX2_root 81 = .ok (.iinc 2 (-1), 3) := by decide +kernel
theorem dX2_root_84 : decode cX2_root 84 = .ok (.aload_n 0, 1) := by decide +kernel
theorem dX2_root_85 : decode cX2_root 85 = .ok (.getfield 36, 3) := by decide +kernel
theorem dX2_root_88 : decode cX2_root 88 = .ok (.getfield 59, 3) := by decide +kernel
theorem dX2_root_91 : decode cX2_root 91 = .ok (.iload_n 2, 1) := by decide +kernel
theorem dX2_root_92 : decode cX2_root 92 = .ok (.lshl, 1) := by decide +kernel
theorem dX2_root_93 : decode cX2_root 93 = .ok (.lstore_n 3, 1) := by decide +kernel
theorem dX2_root_94 : decode cX2_root 94 = .ok (.lload_n 3, 1) := by decide +kernel
theorem dX2_root_95 : decode cX2_root 95 = .ok (.invokestatic 82, 3) := by decide +kernel
theorem dX2_root_98 : decode cX2_root 98 = .ok (.lstore 5, 2) := by decide +kernel
theorem dX2_root_100 : decode cX2_root 100 = .ok (.lload 5, 2) := by decide +kernel
theorem dX2_root_102 : decode cX2_root 102 = .ok (.lload 5, 2) := by decide +kernel
theorem dX2_root_104 : decode cX2_root 104 = .ok (.lmul, 1) := by decide +kernel
theorem dX2_root_105 : decode cX2_root 105 = .ok (.lload_n 3, 1) := by decide +kernel
theorem dX2_root_106 : decode cX2_root 106 = .ok (.lcmp, 1) := by decide +kernel
theorem dX2_root_107 : decode cX2_root 107 = .ok (.ifCond .eq 7, 3) := by decide +kernel
theorem dX2_root_110 : decode cX2_root 110 = .ok (.iconst 1, 1) := by decide +kernel
theorem dX2_root_111 : decode cX2_root 111 = .ok (.goto 4, 3) := by decide +kernel
theorem dX2_root_114 : decode cX2_root 114 = .ok (.iconst 0, 1) := by decide +kernel
theorem dX2_root_115 : decode cX2_root 115 = .ok (.istore 7, 2) := by decide +kernel
theorem dX2_root_117 : decode cX2_root 117 = .ok (.aload_n 0, 1) := by decide +kernel
theorem dX2_root_118 : decode cX2_root 118 = .ok (.getfield 13, 3) := by decide +kernel
theorem dX2_root_121 : decode cX2_root 121 = .ok (.iconst 0, 1) := by decide +kernel
theorem dX2_root_122 : decode cX2_root 122 = .ok (.lload 5, 2) := by decide +kernel
theorem dX2_root_124 : decode cX2_root 124 = .ok (.aload_n 0, 1) := by decide +kernel
theorem dX2_root_125 : decode cX2_root 125 = .ok (.getfield 36, 3) := by decide +kernel
theorem dX2_root_128 : decode cX2_root 128 = .ok (.getfield 72, 3) := by decide +kernel
theorem dX2_root_131 : decode cX2_root 131 = .ok (.iload_n 2, 1) := by decide +kernel
theorem dX2_root_132 : decode cX2_root 132 = .ok (.isub, 1) := by decide +kernel
theorem dX2_root_133 : decode cX2_root 133 = .ok (.iconst 1, 1) := by decide +kernel
theorem dX2_root_134 : decode cX2_root 134 = .ok (.ishr, 1) := by decide +kernel
theorem dX2_root_135 : decode cX2_root 135 = .ok (.iload 7, 2) := by decide +kernel
theorem dX2_root_137 : decode cX2_root 137 = .ok (.invokestatic 78, 3) := by decide +kernel
theorem dX2_root_140 : decode cX2_root 140 = .ok (.ireturn, 1) := by decide +kernel
theorem dX2_fused_0 : decode cX2_fused 0 = .ok (.aload_n 0, 1) := by decide +kernel
theorem dX2_fused_1 : decode cX2_fused 1 = .ok (.aload_n 0, 1) := by decide +kernel
theorem dX2_fused_2 : decode cX2_fused 2 = .ok (.getfield 26, 3) := by decide +kernel
theorem dX2_fused_5 : decode cX2_fused 5 = .ok (.iload_n 1, 1) := by decide +kernel
theorem dX2_fused_6 : decode cX2_fused 6 = .ok (.iload_n 2, 1) := by decide +kernel
theorem dX2_fused_7 : decode cX2_fused 7 = .ok (.invokevirtual 86, 3) := by decide +kernel
theorem dX2_fused_10 : decode cX2_fused 10 = .ok (.aload_n 0, 1) := by decide +kernel
theorem dX2_fused_11 : decode cX2_fused 11 = .ok (.aload_n 0, 1) := by decide +kernel
theorem dX2_fused_12 : decode cX2_fused 12 = .ok (.getfield 30, 3) := by decide +kernel
theorem dX2_fused_15 : decode cX2_fused 15 = .ok (.iload_n 3, 1) := by decide +kernel
theorem dX2_fused_16 : decode cX2_fused 16 = .ok (.aload_n 0, 1) := by decide +kernel
theorem dX2_fused_17 : decode cX2_fused 17 = .ok (.invokevirtual 43, 3) := by decide +kernel
theorem dX2_fused_20 : decode cX2_fused 20 = .ok (.invokevirtual 86, 3) := by decide +kernel
theorem dX2_fused_23 : decode cX2_fused 23 = .ok (.aload_n 0, 1) := by decide +kernel
theorem dX2_fused_24 : decode cX2_fused 24 = .ok (.getfield 26, 3) := by decide +kernel
theorem dX2_fused_27 : decode cX2_fused 27 = .ok (.aload_n 0, 1) := by decide +kernel
theorem dX2_fused_28 : decode cX2_fused 28 = .ok (.getfield 30, 3) := by decide +kernel
theorem dX2_fused_31 : decode cX2_fused 31 = .ok (.invokevirtual 90, 3) := by decide +kernel
theorem dX2_fused_34 : decode cX2_fused 34 = .ok (.aload_n 0, 1) := by decide +kernel
theorem dX2_fused_35 : decode cX2_fused 35 = .ok (.aload_n 0, 1) := by decide +kernel
theorem dX2_fused_36 : decode cX2_fused 36 = .ok (.getfield 26, 3) := by decide +kernel
theorem dX2_fused_39 : decode cX2_fused 39 = .ok (.invokevirtual 94, 3) := by decide +kernel
theorem dX2_fused_42 : decode cX2_fused 42 = .ok (.ireturn, 1) := by decide +kernel
theorem dX2_whole_0 : decode cX2_whole 0 = .ok (.aload_n 0, 1) := by decide +kernel
theorem dX2_whole_1 : decode cX2_whole 1 = .ok (.getfield 36, 3) := by decide +kernel
theorem dX2_whole_4 : decode cX2_whole 4 = .ok (.iload_n 1, 1) := by decide +kernel
theorem dX2_whole_5 : decode cX2_whole 5 = .ok (.aload_n 0, 1) := by decide +kernel
theorem dX2_whole_6 : decode cX2_whole 6 = .ok (.getfield 13, 3) := by decide +kernel
theorem dX2_whole_9 : decode cX2_whole 9 = .ok (.invokevirtual 51, 3) := by decide +kernel
theorem dX2_whole_12 : decode cX2_whole 12 = .ok (.aload_n 0, 1) := by decide +kernel
theorem dX2_whole_13 : decode cX2_whole 13 = .ok (.getfield 36, 3) := by decide +kernel
theorem dX2_whole_16 : decode cX2_whole 16 = .ok (.getfield 55, 3) := by decide +kernel
theorem dX2_whole_19 : decode cX2_whole 19 = .ok (.ifCond .ne 13, 3) := by decide +kernel
theorem dX2_whole_22 : decode cX2_whole 22 = .ok (.aload_n 0, 1) := by decide +kernel
theorem dX2_whole_23 : decode cX2_whole 23 = .ok (.getfield 36, 3) := by decide +kernel
theorem dX2_whole_26 : decode cX2_whole 26 = .ok (.getfield 72, 3) := by decide +kernel
theorem dX2_whole_29 : decode cX2_whole 29 = .ok (.ifCond .lt 12, 3) := by decide +kernel
theorem dX2_whole_32 : decode cX2_whole 32 = .ok (.iload_n 1, 1) := by decide +kernel
theorem dX2_whole_33 : decode cX2_whole 33 = .ok (.aload_n 0, 1) := by decide +kernel
theorem dX2_whole_34 : decode cX2_whole 34 = .ok (.getfield 13, 3) := by decide +kernel
theorem dX2_whole_37 : decode cX2_whole 37 = .ok (.invokestatic 98, 3) := by decide +kernel
theorem dX2_whole_40 : decode cX2_whole 40 = .ok (.ireturn, 1) := by decide +kernel
theorem dX2_whole_41 : decode cX2_whole 41 = .ok (.aload_n 0, 1) := by decide +kernel
theorem dX2_whole_42 : decode cX2_whole 42 = .ok (.getfield 13, 3) := by decide +kernel
theorem dX2_whole_45 : decode cX2_whole 45 = .ok (.aload_n 0, 1) := by decide +kernel
theorem dX2_whole_46 : decode cX2_whole 46 = .ok (.getfield 36, 3) := by decide +kernel
theorem dX2_whole_49 : decode cX2_whole 49 = .ok (.getfield 75, 3) := by decide +kernel
theorem dX2_whole_52 : decode cX2_whole 52 = .ok (.aload_n 0, 1) := by decide +kernel
theorem dX2_whole_53 : decode cX2_whole 53 = .ok (.getfield 36, 3) := by decide +kernel
theorem dX2_whole_56 : decode cX2_whole 56 = .ok (.invokestatic 102, 3) := by decide +kernel
theorem dX2_whole_59 : decode cX2_whole 59 = .ok (.iconst 0, 1) := by decide +kernel
theorem dX2_whole_60 : decode cX2_whole 60 = .ok (.iconst 0, 1) := by decide +kernel
theorem dX2_whole_61 : decode cX2_whole 61 = .ok (.invokestatic 78, 3) := by decide +kernel
theorem dX2_whole_64 : decode cX2_whole 64 = .ok (.ireturn, 1) := by decide +kernel
theorem dX2_next_0 : decode cX2_next 0 = .ok (.iload_n 1, 1) := by decide +kernel
theorem dX2_next_1 : decode cX2_next 1 = .ok (.iconst 1, 1) := by decide +kernel
theorem dX2_next_2 : decode cX2_next 2 = .ok (.iadd, 1) := by decide +kernel
theorem dX2_next_3 : decode cX2_next 3 = .ok (.aload_n 0, 1) := by decide +kernel
theorem dX2_next_4 : decode cX2_next 4 = .ok (.getfield 13, 3) := by decide +kernel
theorem dX2_next_7 : decode cX2_next 7 = .ok (.invokestatic 98, 3) := by decide +kernel
theorem dX2_next_10 : decode cX2_next 10 = .ok (.ireturn, 1) := by decide +kernel
theorem dX2_sizeOfWidth_0 : decode cX2_sizeOfWidth 0 = .ok (.iload_n 0, 1) := by decide +kernel
theorem dX2_sizeOfWidth_1 : decode cX2_sizeOfWidth 1 = .ok (.ifCond .ne 6, 3) := by decide +kernel
theorem dX2_sizeOfWidth_4 : decode cX2_sizeOfWidth 4 = .ok (.bipush 8, 2) := by decide +kernel
theorem dX2_sizeOfWidth_6 : decode cX2_sizeOfWidth 6 = .ok (.ireturn, 1) := by decide +kernel
theorem dX2_sizeOfWidth_7 : decode cX2_sizeOfWidth 7 = .ok (.iload_n 0, 1) := by decide +kernel
theorem dX2_sizeOfWidth_8 : decode cX2_sizeOfWidth 8 = .ok (.iconst 1, 1) := by decide +kernel
theorem dX2_sizeOfWidth_9 : decode cX2_sizeOfWidth 9 = .ok (.if_icmp .ne 8, 3) := by decide +kernel
theorem dX2_sizeOfWidth_12 : decode cX2_sizeOfWidth 12 = .ok (.bipush 16, 2) := by decide +kernel
theorem dX2_sizeOfWidth_14 : decode cX2_sizeOfWidth 14 = .ok (.goto 5, 3) := by decide +kernel
theorem dX2_sizeOfWidth_17 : decode cX2_sizeOfWidth 17 = .ok (.bipush 32, 2) := by decide +kernel
theorem dX2_sizeOfWidth_19 : decode cX2_sizeOfWidth 19 = .ok (.ireturn, 1) := by decide +kernel
theorem dX2_patternOf_0 : decode cX2_patternOf 0 = .ok (.iload_n 0, 1) := by decide +kernel
theorem dX2_patternOf_1 : decode cX2_patternOf 1 = .ok (.bipush 32, 2) := by decide +kernel
theorem dX2_patternOf_3 : decode cX2_patternOf 3 = .ok (.iload_n 1, 1) := by decide +kernel
theorem dX2_patternOf_4 : decode cX2_patternOf 4 = .ok (.isub, 1) := by decide +kernel
theorem dX2_patternOf_5 : decode cX2_patternOf 5 = .ok (.ishl, 1) := by decide +kernel
theorem dX2_patternOf_6 : decode cX2_patternOf 6 = .ok (.bipush 32, 2) := by decide +kernel
theorem dX2_patternOf_8 : decode cX2_patternOf 8 = .ok (.iload_n 1, 1) := by decide +kernel
theorem dX2_patternOf_9 : decode cX2_patternOf 9 = .ok (.isub, 1) := by decide +kernel
theorem dX2_patternOf_10 : decode cX2_patternOf 10 = .ok (.ishr, 1) := by decide +kernel
theorem dX2_patternOf_11 : decode cX2_patternOf 11 = .ok (.ireturn, 1) := by decide +kernel
theorem dX2_notOf_0 : decode cX2_notOf 0 = .ok (.iconst (-1), 1) := by decide +kernel
theorem dX2_notOf_1 : decode cX2_notOf 1 = .ok (.iload_n 0, 1) := by decide +kernel
theorem dX2_notOf_2 : decode cX2_notOf 2 = .ok (.iconst 1, 1) := by decide +kernel
theorem dX2_notOf_3 : decode cX2_notOf 3 = .ok (.isub, 1) := by decide +kernel
theorem dX2_notOf_4 : decode cX2_notOf 4 = .ok (.ishl, 1) := by decide +kernel
theorem dX2_notOf_5 : decode cX2_notOf 5 = .ok (.ireturn, 1) := by decide +kernel
theorem dX2_one_0 : decode cX2_one 0 = .ok (.iconst 1, 1) := by decide +kernel
theorem dX2_one_1 : decode cX2_one 1 = .ok (.aload_n 0, 1) := by decide +kernel
theorem dX2_one_2 : decode cX2_one 2 = .ok (.getfield 13, 3) := by decide +kernel
theorem dX2_one_5 : decode cX2_one 5 = .ok (.iconst 2, 1) := by decide +kernel
theorem dX2_one_6 : decode cX2_one 6 = .ok (.isub, 1) := by decide +kernel
theorem dX2_one_7 : decode cX2_one 7 = .ok (.ishl, 1) := by decide +kernel
theorem dX2_one_8 : decode cX2_one 8 = .ok (.ireturn, 1) := by decide +kernel
theorem dX2_setProduct_0 : decode cX2_setProduct 0 = .ok (.aload_n 0, 1) := by decide +kernel
theorem dX2_setProduct_1 : decode cX2_setProduct 1 = .ok (.getfield 36, 3) := by decide +kernel
theorem dX2_setProduct_4 : decode cX2_setProduct 4 = .ok (.iload_n 2, 1) := by decide +kernel
theorem dX2_setProduct_5 : decode cX2_setProduct 5 = .ok (.aload_n 0, 1) := by decide +kernel
theorem dX2_setProduct_6 : decode cX2_setProduct 6 = .ok (.getfield 13, 3) := by decide +kernel
theorem dX2_setProduct_9 : decode cX2_setProduct 9 = .ok (.invokevirtual 51, 3) := by decide +kernel
theorem dX2_setProduct_12 : decode cX2_setProduct 12 = .ok (.aload_n 0, 1) := by decide +kernel
theorem dX2_setProduct_13 : decode cX2_setProduct 13 = .ok (.getfield 40, 3) := by decide +kernel
theorem dX2_setProduct_16 : decode cX2_setProduct 16 = .ok (.iload_n 3, 1) := by decide +kernel
theorem dX2_setProduct_17 : decode cX2_setProduct 17 = .ok (.aload_n 0, 1) := by decide +kernel
theorem dX2_setProduct_18 : decode cX2_setProduct 18 = .ok (.getfield 13, 3) := by decide +kernel
theorem dX2_setProduct_21 : decode cX2_setProduct 21 = .ok (.invokevirtual 51, 3) := by decide +kernel
theorem dX2_setProduct_24 : decode cX2_setProduct 24 = .ok (.aload_n 1, 1) := by decide +kernel
theorem dX2_setProduct_25 : decode cX2_setProduct 25 = .ok (.aload_n 0, 1) := by decide +kernel
theorem dX2_setProduct_26 : decode cX2_setProduct 26 = .ok (.getfield 36, 3) := by decide +kernel
theorem dX2_setProduct_29 : decode cX2_setProduct 29 = .ok (.aload_n 0, 1) := by decide +kernel
theorem dX2_setProduct_30 : decode cX2_setProduct 30 = .ok (.getfield 40, 3) := by decide +kernel
theorem dX2_setProduct_33 : decode cX2_setProduct 33 = .ok (.invokevirtual 127, 3) := by decide +kernel
theorem dX2_setProduct_36 : decode cX2_setProduct 36 = .ok (.return_, 1) := by decide +kernel
theorem dX2_floorRoot_0 : decode cX2_floorRoot 0 = .ok (.lconst 0, 1) := by decide +kernel
theorem dX2_floorRoot_1 : decode cX2_floorRoot 1 = .ok (.lstore_n 2, 1) := by decide +kernel
theorem dX2_floorRoot_2 : decode cX2_floorRoot 2 = .ok (.bipush 30, 2) := by decide +kernel
theorem dX2_floorRoot_4 : decode cX2_floorRoot 4 = .ok (.istore 4, 2) := by decide +kernel
theorem dX2_floorRoot_6 : decode cX2_floorRoot 6 = .ok (.iload 4, 2) := by decide +kernel
theorem dX2_floorRoot_8 : decode cX2_floorRoot 8 = .ok (.ifCond .lt 30, 3) := by decide +kernel
theorem dX2_floorRoot_11 : decode cX2_floorRoot 11 = .ok (.lload_n 2, 1) := by decide +kernel
theorem dX2_floorRoot_12 : decode cX2_floorRoot 12 = .ok (.lconst 1, 1) := by decide +kernel
theorem dX2_floorRoot_13 : decode cX2_floorRoot 13 = .ok (.iload 4, 2) := by decide +kernel
theorem dX2_floorRoot_15 : decode cX2_floorRoot 15 = .ok (.lshl, 1) := by decide +kernel
theorem dX2_floorRoot_16 : decode cX2_floorRoot 16 = .ok (.lor, 1) := by decide +kernel
theorem dX2_floorRoot_17 : decode cX2_floorRoot 17 = .ok (.lstore 5, 2) := by decide +kernel
theorem dX2_floorRoot_19 : decode cX2_floorRoot 19 = .ok (.lload 5, 2) := by decide +kernel
theorem dX2_floorRoot_21 : decode cX2_floorRoot 21 = .ok (.lload 5, 2) := by decide +kernel
theorem dX2_floorRoot_23 : decode cX2_floorRoot 23 = .ok (.lmul, 1) := by decide +kernel
theorem dX2_floorRoot_24 : decode cX2_floorRoot 24 = .ok (.lload_n 0, 1) := by decide +kernel
theorem dX2_floorRoot_25 : decode cX2_floorRoot 25 = .ok (.lcmp, 1) := by decide +kernel
theorem dX2_floorRoot_26 : decode cX2_floorRoot 26 = .ok (.ifCond .gt 6, 3) := by decide +kernel
theorem dX2_floorRoot_29 : decode cX2_floorRoot 29 = .ok (.lload 5, 2) := by decide +kernel
theorem dX2_floorRoot_31 : decode cX2_floorRoot 31 = .ok (.lstore_n 2, 1) := by decide +kernel
theorem dX2_floorRoot_32 : decode cX2_floorRoot 32 = .ok (.iinc 4 (-1), 3) := by decide +kernel
theorem dX2_floorRoot_35 : decode cX2_floorRoot 35 = .ok (.goto (-29), 3) := by decide +kernel
theorem dX2_floorRoot_38 : decode cX2_floorRoot 38 = .ok (.lload_n 2, 1) := by decide +kernel
theorem dX2_floorRoot_39 : decode cX2_floorRoot 39 = .ok (.lreturn, 1) := by decide +kernel
theorem dX2_nearestWhole_0 : decode cX2_nearestWhole 0 = .ok (.aload_n 0, 1) := by decide +kernel
theorem dX2_nearestWhole_1 : decode cX2_nearestWhole 1 = .ok (.getfield 72, 3) := by decide +kernel
theorem dX2_nearestWhole_4 : decode cX2_nearestWhole 4 = .ok (.ifCond .lt 13, 3) := by decide +kernel
theorem dX2_nearestWhole_7 : decode cX2_nearestWhole 7 = .ok (.aload_n 0, 1) := by decide +kernel
theorem dX2_nearestWhole_8 : decode cX2_nearestWhole 8 = .ok (.getfield 59, 3) := by decide +kernel
theorem dX2_nearestWhole_11 : decode cX2_nearestWhole 11 = .ok (.aload_n 0, 1) := by decide +kernel
theorem dX2_nearestWhole_12 : decode cX2_nearestWhole 12 = .ok (.getfield 72, 3) := by decide +kernel
theorem dX2_nearestWhole_15 : decode cX2_nearestWhole 15 = .ok (.lshl, 1) := by decide +kernel
theorem dX2_nearestWhole_16 : decode cX2_nearestWhole 16 = .ok (.lreturn, 1) := by decide +kernel
theorem dX2_nearestWhole_17 : decode cX2_nearestWhole 17 = .ok (.aload_n 0, 1) := by decide +kernel
theorem dX2_nearestWhole_18 : decode cX2_nearestWhole 18 = .ok (.getfield 72, 3) := by decide +kernel
theorem dX2_nearestWhole_21 : decode cX2_nearestWhole 21 = .ok (.ineg, 1) := by decide +kernel
theorem dX2_nearestWhole_22 : decode cX2_nearestWhole 22 = .ok (.istore_n 1, 1) := by decide +kernel
theorem dX2_nearestWhole_23 : decode cX2_nearestWhole 23 = .ok (.iload_n 1, 1) := by decide +kernel
theorem dX2_nearestWhole_24 : decode cX2_nearestWhole 24 = .ok (.bipush 60, 2) := by decide +kernel
theorem dX2_nearestWhole_26 : decode cX2_nearestWhole 26 = .ok (.if_icmp .le 5, 3) := by decide +kernel
theorem dX2_nearestWhole_29 : decode cX2_nearestWhole 29 = .ok (.lconst 0, 1) := by decide +kernel
theorem dX2_nearestWhole_30 : decode cX2_nearestWhole 30 = .ok (.lreturn, 1) := by decide +kernel
theorem dX2_nearestWhole_31 : decode cX2_nearestWhole 31 = .ok (.aload_n 0, 1) := by decide +kernel
theorem dX2_nearestWhole_32 : decode cX2_nearestWhole 32 = .ok (.getfield 59, 3) := by decide +kernel
theorem dX2_nearestWhole_35 : decode cX2_nearestWhole 35 = .ok (.iload_n 1, 1) := by decide +kernel
theorem dX2_nearestWhole_36 : decode cX2_nearestWhole 36 = .ok (.lshr, 1) := by decide +kernel
theorem dX2_nearestWhole_37 : decode cX2_nearestWhole 37 = .ok (.lstore_n 2, 1) := by decide +kernel
theorem dX2_nearestWhole_38 : decode cX2_nearestWhole 38 = .ok (.aload_n 0, 1) := by decide +kernel
theorem dX2_nearestWhole_39 : decode cX2_nearestWhole 39 = .ok (.getfield 59, 3) := by decide +kernel
theorem dX2_nearestWhole_42 : decode cX2_nearestWhole 42 = .ok (.lload_n 2, 1) := by decide +kernel
theorem dX2_nearestWhole_43 : decode cX2_nearestWhole 43 = .ok (.iload_n 1, 1) := by decide +kernel
theorem dX2_nearestWhole_44 : decode cX2_nearestWhole 44 = .ok (.lshl, 1) := by decide +kernel
theorem dX2_nearestWhole_45 : decode cX2_nearestWhole 45 = .ok (.lsub, 1) := by decide +kernel
theorem dX2_nearestWhole_46 : decode cX2_nearestWhole 46 = .ok (.lstore 4, 2) := by decide +kernel
theorem dX2_nearestWhole_48 : decode cX2_nearestWhole 48 = .ok (.lconst 1, 1) := by decide +kernel
theorem dX2_nearestWhole_49 : decode cX2_nearestWhole 49 = .ok (.iload_n 1, 1) := by decide +kernel
theorem dX2_nearestWhole_50 : decode cX2_nearestWhole 50 = .ok (.iconst 1, 1) := by decide +kernel
theorem dX2_nearestWhole_51 : decode cX2_nearestWhole 51 = .ok (.isub, 1) := by decide +kernel
theorem dX2_nearestWhole_52 : decode cX2_nearestWhole 52 = .ok (.lshl, 1) := by decide +kernel
theorem dX2_nearestWhole_53 : decode cX2_nearestWhole 53 = .ok (.lstore 6, 2) := by decide +kernel
theorem dX2_nearestWhole_55 : decode cX2_nearestWhole 55 = .ok (.lload 4, 2) := by decide +kernel
theorem dX2_nearestWhole_57 : decode cX2_nearestWhole 57 = .ok (.lload 6, 2) := by decide +kernel
theorem dX2_nearestWhole_59 : decode cX2_nearestWhole 59 = .ok (.lcmp, 1) := by decide +kernel
theorem dX2_nearestWhole_60 : decode cX2_nearestWhole 60 = .ok (.ifCond .gt 19, 3) := by decide +kernel
theorem dX2_nearestWhole_63 : decode cX2_nearestWhole 63 = .ok (.lload 4, 2) := by decide +kernel
theorem dX2_nearestWhole_65 : decode cX2_nearestWhole 65 = .ok (.lload 6, 2) := by decide +kernel
theorem dX2_nearestWhole_67 : decode cX2_nearestWhole 67 = .ok (.lcmp, 1) := by decide +kernel
theorem dX2_nearestWhole_68 : decode cX2_nearestWhole 68 = .ok (.ifCond .ne 15, 3) := by decide +kernel
theorem dX2_nearestWhole_71 : decode cX2_nearestWhole 71 = .ok (.lload_n 2, 1) := by decide +kernel
theorem dX2_nearestWhole_72 : decode cX2_nearestWhole 72 = .ok (.lconst 1, 1) := by decide +kernel
theorem dX2_nearestWhole_73 : decode cX2_nearestWhole 73 = .ok (.land, 1) := by decide +kernel
theorem dX2_nearestWhole_74 : decode cX2_nearestWhole 74 = .ok (.lconst 1, 1) := by decide +kernel
theorem dX2_nearestWhole_75 : decode cX2_nearestWhole 75 = .ok (.lcmp, 1) := by decide +kernel
theorem dX2_nearestWhole_76 : decode cX2_nearestWhole 76 = .ok (.ifCond .ne 7, 3) := by decide +kernel
theorem dX2_nearestWhole_79 : decode cX2_nearestWhole 79 = .ok (.iconst 1, 1) := by decide +kernel
theorem dX2_nearestWhole_80 : decode cX2_nearestWhole 80 = .ok (.goto 4, 3) := by decide +kernel
theorem dX2_nearestWhole_83 : decode cX2_nearestWhole 83 = .ok (.iconst 0, 1) := by decide +kernel
theorem dX2_nearestWhole_84 : decode cX2_nearestWhole 84 = .ok (.istore 8, 2) := by decide +kernel
theorem dX2_nearestWhole_86 : decode cX2_nearestWhole 86 = .ok (.iload 8, 2) := by decide +kernel
theorem dX2_nearestWhole_88 : decode cX2_nearestWhole 88 = .ok (.ifCond .eq 9, 3) := by decide +kernel
theorem dX2_nearestWhole_91 : decode cX2_nearestWhole 91 = .ok (.lload_n 2, 1) := by decide +kernel
theorem dX2_nearestWhole_92 : decode cX2_nearestWhole 92 = .ok (.lconst 1, 1) := by decide +kernel
theorem dX2_nearestWhole_93 : decode cX2_nearestWhole 93 = .ok (.ladd, 1) := by decide +kernel
theorem dX2_nearestWhole_94 : decode cX2_nearestWhole 94 = .ok (.goto 4, 3) := by decide +kernel
theorem dX2_nearestWhole_97 : decode cX2_nearestWhole 97 = .ok (.lload_n 2, 1) := by decide +kernel
theorem dX2_nearestWhole_98 : decode cX2_nearestWhole 98 = .ok (.lreturn, 1) := by decide +kernel
theorem dX2_roundedSum_0 : decode cX2_roundedSum 0 = .ok (.aload_n 1, 1) := by decide +kernel
theorem dX2_roundedSum_1 : decode cX2_roundedSum 1 = .ok (.invokevirtual 130, 3) := by decide +kernel
theorem dX2_roundedSum_4 : decode cX2_roundedSum 4 = .ok (.ifCond .eq 11, 3) := by decide +kernel
theorem dX2_roundedSum_7 : decode cX2_roundedSum 7 = .ok (.aload_n 0, 1) := by decide +kernel
theorem dX2_roundedSum_8 : decode cX2_roundedSum 8 = .ok (.getfield 13, 3) := by decide +kernel
theorem dX2_roundedSum_11 : decode cX2_roundedSum 11 = .ok (.invokestatic 63, 3) := by decide +kernel
theorem dX2_roundedSum_14 : decode cX2_roundedSum 14 = .ok (.ireturn, 1) := by decide +kernel
theorem dX2_roundedSum_15 : decode cX2_roundedSum 15 = .ok (.aload_n 1, 1) := by decide +kernel
theorem dX2_roundedSum_16 : decode cX2_roundedSum 16 = .ok (.invokevirtual 134, 3) := by decide +kernel
theorem dX2_roundedSum_19 : decode cX2_roundedSum 19 = .ok (.istore_n 2, 1) := by decide +kernel
theorem dX2_roundedSum_20 : decode cX2_roundedSum 20 = .ok (.aload_n 0, 1) := by decide +kernel
theorem dX2_roundedSum_21 : decode cX2_roundedSum 21 = .ok (.getfield 30, 3) := by decide +kernel
theorem dX2_roundedSum_24 : decode cX2_roundedSum 24 = .ok (.aload_n 1, 1) := by decide +kernel
theorem dX2_roundedSum_25 : decode cX2_roundedSum 25 = .ok (.invokevirtual 137, 3) := by decide +kernel
theorem dX2_roundedSum_28 : decode cX2_roundedSum 28 = .ok (.iload_n 2, 1) := by decide +kernel
theorem dX2_roundedSum_29 : decode cX2_roundedSum 29 = .ok (.ifCond .eq 10, 3) := by decide +kernel
theorem dX2_roundedSum_32 : decode cX2_roundedSum 32 = .ok (.aload_n 0, 1) := by decide +kernel
theorem dX2_roundedSum_33 : decode cX2_roundedSum 33 = .ok (.getfield 30, 3) := by decide +kernel
theorem dX2_roundedSum_36 : decode cX2_roundedSum 36 = .ok (.invokevirtual 120, 3) := by decide +kernel
theorem dX2_roundedSum_39 : decode cX2_roundedSum 39 = .ok (.aload_n 0, 1) := by decide +kernel
theorem dX2_roundedSum_40 : decode cX2_roundedSum 40 = .ok (.getfield 30, 3) := by decide +kernel
theorem dX2_roundedSum_43 : decode cX2_roundedSum 43 = .ok (.invokevirtual 140, 3) := by decide +kernel
theorem dX2_roundedSum_46 : decode cX2_roundedSum 46 = .ok (.istore_n 3, 1) := by decide +kernel
theorem dX2_roundedSum_47 : decode cX2_roundedSum 47 = .ok (.iload_n 3, 1) := by decide +kernel
theorem dX2_roundedSum_48 : decode cX2_roundedSum 48 = .ok (.ifCond .ge 5, 3) := by decide +kernel
theorem dX2_roundedSum_51 : decode cX2_roundedSum 51 = .ok (.iconst 0, 1) := by decide +kernel
theorem dX2_roundedSum_52 : decode cX2_roundedSum 52 = .ok (.ireturn, 1) := by decide +kernel
theorem dX2_roundedSum_53 : decode cX2_roundedSum 53 = .ok (.aload_n 0, 1) := by decide +kernel
theorem dX2_roundedSum_54 : decode cX2_roundedSum 54 = .ok (.getfield 30, 3) := by decide +kernel
theorem dX2_roundedSum_57 : decode cX2_roundedSum 57 = .ok (.iload_n 3, 1) := by decide +kernel
theorem dX2_roundedSum_58 : decode cX2_roundedSum 58 = .ok (.bipush 63, 2) := by decide +kernel
theorem dX2_roundedSum_60 : decode cX2_roundedSum 60 = .ok (.isub, 1) := by decide +kernel
theorem dX2_roundedSum_61 : decode cX2_roundedSum 61 = .ok (.invokevirtual 143, 3) := by decide +kernel
theorem dX2_roundedSum_64 : decode cX2_roundedSum 64 = .ok (.istore 4, 2) := by decide +kernel
theorem dX2_roundedSum_66 : decode cX2_roundedSum 66 = .ok (.aload_n 0, 1) := by decide +kernel
theorem dX2_roundedSum_67 : decode cX2_roundedSum 67 = .ok (.getfield 13, 3) := by decide +kernel
theorem dX2_roundedSum_70 : decode cX2_roundedSum 70 = .ok (.iload_n 2, 1) := by decide +kernel
theorem dX2_roundedSum_71 : decode cX2_roundedSum 71 = .ok (.iload_n 3, 1) := by decide +kernel
theorem dX2_roundedSum_72 : decode cX2_roundedSum 72 = .ok (.aload_n 0, 1) := by decide +kernel
theorem dX2_roundedSum_73 : decode cX2_roundedSum 73 = .ok (.getfield 30, 3) := by decide +kernel
theorem dX2_roundedSum_76 : decode cX2_roundedSum 76 = .ok (.getfield 146, 3) := by decide +kernel
theorem dX2_roundedSum_79 : decode cX2_roundedSum 79 = .ok (.isub, 1) := by decide +kernel
theorem dX2_roundedSum_80 : decode cX2_roundedSum 80 = .ok (.aload_n 0, 1) := by decide +kernel
theorem dX2_roundedSum_81 : decode cX2_roundedSum 81 = .ok (.getfield 30, 3) := by decide +kernel
theorem dX2_roundedSum_84 : decode cX2_roundedSum 84 = .ok (.iload_n 3, 1) := by decide +kernel
theorem dX2_roundedSum_85 : decode cX2_roundedSum 85 = .ok (.invokevirtual 149, 3) := by decide +kernel
theorem dX2_roundedSum_88 : decode cX2_roundedSum 88 = .ok (.iload 4, 2) := by decide +kernel
theorem dX2_roundedSum_90 : decode cX2_roundedSum 90 = .ok (.invokestatic 153, 3) := by decide +kernel
theorem dX2_roundedSum_93 : decode cX2_roundedSum 93 = .ok (.ireturn, 1) := by decide +kernel
theorem dX2_rounded_0 : decode cX2_rounded 0 = .ok (.lload_n 2, 1) := by decide +kernel
theorem dX2_rounded_1 : decode cX2_rounded 1 = .ok (.lconst 0, 1) := by decide +kernel
theorem dX2_rounded_2 : decode cX2_rounded 2 = .ok (.lcmp, 1) := by decide +kernel
theorem dX2_rounded_3 : decode cX2_rounded 3 = .ok (.ifCond .ne 5, 3) := by decide +kernel
theorem dX2_rounded_6 : decode cX2_rounded 6 = .ok (.iconst 0, 1) := by decide +kernel
theorem dX2_rounded_7 : decode cX2_rounded 7 = .ok (.ireturn, 1) := by decide +kernel
theorem dX2_rounded_8 : decode cX2_rounded 8 = .ok (.lload_n 2, 1) := by decide +kernel
theorem dX2_rounded_9 : decode cX2_rounded 9 = .ok (.invokestatic 66, 3) := by decide +kernel
theorem dX2_rounded_12 : decode cX2_rounded 12 = .ok (.istore 6, 2) := by decide +kernel
theorem dX2_rounded_14 : decode cX2_rounded 14 = .ok (.iload_n 0, 1) := by decide +kernel
theorem dX2_rounded_15 : decode cX2_rounded 15 = .ok (.iload_n 1, 1) := by decide +kernel
theorem dX2_rounded_16 : decode cX2_rounded 16 = .ok (.iload 4, 2) := by decide +kernel
theorem dX2_rounded_18 : decode cX2_rounded 18 = .ok (.bipush 63, 2) := by decide +kernel
theorem dX2_rounded_20 : decode cX2_rounded 20 = .ok (.iadd, 1) := by decide +kernel
theorem dX2_rounded_21 : decode cX2_rounded 21 = .ok (.iload 6, 2) := by decide +kernel
theorem dX2_rounded_23 : decode cX2_rounded 23 = .ok (.isub, 1) := by decide +kernel
theorem dX2_rounded_24 : decode cX2_rounded 24 = .ok (.lload_n 2, 1) := by decide +kernel
theorem dX2_rounded_25 : decode cX2_rounded 25 = .ok (.iload 6, 2) := by decide +kernel
theorem dX2_rounded_27 : decode cX2_rounded 27 = .ok (.lshl, 1) := by decide +kernel
theorem dX2_rounded_28 : decode cX2_rounded 28 = .ok (.iload 5, 2) := by decide +kernel
theorem dX2_rounded_30 : decode cX2_rounded 30 = .ok (.invokestatic 153, 3) := by decide +kernel
theorem dX2_rounded_33 : decode cX2_rounded 33 = .ok (.ireturn, 1) := by decide +kernel
theorem dX2_signedPattern_0 : decode cX2_signedPattern 0 = .ok (.iload_n 0, 1) := by decide +kernel
theorem dX2_signedPattern_1 : decode cX2_signedPattern 1 = .ok (.iload_n 2, 1) := by decide +kernel
theorem dX2_signedPattern_2 : decode cX2_signedPattern 2 = .ok (.lload_n 3, 1) := by decide +kernel
theorem dX2_signedPattern_3 : decode cX2_signedPattern 3 = .ok (.iload 5, 2) := by decide +kernel
theorem dX2_signedPattern_5 : decode cX2_signedPattern 5 = .ok (.invokestatic 157, 3) := by decide +kernel
theorem dX2_signedPattern_8 : decode cX2_signedPattern 8 = .ok (.istore 6, 2) := by decide +kernel
theorem dX2_signedPattern_10 : decode cX2_signedPattern 10 = .ok (.iload_n 1, 1) := by decide +kernel
theorem dX2_signedPattern_11 : decode cX2_signedPattern 11 = .ok (.ifCond .eq 9, 3) := by decide +kernel
theorem dX2_signedPattern_14 : decode cX2_signedPattern 14 = .ok (.iload 6, 2) := by decide +kernel
theorem dX2_signedPattern_16 : decode cX2_signedPattern 16 = .ok (.ineg, 1) := by decide +kernel
theorem dX2_signedPattern_17 : decode cX2_signedPattern 17 = .ok (.goto 5, 3) := by decide +kernel
theorem dX2_signedPattern_20 : decode cX2_signedPattern 20 = .ok (.iload 6, 2) := by decide +kernel
theorem dX2_signedPattern_22 : decode cX2_signedPattern 22 = .ok (.ireturn, 1) := by decide +kernel
theorem dX2_positivePattern_0 : decode cX2_positivePattern 0 = .ok (.iconst 4, 1) := by decide +kernel
theorem dX2_positivePattern_1 : decode cX2_positivePattern 1 = .ok (.iload_n 0, 1) := by decide +kernel
theorem dX2_positivePattern_2 : decode cX2_positivePattern 2 = .ok (.imul, 1) := by decide +kernel
theorem dX2_positivePattern_3 : decode cX2_positivePattern 3 = .ok (.bipush 8, 2) := by decide +kernel
theorem dX2_positivePattern_5 : decode cX2_positivePattern 5 = .ok (.isub, 1) := by decide +kernel
theorem dX2_positivePattern_6 : decode cX2_positivePattern 6 = .ok (.istore 5, 2) := by decide +kernel
theorem dX2_positivePattern_8 : decode cX2_positivePattern 8 = .ok (.iload_n 1, 1) := by decide +kernel
theorem dX2_positivePattern_9 : decode cX2_positivePattern 9 = .ok (.iload 5, 2) := by decide +kernel
theorem dX2_positivePattern_11 : decode cX2_positivePattern 11 = .ok (.if_icmp .lt 11, 3) := by decide +kernel
theorem dX2_positivePattern_14 : decode cX2_positivePattern 14 = .ok (.iconst 1, 1) := by decide +kernel
theorem dX2_positivePattern_15 : decode cX2_positivePattern 15 = .ok (.iload_n 0, 1) := by decide +kernel
theorem dX2_positivePattern_16 : decode cX2_positivePattern 16 = .ok (.iconst 1, 1) := by decide +kernel
theorem dX2_positivePattern_17 : decode cX2_positivePattern 17 = .ok (.isub, 1) := by decide +kernel
theorem dX2_positivePattern_18 : decode cX2_positivePattern 18 = .ok (.ishl, 1) := by decide +kernel
theorem dX2_positivePattern_19 : decode cX2_positivePattern 19 = .ok (.iconst 1, 1) := by decide +kernel
theorem dX2_positivePattern_20 : decode cX2_positivePattern 20 = .ok (.isub, 1) := by decide +kernel
theorem dX2_positivePattern_21 : decode cX2_positivePattern 21 = .ok (.ireturn, 1) := by decide +kernel
theorem dX2_positivePattern_22 : decode cX2_positivePattern 22 = .ok (.iload_n 1, 1) := by decide +kernel
theorem dX2_positivePattern_23 : decode cX2_positivePattern 23 = .ok (.iload 5, 2) := by decide +kernel
theorem dX2_positivePattern_25 : decode cX2_positivePattern 25 = .ok (.ineg, 1) := by decide +kernel
theorem dX2_positivePattern_26 : decode cX2_positivePattern 26 = .ok (.if_icmp .ge 5, 3) := by decide +kernel
theorem dX2_positivePattern_29 : decode cX2_positivePattern 29 = .ok (.iconst 1, 1) := by decide +kernel
theorem dX2_positivePattern_30 : decode cX2_positivePattern 30 = .ok (.ireturn, 1) := by decide +kernel
theorem dX2_positivePattern_31 : decode cX2_positivePattern 31 = .ok (.iload_n 1, 1) := by decide +kernel
theorem dX2_positivePattern_32 : decode cX2_positivePattern 32 = .ok (.iconst 2, 1) := by decide +kernel
theorem dX2_positivePattern_33 : decode cX2_positivePattern 33 = .ok (.ishr, 1) := by decide +kernel
theorem dX2_positivePattern_34 : decode cX2_positivePattern 34 = .ok (.istore 6, 2) := by decide +kernel
theorem dX2_positivePattern_36 : decode cX2_positivePattern 36 = .ok (.iload 6, 2) := by decide +kernel
theorem dX2_positivePattern_38 : decode cX2_positivePattern 38 = .ok (.ifCond .lt 10, 3) := by decide +kernel
theorem dX2_positivePattern_41 : decode cX2_positivePattern 41 = .ok (.iload 6, 2) := by decide +kernel
theorem dX2_positivePattern_43 : decode cX2_positivePattern 43 = .ok (.iconst 2, 1) := by decide +kernel
theorem dX2_positivePattern_44 : decode cX2_positivePattern 44 = .ok (.iadd, 1) := by decide +kernel
theorem dX2_positivePattern_45 : decode cX2_positivePattern 45 = .ok (.goto 7, 3) := by decide +kernel
theorem dX2_positivePattern_48 : decode cX2_positivePattern 48 = .ok (.iconst 1, 1) := by decide +kernel
theorem dX2_positivePattern_49 : decode cX2_positivePattern 49 = .ok (.iload 6, 2) := by decide +kernel
theorem dX2_positivePattern_51 : decode cX2_positivePattern 51 = .ok (.isub, 1) := by decide +kernel
theorem dX2_positivePattern_52 : decode cX2_positivePattern 52 = .ok (.istore 7, 2) := by decide +kernel
theorem dX2_positivePattern_54 : decode cX2_positivePattern 54 = .ok (.iload 6, 2) := by decide +kernel
theorem dX2_positivePattern_56 : decode cX2_positivePattern 56 = .ok (.ifCond .lt 12, 3) := by decide +kernel
theorem dX2_positivePattern_59 : decode cX2_positivePattern 59 = .ok (.iconst 1, 1) := by decide +kernel
theorem dX2_positivePattern_60 : decode cX2_positivePattern 60 = .ok (.iload 7, 2) := by decide +kernel
theorem dX2_positivePattern_62 : decode cX2_positivePattern 62 = .ok (.ishl, 1) := by decide +kernel
theorem dX2_positivePattern_63 : decode cX2_positivePattern 63 = .ok (.iconst 2, 1) := by decide +kernel
theorem dX2_positivePattern_64 : decode cX2_positivePattern 64 = .ok (.isub, 1) := by decide +kernel
theorem dX2_positivePattern_65 : decode cX2_positivePattern 65 = .ok (.goto 4, 3) := by decide +kernel
theorem dX2_positivePattern_68 : decode cX2_positivePattern 68 = .ok (.iconst 1, 1) := by decide +kernel
theorem dX2_positivePattern_69 : decode cX2_positivePattern 69 = .ok (.istore 8, 2) := by decide +kernel
theorem dX2_positivePattern_71 : decode cX2_positivePattern 71 = .ok (.iload_n 1, 1) := by decide +kernel
theorem dX2_positivePattern_72 : decode cX2_positivePattern 72 = .ok (.iconst 3, 1) := by decide +kernel
theorem dX2_positivePattern_73 : decode cX2_positivePattern 73 = .ok (.iand, 1) := by decide +kernel
theorem dX2_positivePattern_74 : decode cX2_positivePattern 74 = .ok (.i2l, 1) := by decide +kernel
theorem dX2_positivePattern_75 : decode cX2_positivePattern 75 = .ok (.bipush 62, 2) := by decide +kernel
theorem dX2_positivePattern_77 : decode cX2_positivePattern 77 = .ok (.lshl, 1) := by decide +kernel
theorem dX2_positivePattern_78 : decode cX2_positivePattern 78 = .ok (.lload_n 2, 1) := by decide +kernel
theorem dX2_positivePattern_79 : decode cX2_positivePattern 79 = .ok (.ldc2_w 161, 3) := by decide +kernel
theorem dX2_positivePattern_82 : decode cX2_positivePattern 82 = .ok (.land, 1) := by decide +kernel
theorem dX2_positivePattern_83 : decode cX2_positivePattern 83 = .ok (.iconst 1, 1) := by decide +kernel
theorem dX2_positivePattern_84 : decode cX2_positivePattern 84 = .ok (.lushr, 1) := by decide +kernel
theorem dX2_positivePattern_85 : decode cX2_positivePattern 85 = .ok (.lor, 1) := by decide +kernel
theorem dX2_positivePattern_86 : decode cX2_positivePattern 86 = .ok (.lstore 9, 2) := by decide +kernel
theorem dX2_positivePattern_88 : decode cX2_positivePattern 88 = .ok (.iload 4, 2) := by decide +kernel
theorem dX2_positivePattern_90 : decode cX2_positivePattern 90 = .ok (.ifCond .ne 11, 3) := by decide +kernel
theorem dX2_positivePattern_93 : decode cX2_positivePattern 93 = .ok (.lload_n 2, 1) := by decide +kernel
theorem dX2_positivePattern_94 : decode cX2_positivePattern 94 = .ok (.lconst 1, 1) := by decide +kernel
theorem dX2_positivePattern_95 : decode cX2_positivePattern 95 = .ok (.land, 1) := by decide +kernel
theorem dX2_positivePattern_96 : decode cX2_positivePattern 96 = .ok (.lconst 0, 1) := by decide +kernel
theorem dX2_positivePattern_97 : decode cX2_positivePattern 97 = .ok (.lcmp, 1) := by decide +kernel
theorem dX2_positivePattern_98 : decode cX2_positivePattern 98 = .ok (.ifCond .eq 7, 3) := by decide +kernel
theorem dX2_positivePattern_101 : decode cX2_positivePattern 101 = .ok (.iconst 1, 1) := by decide +kernel
theorem dX2_positivePattern_102 : decode cX2_positivePattern 102 = .ok (.goto 4, 3) := by decide +kernel
theorem dX2_positivePattern_105 : decode cX2_positivePattern 105 = .ok (.iconst 0, 1) := by decide +kernel
theorem dX2_positivePattern_106 : decode cX2_positivePattern 106 = .ok (.istore 11, 2) := by decide +kernel
theorem dX2_positivePattern_108 : decode cX2_positivePattern 108 = .ok (.iload_n 0, 1) := by decide +kernel
theorem dX2_positivePattern_109 : decode cX2_positivePattern 109 = .ok (.iconst 1, 1) := by decide +kernel
theorem dX2_positivePattern_110 : decode cX2_positivePattern 110 = .ok (.isub, 1) := by decide +kernel
theorem dX2_positivePattern_111 : decode cX2_positivePattern 111 = .ok (.iload 7, 2) := by decide +kernel
theorem dX2_positivePattern_113 : decode cX2_positivePattern 113 = .ok (.isub, 1) := by decide +kernel
theorem dX2_positivePattern_114 : decode cX2_positivePattern 114 = .ok (.istore 12, 2) := by decide +kernel
theorem dX2_positivePattern_116 : decode cX2_positivePattern 116 = .ok (.iload 8, 2) := by decide +kernel
theorem dX2_positivePattern_118 : decode cX2_positivePattern 118 = .ok (.iload 12, 2) := by decide +kernel
theorem dX2_positivePattern_120 : decode cX2_positivePattern 120 = .ok (.ishl, 1) := by decide +kernel
theorem dX2_positivePattern_121 : decode cX2_positivePattern 121 = .ok (.lload 9, 2) := by decide +kernel
theorem dX2_positivePattern_123 : decode cX2_positivePattern 123 = .ok (.iconst 1, 1) := by decide +kernel
theorem dX2_positivePattern_124 : decode cX2_positivePattern 124 = .ok (.lushr, 1) := by decide +kernel
theorem dX2_positivePattern_125 : decode cX2_positivePattern 125 = .ok (.bipush 63, 2) := by decide +kernel
theorem dX2_positivePattern_127 : decode cX2_positivePattern 127 = .ok (.iload 12, 2) := by decide +kernel
theorem dX2_positivePattern_129 : decode cX2_positivePattern 129 = .ok (.isub, 1) := by decide +kernel
theorem dX2_positivePattern_130 : decode cX2_positivePattern 130 = .ok (.lushr, 1) := by decide +kernel
theorem dX2_positivePattern_131 : decode cX2_positivePattern 131 = .ok (.l2i, 1) := by decide +kernel
theorem dX2_positivePattern_132 : decode cX2_positivePattern 132 = .ok (.ior, 1) := by decide +kernel
theorem dX2_positivePattern_133 : decode cX2_positivePattern 133 = .ok (.istore 13, 2) := by decide +kernel
theorem dX2_positivePattern_135 : decode cX2_positivePattern 135 = .ok (.lload 9, 2) := by decide +kernel
theorem dX2_positivePattern_137 : decode cX2_positivePattern 137 = .ok (.iload 12, 2) := by decide +kernel
theorem dX2_positivePattern_139 : decode cX2_positivePattern 139 = .ok (.lshl, 1) := by decide +kernel
theorem dX2_positivePattern_140 : decode cX2_positivePattern 140 = .ok (.lstore 14, 2) := by decide +kernel
theorem dX2_positivePattern_142 : decode cX2_positivePattern 142 = .ok (.lload 14, 2) := by decide +kernel
theorem dX2_positivePattern_144 : decode cX2_positivePattern 144 = .ok (.lconst 0, 1) := by decide +kernel
theorem dX2_positivePattern_145 : decode cX2_positivePattern 145 = .ok (.lcmp, 1) := by decide +kernel
theorem dX2_positivePattern_146 : decode cX2_positivePattern 146 = .ok (.ifCond .ge 7, 3) := by decide +kernel
theorem dX2_positivePattern_149 : decode cX2_positivePattern 149 = .ok (.iconst 1, 1) := by decide +kernel
theorem dX2_positivePattern_150 : decode cX2_positivePattern 150 = .ok (.goto 4, 3) := by decide +kernel
theorem dX2_positivePattern_153 : decode cX2_positivePattern 153 = .ok (.iconst 0, 1) := by decide +kernel
theorem dX2_positivePattern_154 : decode cX2_positivePattern 154 = .ok (.istore 16, 2) := by decide +kernel
theorem dX2_positivePattern_156 : decode cX2_positivePattern 156 = .ok (.lload 14, 2) := by decide +kernel
theorem dX2_positivePattern_158 : decode cX2_positivePattern 158 = .ok (.iconst 1, 1) := by decide +kernel
theorem dX2_positivePattern_159 : decode cX2_positivePattern 159 = .ok (.lshl, 1) := by decide +kernel
theorem dX2_positivePattern_160 : decode cX2_positivePattern 160 = .ok (.lconst 0, 1) := by decide +kernel
theorem dX2_positivePattern_161 : decode cX2_positivePattern 161 = .ok (.lcmp, 1) := by decide +kernel
theorem dX2_positivePattern_162 : decode cX2_positivePattern 162 = .ok (.ifCond .ne 8, 3) := by decide +kernel
theorem dX2_positivePattern_165 : decode cX2_positivePattern 165 = .ok (.iload 11, 2) := by decide +kernel
theorem dX2_positivePattern_167 : decode cX2_positivePattern 167 = .ok (.ifCond .eq 7, 3) := by decide +kernel
theorem dX2_positivePattern_170 : decode cX2_positivePattern 170 = .ok (.iconst 1, 1) := by decide +kernel
theorem dX2_positivePattern_171 : decode cX2_positivePattern 171 = .ok (.goto 4, 3) := by decide +kernel
theorem dX2_positivePattern_174 : decode cX2_positivePattern 174 = .ok (.iconst 0, 1) := by decide +kernel
theorem dX2_positivePattern_175 : decode cX2_positivePattern 175 = .ok (.istore 17, 2) := by decide +kernel
theorem dX2_positivePattern_177 : decode cX2_positivePattern 177 = .ok (.iload 16, 2) := by decide +kernel
theorem dX2_positivePattern_179 : decode cX2_positivePattern 179 = .ok (.ifCond .eq 20, 3) := by decide +kernel
theorem dX2_positivePattern_182 : decode cX2_positivePattern 182 = .ok (.iload 17, 2) := by decide +kernel
theorem dX2_positivePattern_184 : decode cX2_positivePattern 184 = .ok (.ifCond .ne 11, 3) := by decide +kernel
theorem dX2_positivePattern_187 : decode cX2_positivePattern 187 = .ok (.iload 13, 2) := by decide +kernel
theorem dX2_positivePattern_189 : decode cX2_positivePattern 189 = .ok (.iconst 1, 1) := by decide +kernel
theorem dX2_positivePattern_190 : decode cX2_positivePattern 190 = .ok (.iand, 1) := by decide +kernel
theorem dX2_positivePattern_191 : decode cX2_positivePattern 191 = .ok (.iconst 1, 1) := by decide +kernel
theorem dX2_positivePattern_192 : decode cX2_positivePattern 192 = .ok (.if_icmp .ne 7, 3) := by decide +kernel
theorem dX2_positivePattern_195 : decode cX2_positivePattern 195 = .ok (.iconst 1, 1) := by decide +kernel
theorem dX2_positivePattern_196 : decode cX2_positivePattern 196 = .ok (.goto 4, 3) := by decide +kernel
theorem dX2_positivePattern_199 : decode cX2_positivePattern 199 = .ok (.iconst 0, 1) := by decide +kernel
theorem dX2_positivePattern_200 : decode cX2_positivePattern 200 = .ok (.istore 18, 2) := by decide +kernel
theorem dX2_positivePattern_202 : decode cX2_positivePattern 202 = .ok (.iload 18, 2) := by decide +kernel
theorem dX2_positivePattern_204 : decode cX2_positivePattern 204 = .ok (.ifCond .eq 10, 3) := by decide +kernel
theorem dX2_positivePattern_207 : decode cX2_positivePattern 207 = .ok (.iload 13, 2) := by decide +kernel
theorem dX2_positivePattern_209 : decode cX2_positivePattern 209 = .ok (.iconst 1, 1) := by decide +kernel
theorem dX2_positivePattern_210 : decode cX2_positivePattern 210 = .ok (.iadd, 1) := by decide +kernel
theorem dX2_positivePattern_211 : decode cX2_positivePattern 211 = .ok (.goto 5, 3) := by decide +kernel
theorem dX2_positivePattern_214 : decode cX2_positivePattern 214 = .ok (.iload 13, 2) := by decide +kernel
theorem dX2_positivePattern_216 : decode cX2_positivePattern 216 = .ok (.ireturn, 1) := by decide +kernel
theorem dJ6_numberOfLeadingZeros_0f7a4_0 : decode cJ6_numberOfLeadingZeros_0f7a4 0 = .ok (.iload_n 0, 1) := by decide +kernel
theorem dJ6_numberOfLeadingZeros_0f7a4_1 : decode cJ6_numberOfLeadingZeros_0f7a4 1 = .ok (.ifCond .gt 14, 3) := by decide +kernel
theorem dJ6_numberOfLeadingZeros_0f7a4_4 : decode cJ6_numberOfLeadingZeros_0f7a4 4 = .ok (.iload_n 0, 1) := by decide +kernel
theorem dJ6_numberOfLeadingZeros_0f7a4_5 : decode cJ6_numberOfLeadingZeros_0f7a4 5 = .ok (.ifCond .ne 8, 3) := by decide +kernel
theorem dJ6_numberOfLeadingZeros_0f7a4_8 : decode cJ6_numberOfLeadingZeros_0f7a4 8 = .ok (.bipush 32, 2) := by decide +kernel
theorem dJ6_numberOfLeadingZeros_0f7a4_10 : decode cJ6_numberOfLeadingZeros_0f7a4 10 = .ok (.goto 4, 3) := by decide +kernel
theorem dJ6_numberOfLeadingZeros_0f7a4_13 : decode cJ6_numberOfLeadingZeros_0f7a4 13 = .ok (.iconst 0, 1) := by decide +kernel
theorem dJ6_numberOfLeadingZeros_0f7a4_14 : decode cJ6_numberOfLeadingZeros_0f7a4 14 = .ok (.ireturn, 1) := by decide +kernel
theorem dJ6_numberOfLeadingZeros_0f7a4_15 : decode cJ6_numberOfLeadingZeros_0f7a4 15 = .ok (.bipush 31, 2) := by decide +kernel
theorem dJ6_numberOfLeadingZeros_0f7a4_17 : decode cJ6_numberOfLeadingZeros_0f7a4 17 = .ok (.istore_n 1, 1) := by decide +kernel
theorem dJ6_numberOfLeadingZeros_0f7a4_18 : decode cJ6_numberOfLeadingZeros_0f7a4 18 = .ok (.iload_n 0, 1) := by decide +kernel
theorem dJ6_numberOfLeadingZeros_0f7a4_19 : decode cJ6_numberOfLeadingZeros_0f7a4 19 = .ok (.ldc_w 264, 3) := by decide +kernel
theorem dJ6_numberOfLeadingZeros_0f7a4_22 : decode cJ6_numberOfLeadingZeros_0f7a4 22 = .ok (.if_icmp .lt 11, 3) := by decide +kernel
theorem dJ6_numberOfLeadingZeros_0f7a4_25 : decode cJ6_numberOfLeadingZeros_0f7a4 25 = .ok (.iinc 1 (-16), 3) := by decide +kernel
theorem dJ6_numberOfLeadingZeros_0f7a4_28 : decode cJ6_numberOfLeadingZeros_0f7a4 28 = .ok (.iload_n 0, 1) := by decide +kernel
theorem dJ6_numberOfLeadingZeros_0f7a4_29 : decode cJ6_numberOfLeadingZeros_0f7a4 29 = .ok (.bipush 16, 2) := by decide +kernel
theorem dJ6_numberOfLeadingZeros_0f7a4_31 : decode cJ6_numberOfLeadingZeros_0f7a4 31 = .ok (.iushr, 1) := by decide +kernel
theorem dJ6_numberOfLeadingZeros_0f7a4_32 : decode cJ6_numberOfLeadingZeros_0f7a4 32 = .ok (.istore_n 0, 1) := by decide +kernel
theorem dJ6_numberOfLeadingZeros_0f7a4_33 : decode cJ6_numberOfLeadingZeros_0f7a4 33 = .ok (.iload_n 0, 1) := by decide +kernel
theorem dJ6_numberOfLeadingZeros_0f7a4_34 : decode cJ6_numberOfLeadingZeros_0f7a4 34 = .ok (.sipush 256, 3) := by decide +kernel
theorem dJ6_numberOfLeadingZeros_0f7a4_37 : decode cJ6_numberOfLeadingZeros_0f7a4 37 = .ok (.if_icmp .lt 11, 3) := by decide +kernel
theorem dJ6_numberOfLeadingZeros_0f7a4_40 : decode cJ6_numberOfLeadingZeros_0f7a4 40 = .ok (.iinc 1 (-8), 3) := by decide +kernel
theorem dJ6_numberOfLeadingZeros_0f7a4_43 : decode cJ6_numberOfLeadingZeros_0f7a4 43 = .ok (.iload_n 0, 1) := by decide +kernel
theorem dJ6_numberOfLeadingZeros_0f7a4_44 : decode cJ6_numberOfLeadingZeros_0f7a4 44 = .ok (.bipush 8, 2) := by decide +kernel
theorem dJ6_numberOfLeadingZeros_0f7a4_46 : decode cJ6_numberOfLeadingZeros_0f7a4 46 = .ok (.iushr, 1) := by decide +kernel
theorem dJ6_numberOfLeadingZeros_0f7a4_47 : decode cJ6_numberOfLeadingZeros_0f7a4 47 = .ok (.istore_n 0, 1) := by decide +kernel
theorem dJ6_numberOfLeadingZeros_0f7a4_48 : decode cJ6_numberOfLeadingZeros_0f7a4 48 = .ok (.iload_n 0, 1) := by decide +kernel
theorem dJ6_numberOfLeadingZeros_0f7a4_49 : decode cJ6_numberOfLeadingZeros_0f7a4 49 = .ok (.bipush 16, 2) := by decide +kernel
theorem dJ6_numberOfLeadingZeros_0f7a4_51 : decode cJ6_numberOfLeadingZeros_0f7a4 51 = .ok (.if_icmp .lt 10, 3) := by decide +kernel
theorem dJ6_numberOfLeadingZeros_0f7a4_54 : decode cJ6_numberOfLeadingZeros_0f7a4 54 = .ok (.iinc 1 (-4), 3) := by decide +kernel
theorem dJ6_numberOfLeadingZeros_0f7a4_57 : decode cJ6_numberOfLeadingZeros_0f7a4 57 = .ok (.iload_n 0, 1) := by decide +kernel
theorem dJ6_numberOfLeadingZeros_0f7a4_58 : decode cJ6_numberOfLeadingZeros_0f7a4 58 = .ok (.iconst 4, 1) := by decide +kernel
theorem dJ6_numberOfLeadingZeros_0f7a4_59 : decode cJ6_numberOfLeadingZeros_0f7a4 59 = .ok (.iushr, 1) := by decide +kernel
theorem dJ6_numberOfLeadingZeros_0f7a4_60 : decode cJ6_numberOfLeadingZeros_0f7a4 60 = .ok (.istore_n 0, 1) := by decide +kernel
theorem dJ6_numberOfLeadingZeros_0f7a4_61 : decode cJ6_numberOfLeadingZeros_0f7a4 61 = .ok (.iload_n 0, 1) := by decide +kernel
theorem dJ6_numberOfLeadingZeros_0f7a4_62 : decode cJ6_numberOfLeadingZeros_0f7a4 62 = .ok (.iconst 4, 1) := by decide +kernel
theorem dJ6_numberOfLeadingZeros_0f7a4_63 : decode cJ6_numberOfLeadingZeros_0f7a4 63 = .ok (.if_icmp .lt 10, 3) := by decide +kernel
theorem dJ6_numberOfLeadingZeros_0f7a4_66 : decode cJ6_numberOfLeadingZeros_0f7a4 66 = .ok (.iinc 1 (-2), 3) := by decide +kernel
theorem dJ6_numberOfLeadingZeros_0f7a4_69 : decode cJ6_numberOfLeadingZeros_0f7a4 69 = .ok (.iload_n 0, 1) := by decide +kernel
theorem dJ6_numberOfLeadingZeros_0f7a4_70 : decode cJ6_numberOfLeadingZeros_0f7a4 70 = .ok (.iconst 2, 1) := by decide +kernel
theorem dJ6_numberOfLeadingZeros_0f7a4_71 : decode cJ6_numberOfLeadingZeros_0f7a4 71 = .ok (.iushr, 1) := by decide +kernel
theorem dJ6_numberOfLeadingZeros_0f7a4_72 : decode cJ6_numberOfLeadingZeros_0f7a4 72 = .ok (.istore_n 0, 1) := by decide +kernel
theorem dJ6_numberOfLeadingZeros_0f7a4_73 : decode cJ6_numberOfLeadingZeros_0f7a4 73 = .ok (.iload_n 1, 1) := by decide +kernel
theorem dJ6_numberOfLeadingZeros_0f7a4_74 : decode cJ6_numberOfLeadingZeros_0f7a4 74 = .ok (.iload_n 0, 1) := by decide +kernel
theorem dJ6_numberOfLeadingZeros_0f7a4_75 : decode cJ6_numberOfLeadingZeros_0f7a4 75 = .ok (.iconst 1, 1) := by decide +kernel
theorem dJ6_numberOfLeadingZeros_0f7a4_76 : decode cJ6_numberOfLeadingZeros_0f7a4 76 = .ok (.iushr, 1) := by decide +kernel
theorem dJ6_numberOfLeadingZeros_0f7a4_77 : decode cJ6_numberOfLeadingZeros_0f7a4 77 = .ok (.isub, 1) := by decide +kernel
theorem dJ6_numberOfLeadingZeros_0f7a4_78 : decode cJ6_numberOfLeadingZeros_0f7a4 78 = .ok (.ireturn, 1) := by decide +kernel
theorem dJ6_numberOfTrailingZeros_0f7a4_0 : decode cJ6_numberOfTrailingZeros_0f7a4 0 = .ok (.iload_n 0, 1) := by decide +kernel
theorem dJ6_numberOfTrailingZeros_0f7a4_1 : decode cJ6_numberOfTrailingZeros_0f7a4 1 = .ok (.iconst (-1), 1) := by decide +kernel
theorem dJ6_numberOfTrailingZeros_0f7a4_2 : decode cJ6_numberOfTrailingZeros_0f7a4 2 = .ok (.ixor, 1) := by decide +kernel
theorem dJ6_numberOfTrailingZeros_0f7a4_3 : decode cJ6_numberOfTrailingZeros_0f7a4 3 = .ok (.iload_n 0, 1) := by decide +kernel
theorem dJ6_numberOfTrailingZeros_0f7a4_4 : decode cJ6_numberOfTrailingZeros_0f7a4 4 = .ok (.iconst 1, 1) := by decide +kernel
theorem dJ6_numberOfTrailingZeros_0f7a4_5 : decode cJ6_numberOfTrailingZeros_0f7a4 5 = .ok (.isub, 1) := by decide +kernel
theorem dJ6_numberOfTrailingZeros_0f7a4_6 : decode cJ6_numberOfTrailingZeros_0f7a4 6 = .ok (.iand, 1) := by decide +kernel
theorem dJ6_numberOfTrailingZeros_0f7a4_7 : decode cJ6_numberOfTrailingZeros_0f7a4 7 = .ok (.istore_n 0, 1) := by decide +kernel
theorem dJ6_numberOfTrailingZeros_0f7a4_8 : decode cJ6_numberOfTrailingZeros_0f7a4 8 = .ok (.iload_n 0, 1) := by decide +kernel
theorem dJ6_numberOfTrailingZeros_0f7a4_9 : decode cJ6_numberOfTrailingZeros_0f7a4 9 = .ok (.ifCond .gt 8, 3) := by decide +kernel
theorem dJ6_numberOfTrailingZeros_0f7a4_12 : decode cJ6_numberOfTrailingZeros_0f7a4 12 = .ok (.iload_n 0, 1) := by decide +kernel
theorem dJ6_numberOfTrailingZeros_0f7a4_13 : decode cJ6_numberOfTrailingZeros_0f7a4 13 = .ok (.bipush 32, 2) := by decide +kernel
theorem dJ6_numberOfTrailingZeros_0f7a4_15 : decode cJ6_numberOfTrailingZeros_0f7a4 15 = .ok (.iand, 1) := by decide +kernel
theorem dJ6_numberOfTrailingZeros_0f7a4_16 : decode cJ6_numberOfTrailingZeros_0f7a4 16 = .ok (.ireturn, 1) := by decide +kernel
theorem dJ6_numberOfTrailingZeros_0f7a4_17 : decode cJ6_numberOfTrailingZeros_0f7a4 17 = .ok (.iconst 1, 1) := by decide +kernel
theorem dJ6_numberOfTrailingZeros_0f7a4_18 : decode cJ6_numberOfTrailingZeros_0f7a4 18 = .ok (.istore_n 1, 1) := by decide +kernel
theorem dJ6_numberOfTrailingZeros_0f7a4_19 : decode cJ6_numberOfTrailingZeros_0f7a4 19 = .ok (.iload_n 0, 1) := by decide +kernel
theorem dJ6_numberOfTrailingZeros_0f7a4_20 : decode cJ6_numberOfTrailingZeros_0f7a4 20 = .ok (.ldc_w 264, 3) := by decide +kernel
theorem dJ6_numberOfTrailingZeros_0f7a4_23 : decode cJ6_numberOfTrailingZeros_0f7a4 23 = .ok (.if_icmp .le 11, 3) := by decide +kernel
theorem dJ6_numberOfTrailingZeros_0f7a4_26 : decode cJ6_numberOfTrailingZeros_0f7a4 26 = .ok (.iinc 1 16, 3) := by decide +kernel
theorem dJ6_numberOfTrailingZeros_0f7a4_29 : decode cJ6_numberOfTrailingZeros_0f7a4 29 = .ok (.iload_n 0, 1) := by decide +kernel
theorem dJ6_numberOfTrailingZeros_0f7a4_30 : decode cJ6_numberOfTrailingZeros_0f7a4 30 = .ok (.bipush 16, 2) := by decide +kernel
theorem dJ6_numberOfTrailingZeros_0f7a4_32 : decode cJ6_numberOfTrailingZeros_0f7a4 32 = .ok (.iushr, 1) := by decide +kernel
theorem dJ6_numberOfTrailingZeros_0f7a4_33 : decode cJ6_numberOfTrailingZeros_0f7a4 33 = .ok (.istore_n 0, 1) := by decide +kernel
theorem dJ6_numberOfTrailingZeros_0f7a4_34 : decode cJ6_numberOfTrailingZeros_0f7a4 34 = .ok (.iload_n 0, 1) := by decide +kernel
theorem dJ6_numberOfTrailingZeros_0f7a4_35 : decode cJ6_numberOfTrailingZeros_0f7a4 35 = .ok (.sipush 256, 3) := by decide +kernel
theorem dJ6_numberOfTrailingZeros_0f7a4_38 : decode cJ6_numberOfTrailingZeros_0f7a4 38 = .ok (.if_icmp .le 11, 3) := by decide +kernel
theorem dJ6_numberOfTrailingZeros_0f7a4_41 : decode cJ6_numberOfTrailingZeros_0f7a4 41 = .ok (.iinc 1 8, 3) := by decide +kernel
theorem dJ6_numberOfTrailingZeros_0f7a4_44 : decode cJ6_numberOfTrailingZeros_0f7a4 44 = .ok (.iload_n 0, 1) := by decide +kernel
theorem dJ6_numberOfTrailingZeros_0f7a4_45 : decode cJ6_numberOfTrailingZeros_0f7a4 45 = .ok (.bipush 8, 2) := by decide +kernel
theorem dJ6_numberOfTrailingZeros_0f7a4_47 : decode cJ6_numberOfTrailingZeros_0f7a4 47 = .ok (.iushr, 1) := by decide +kernel
theorem dJ6_numberOfTrailingZeros_0f7a4_48 : decode cJ6_numberOfTrailingZeros_0f7a4 48 = .ok (.istore_n 0, 1) := by decide +kernel
theorem dJ6_numberOfTrailingZeros_0f7a4_49 : decode cJ6_numberOfTrailingZeros_0f7a4 49 = .ok (.iload_n 0, 1) := by decide +kernel
theorem dJ6_numberOfTrailingZeros_0f7a4_50 : decode cJ6_numberOfTrailingZeros_0f7a4 50 = .ok (.bipush 16, 2) := by decide +kernel
theorem dJ6_numberOfTrailingZeros_0f7a4_52 : decode cJ6_numberOfTrailingZeros_0f7a4 52 = .ok (.if_icmp .le 10, 3) := by decide +kernel
theorem dJ6_numberOfTrailingZeros_0f7a4_55 : decode cJ6_numberOfTrailingZeros_0f7a4 55 = .ok (.iinc 1 4, 3) := by decide +kernel
theorem dJ6_numberOfTrailingZeros_0f7a4_58 : decode cJ6_numberOfTrailingZeros_0f7a4 58 = .ok (.iload_n 0, 1) := by decide +kernel
theorem dJ6_numberOfTrailingZeros_0f7a4_59 : decode cJ6_numberOfTrailingZeros_0f7a4 59 = .ok (.iconst 4, 1) := by decide +kernel
theorem dJ6_numberOfTrailingZeros_0f7a4_60 : decode cJ6_numberOfTrailingZeros_0f7a4 60 = .ok (.iushr, 1) := by decide +kernel
theorem dJ6_numberOfTrailingZeros_0f7a4_61 : decode cJ6_numberOfTrailingZeros_0f7a4 61 = .ok (.istore_n 0, 1) := by decide +kernel
theorem dJ6_numberOfTrailingZeros_0f7a4_62 : decode cJ6_numberOfTrailingZeros_0f7a4 62 = .ok (.iload_n 0, 1) := by decide +kernel
theorem dJ6_numberOfTrailingZeros_0f7a4_63 : decode cJ6_numberOfTrailingZeros_0f7a4 63 = .ok (.iconst 4, 1) := by decide +kernel
theorem dJ6_numberOfTrailingZeros_0f7a4_64 : decode cJ6_numberOfTrailingZeros_0f7a4 64 = .ok (.if_icmp .le 10, 3) := by decide +kernel
theorem dJ6_numberOfTrailingZeros_0f7a4_67 : decode cJ6_numberOfTrailingZeros_0f7a4 67 = .ok (.iinc 1 2, 3) := by decide +kernel
theorem dJ6_numberOfTrailingZeros_0f7a4_70 : decode cJ6_numberOfTrailingZeros_0f7a4 70 = .ok (.iload_n 0, 1) := by decide +kernel
theorem dJ6_numberOfTrailingZeros_0f7a4_71 : decode cJ6_numberOfTrailingZeros_0f7a4 71 = .ok (.iconst 2, 1) := by decide +kernel
theorem dJ6_numberOfTrailingZeros_0f7a4_72 : decode cJ6_numberOfTrailingZeros_0f7a4 72 = .ok (.iushr, 1) := by decide +kernel
theorem dJ6_numberOfTrailingZeros_0f7a4_73 : decode cJ6_numberOfTrailingZeros_0f7a4 73 = .ok (.istore_n 0, 1) := by decide +kernel
theorem dJ6_numberOfTrailingZeros_0f7a4_74 : decode cJ6_numberOfTrailingZeros_0f7a4 74 = .ok (.iload_n 1, 1) := by decide +kernel
theorem dJ6_numberOfTrailingZeros_0f7a4_75 : decode cJ6_numberOfTrailingZeros_0f7a4 75 = .ok (.iload_n 0, 1) := by decide +kernel
theorem dJ6_numberOfTrailingZeros_0f7a4_76 : decode cJ6_numberOfTrailingZeros_0f7a4 76 = .ok (.iconst 1, 1) := by decide +kernel
theorem dJ6_numberOfTrailingZeros_0f7a4_77 : decode cJ6_numberOfTrailingZeros_0f7a4 77 = .ok (.iushr, 1) := by decide +kernel
theorem dJ6_numberOfTrailingZeros_0f7a4_78 : decode cJ6_numberOfTrailingZeros_0f7a4 78 = .ok (.iadd, 1) := by decide +kernel
theorem dJ6_numberOfTrailingZeros_0f7a4_79 : decode cJ6_numberOfTrailingZeros_0f7a4 79 = .ok (.ireturn, 1) := by decide +kernel
theorem dJ13_numberOfLeadingZeros_95d88_0 : decode cJ13_numberOfLeadingZeros_95d88 0 = .ok (.lload_n 0, 1) := by decide +kernel
theorem dJ13_numberOfLeadingZeros_95d88_1 : decode cJ13_numberOfLeadingZeros_95d88 1 = .ok (.bipush 32, 2) := by decide +kernel
theorem dJ13_numberOfLeadingZeros_95d88_3 : decode cJ13_numberOfLeadingZeros_95d88 3 = .ok (.lushr, 1) := by decide +kernel
theorem dJ13_numberOfLeadingZeros_95d88_4 : decode cJ13_numberOfLeadingZeros_95d88 4 = .ok (.l2i, 1) := by decide +kernel
theorem dJ13_numberOfLeadingZeros_95d88_5 : decode cJ13_numberOfLeadingZeros_95d88 5 = .ok (.istore_n 2, 1) := by decide +kernel
theorem dJ13_numberOfLeadingZeros_95d88_6 : decode cJ13_numberOfLeadingZeros_95d88 6 = .ok (.iload_n 2, 1) := by decide +kernel
theorem dJ13_numberOfLeadingZeros_95d88_7 : decode cJ13_numberOfLeadingZeros_95d88 7 = .ok (.ifCond .ne 14, 3) := by decide +kernel
theorem dJ13_numberOfLeadingZeros_95d88_10 : decode cJ13_numberOfLeadingZeros_95d88 10 = .ok (.bipush 32, 2) := by decide +kernel
theorem dJ13_numberOfLeadingZeros_95d88_12 : decode cJ13_numberOfLeadingZeros_95d88 12 = .ok (.lload_n 0, 1) := by decide +kernel
theorem dJ13_numberOfLeadingZeros_95d88_13 : decode cJ13_numberOfLeadingZeros_95d88 13 = .ok (.l2i, 1) := by decide +kernel
theorem dJ13_numberOfLeadingZeros_95d88_14 : decode cJ13_numberOfLeadingZeros_95d88 14 = .ok (.invokestatic 308, 3) := by decide +kernel
theorem dJ13_numberOfLeadingZeros_95d88_17 : decode cJ13_numberOfLeadingZeros_95d88 17 = .ok (.iadd, 1) := by decide +kernel
theorem dJ13_numberOfLeadingZeros_95d88_18 : decode cJ13_numberOfLeadingZeros_95d88 18 = .ok (.goto 7, 3) := by decide +kernel
theorem dJ13_numberOfLeadingZeros_95d88_21 : decode cJ13_numberOfLeadingZeros_95d88 21 = .ok (.iload_n 2, 1) := by decide +kernel
theorem dJ13_numberOfLeadingZeros_95d88_22 : decode cJ13_numberOfLeadingZeros_95d88 22 = .ok (.invokestatic 308, 3) := by decide +kernel
theorem dJ13_numberOfLeadingZeros_95d88_25 : decode cJ13_numberOfLeadingZeros_95d88 25 = .ok (.ireturn, 1) := by decide +kernel
theorem dJ13_numberOfTrailingZeros_95d88_0 : decode cJ13_numberOfTrailingZeros_95d88 0 = .ok (.lload_n 0, 1) := by decide +kernel
theorem dJ13_numberOfTrailingZeros_95d88_1 : decode cJ13_numberOfTrailingZeros_95d88 1 = .ok (.l2i, 1) := by decide +kernel
theorem dJ13_numberOfTrailingZeros_95d88_2 : decode cJ13_numberOfTrailingZeros_95d88 2 = .ok (.istore_n 2, 1) := by decide +kernel
theorem dJ13_numberOfTrailingZeros_95d88_3 : decode cJ13_numberOfTrailingZeros_95d88 3 = .ok (.iload_n 2, 1) := by decide +kernel
theorem dJ13_numberOfTrailingZeros_95d88_4 : decode cJ13_numberOfTrailingZeros_95d88 4 = .ok (.ifCond .ne 17, 3) := by decide +kernel
theorem dJ13_numberOfTrailingZeros_95d88_7 : decode cJ13_numberOfTrailingZeros_95d88 7 = .ok (.bipush 32, 2) := by decide +kernel
theorem dJ13_numberOfTrailingZeros_95d88_9 : decode cJ13_numberOfTrailingZeros_95d88 9 = .ok (.lload_n 0, 1) := by decide +kernel
theorem dJ13_numberOfTrailingZeros_95d88_10 : decode cJ13_numberOfTrailingZeros_95d88 10 = .ok (.bipush 32, 2) := by decide +kernel
theorem dJ13_numberOfTrailingZeros_95d88_12 : decode cJ13_numberOfTrailingZeros_95d88 12 = .ok (.lushr, 1) := by decide +kernel
theorem dJ13_numberOfTrailingZeros_95d88_13 : decode cJ13_numberOfTrailingZeros_95d88 13 = .ok (.l2i, 1) := by decide +kernel
theorem dJ13_numberOfTrailingZeros_95d88_14 : decode cJ13_numberOfTrailingZeros_95d88 14 = .ok (.invokestatic 311, 3) := by decide +kernel
theorem dJ13_numberOfTrailingZeros_95d88_17 : decode cJ13_numberOfTrailingZeros_95d88 17 = .ok (.iadd, 1) := by decide +kernel
theorem dJ13_numberOfTrailingZeros_95d88_18 : decode cJ13_numberOfTrailingZeros_95d88 18 = .ok (.goto 7, 3) := by decide +kernel
theorem dJ13_numberOfTrailingZeros_95d88_21 : decode cJ13_numberOfTrailingZeros_95d88 21 = .ok (.iload_n 2, 1) := by decide +kernel
theorem dJ13_numberOfTrailingZeros_95d88_22 : decode cJ13_numberOfTrailingZeros_95d88 22 = .ok (.invokestatic 311, 3) := by decide +kernel
theorem dJ13_numberOfTrailingZeros_95d88_25 : decode cJ13_numberOfTrailingZeros_95d88 25 = .ok (.ireturn, 1) := by decide +kernel
theorem dJ9_abs_0f7a4_0 : decode cJ9_abs_0f7a4 0 = .ok (.iload_n 0, 1) := by decide +kernel
theorem dJ9_abs_0f7a4_1 : decode cJ9_abs_0f7a4 1 = .ok (.ifCond .ge 8, 3) := by decide +kernel
theorem dJ9_abs_0f7a4_4 : decode cJ9_abs_0f7a4 4 = .ok (.iload_n 0, 1) := by decide +kernel
theorem dJ9_abs_0f7a4_5 : decode cJ9_abs_0f7a4 5 = .ok (.ineg, 1) := by decide +kernel
theorem dJ9_abs_0f7a4_6 : decode cJ9_abs_0f7a4 6 = .ok (.goto 4, 3) := by decide +kernel
theorem dJ9_abs_0f7a4_9 : decode cJ9_abs_0f7a4 9 = .ok (.iload_n 0, 1) := by decide +kernel
theorem dJ9_abs_0f7a4_10 : decode cJ9_abs_0f7a4 10 = .ok (.ireturn, 1) := by decide +kernel
theorem dJ9_min_7cf53_0 : decode cJ9_min_7cf53 0 = .ok (.iload_n 0, 1) := by decide +kernel
theorem dJ9_min_7cf53_1 : decode cJ9_min_7cf53 1 = .ok (.iload_n 1, 1) := by decide +kernel
theorem dJ9_min_7cf53_2 : decode cJ9_min_7cf53 2 = .ok (.if_icmp .gt 7, 3) := by decide +kernel
theorem dJ9_min_7cf53_5 : decode cJ9_min_7cf53 5 = .ok (.iload_n 0, 1) := by decide +kernel
theorem dJ9_min_7cf53_6 : decode cJ9_min_7cf53 6 = .ok (.goto 4, 3) := by decide +kernel
theorem dJ9_min_7cf53_9 : decode cJ9_min_7cf53 9 = .ok (.iload_n 1, 1) := by decide +kernel
theorem dJ9_min_7cf53_10 : decode cJ9_min_7cf53 10 = .ok (.ireturn, 1) := by decide +kernel
theorem dL_law_0 : decode cL_law 0 = .ok (.new 7, 3) := by decide +kernel
theorem dL_law_3 : decode cL_law 3 = .ok (.dup, 1) := by decide +kernel
theorem dL_law_4 : decode cL_law 4 = .ok (.aload_n 0, 1) := by decide +kernel
theorem dL_law_5 : decode cL_law 5 = .ok (.iconst 0, 1) := by decide +kernel
theorem dL_law_6 : decode cL_law 6 = .ok (.invokestatic 9, 3) := by decide +kernel
theorem dL_law_9 : decode cL_law 9 = .ok (.invokespecial 15, 3) := by decide +kernel
theorem dL_law_12 : decode cL_law 12 = .ok (.astore_n 1, 1) := by decide +kernel
theorem dL_law_13 : decode cL_law 13 = .ok (.new 18, 3) := by decide +kernel
theorem dL_law_16 : decode cL_law 16 = .ok (.dup, 1) := by decide +kernel
theorem dL_law_17 : decode cL_law 17 = .ok (.aload_n 0, 1) := by decide +kernel
theorem dL_law_18 : decode cL_law 18 = .ok (.iconst 0, 1) := by decide +kernel
theorem dL_law_19 : decode cL_law 19 = .ok (.invokestatic 9, 3) := by decide +kernel
theorem dL_law_22 : decode cL_law 22 = .ok (.invokespecial 20, 3) := by decide +kernel
theorem dL_law_25 : decode cL_law 25 = .ok (.astore_n 2, 1) := by decide +kernel
theorem dL_law_26 : decode cL_law 26 = .ok (.iconst 1, 1) := by decide +kernel
theorem dL_law_27 : decode cL_law 27 = .ok (.istore_n 3, 1) := by decide +kernel
theorem dL_law_28 : decode cL_law 28 = .ok (.iload_n 3, 1) := by decide +kernel
theorem dL_law_29 : decode cL_law 29 = .ok (.aload_n 0, 1) := by decide +kernel
theorem dL_law_30 : decode cL_law 30 = .ok (.arraylength, 1) := by decide +kernel
theorem dL_law_31 : decode cL_law 31 = .ok (.iconst 5, 1) := by decide +kernel
theorem dL_law_32 : decode cL_law 32 = .ok (.isub, 1) := by decide +kernel
theorem dL_law_33 : decode cL_law 33 = .ok (.if_icmp .gt 700, 3) := by decide +kernel
theorem dL_law_36 : decode cL_law 36 = .ok (.aload_n 0, 1) := by decide +kernel
theorem dL_law_37 : decode cL_law 37 = .ok (.iload_n 3, 1) := by decide +kernel
theorem dL_law_38 : decode cL_law 38 = .ok (.iaload, 1) := by decide +kernel
theorem dL_law_39 : decode cL_law 39 = .ok (.bipush 31, 2) := by decide +kernel
theorem dL_law_41 : decode cL_law 41 = .ok (.iand, 1) := by decide +kernel
theorem dL_law_42 : decode cL_law 42 = .ok (.tableswitch 685 0 18 #[90, 103, 136, 169, 202, 235, 258, 301, 324, 347, 400, 424, 457, 480, 549, 572, 595, 618, 652], 90) := by decide +kernel
theorem dL_law_132 : decode cL_law 132 = .ok (.aload_n 1, 1) := by decide +kernel
theorem dL_law_133 : decode cL_law 133 = .ok (.invokevirtual 21, 3) := by decide +kernel
theorem dL_law_136 : decode cL_law 136 = .ok (.aload_n 2, 1) := by decide +kernel
theorem dL_law_137 : decode cL_law 137 = .ok (.invokevirtual 25, 3) := by decide +kernel
theorem dL_law_140 : decode cL_law 140 = .ok (.if_icmp .eq 587, 3) := by decide +kernel
theorem dL_law_143 : decode cL_law 143 = .ok (.iconst 0, 1) := by decide +kernel
theorem dL_law_144 : decode cL_law 144 = .ok (.ireturn, 1) := by decide +kernel
theorem dL_law_145 : decode cL_law 145 = .ok (.aload_n 1, 1) := by decide +kernel
theorem dL_law_146 : decode cL_law 146 = .ok (.aload_n 0, 1) := by decide +kernel
theorem dL_law_147 : decode cL_law 147 = .ok (.iload_n 3, 1) := by decide +kernel
theorem dL_law_148 : decode cL_law 148 = .ok (.iconst 1, 1) := by decide +kernel
theorem dL_law_149 : decode cL_law 149 = .ok (.iadd, 1) := by decide +kernel
theorem dL_law_150 : decode cL_law 150 = .ok (.iaload, 1) := by decide +kernel
theorem dL_law_151 : decode cL_law 151 = .ok (.aload_n 0, 1) := by decide +kernel
theorem dL_law_152 : decode cL_law 152 = .ok (.iload_n 3, 1) := by decide +kernel
theorem dL_law_153 : decode cL_law 153 = .ok (.iconst 2, 1) := by decide +kernel
theorem dL_law_154 : decode cL_law 154 = .ok (.iadd, 1) := by decide +kernel
theorem dL_law_155 : decode cL_law 155 = .ok (.iaload, 1) := by decide +kernel
theorem dL_law_156 : decode cL_law 156 = .ok (.invokevirtual 26, 3) := by decide +kernel
theorem dL_law_159 : decode cL_law 159 = .ok (.aload_n 2, 1) := by decide +kernel
theorem dL_law_160 : decode cL_law 160 = .ok (.aload_n 0, 1) := by decide +kernel
theorem dL_law_161 : decode cL_law 161 = .ok (.iload_n 3, 1) := by decide +kernel
theorem dL_law_162 : decode cL_law 162 = .ok (.iconst 1, 1) := by decide +kernel
theorem dL_law_163 : decode cL_law 163 = .ok (.iadd, 1) := by decide +kernel
theorem dL_law_164 : decode cL_law 164 = .ok (.iaload, 1) := by decide +kernel
theorem dL_law_165 : decode cL_law 165 = .ok (.aload_n 0, 1) := by decide +kernel
theorem dL_law_166 : decode cL_law 166 = .ok (.iload_n 3, 1) := by decide +kernel
theorem dL_law_167 : decode cL_law 167 = .ok (.iconst 2, 1) := by decide +kernel
theorem dL_law_168 : decode cL_law 168 = .ok (.iadd, 1) := by decide +kernel
theorem dL_law_169 : decode cL_law 169 = .ok (.iaload, 1) := by decide +kernel
theorem dL_law_170 : decode cL_law 170 = .ok (.invokevirtual 30, 3) := by decide +kernel
theorem dL_law_173 : decode cL_law 173 = .ok (.if_icmp .eq 554, 3) := by decide +kernel
theorem dL_law_176 : decode cL_law 176 = .ok (.iconst 0, 1) := by decide +kernel
theorem dL_law_177 : decode cL_law 177 = .ok (.ireturn, 1) := by decide +kernel
theorem dL_law_178 : decode cL_law 178 = .ok (.aload_n 1, 1) := by decide +kernel
theorem dL_law_179 : decode cL_law 179 = .ok (.aload_n 0, 1) := by decide +kernel
theorem dL_law_180 : decode cL_law 180 = .ok (.iload_n 3, 1) := by decide +kernel
theorem dL_law_181 : decode cL_law 181 = .ok (.iconst 1, 1) := by decide +kernel
theorem dL_law_182 : decode cL_law 182 = .ok (.iadd, 1) := by decide +kernel
theorem dL_law_183 : decode cL_law 183 = .ok (.iaload, 1) := by decide +kernel
theorem dL_law_184 : decode cL_law 184 = .ok (.aload_n 0, 1) := by decide +kernel
theorem dL_law_185 : decode cL_law 185 = .ok (.iload_n 3, 1) := by decide +kernel
theorem dL_law_186 : decode cL_law 186 = .ok (.iconst 2, 1) := by decide +kernel
theorem dL_law_187 : decode cL_law 187 = .ok (.iadd, 1) := by decide +kernel
theorem dL_law_188 : decode cL_law 188 = .ok (.iaload, 1) := by decide +kernel
theorem dL_law_189 : decode cL_law 189 = .ok (.invokevirtual 31, 3) := by decide +kernel
theorem dL_law_192 : decode cL_law 192 = .ok (.aload_n 2, 1) := by decide +kernel
theorem dL_law_193 : decode cL_law 193 = .ok (.aload_n 0, 1) := by decide +kernel
theorem dL_law_194 : decode cL_law 194 = .ok (.iload_n 3, 1) := by decide +kernel
theorem dL_law_195 : decode cL_law 195 = .ok (.iconst 1, 1) := by decide +kernel
theorem dL_law_196 : decode cL_law 196 = .ok (.iadd, 1) := by decide +kernel
theorem dL_law_197 : decode cL_law 197 = .ok (.iaload, 1) := by decide +kernel
theorem dL_law_198 : decode cL_law 198 = .ok (.aload_n 0, 1) := by decide +kernel
theorem dL_law_199 : decode cL_law 199 = .ok (.iload_n 3, 1) := by decide +kernel
theorem dL_law_200 : decode cL_law 200 = .ok (.iconst 2, 1) := by decide +kernel
theorem dL_law_201 : decode cL_law 201 = .ok (.iadd, 1) := by decide +kernel
theorem dL_law_202 : decode cL_law 202 = .ok (.iaload, 1) := by decide +kernel
theorem dL_law_203 : decode cL_law 203 = .ok (.invokevirtual 34, 3) := by decide +kernel
theorem dL_law_206 : decode cL_law 206 = .ok (.if_icmp .eq 521, 3) := by decide +kernel
theorem dL_law_209 : decode cL_law 209 = .ok (.iconst 0, 1) := by decide +kernel
theorem dL_law_210 : decode cL_law 210 = .ok (.ireturn, 1) := by decide +kernel
theorem dL_law_211 : decode cL_law 211 = .ok (.aload_n 1, 1) := by decide +kernel
theorem dL_law_212 : decode cL_law 212 = .ok (.aload_n 0, 1) := by decide +kernel
theorem dL_law_213 : decode cL_law 213 = .ok (.iload_n 3, 1) := by decide +kernel
theorem dL_law_214 : decode cL_law 214 = .ok (.iconst 1, 1) := by decide +kernel
theorem dL_law_215 : decode cL_law 215 = .ok (.iadd, 1) := by decide +kernel
theorem dL_law_216 : decode cL_law 216 = .ok (.iaload, 1) := by decide +kernel
theorem dL_law_217 : decode cL_law 217 = .ok (.aload_n 0, 1) := by decide +kernel
theorem dL_law_218 : decode cL_law 218 = .ok (.iload_n 3, 1) := by decide +kernel
theorem dL_law_219 : decode cL_law 219 = .ok (.iconst 2, 1) := by decide +kernel
theorem dL_law_220 : decode cL_law 220 = .ok (.iadd, 1) := by decide +kernel
theorem dL_law_221 : decode cL_law 221 = .ok (.iaload, 1) := by decide +kernel
theorem dL_law_222 : decode cL_law 222 = .ok (.invokevirtual 35, 3) := by decide +kernel
theorem dL_law_225 : decode cL_law 225 = .ok (.aload_n 2, 1) := by decide +kernel
theorem dL_law_226 : decode cL_law 226 = .ok (.aload_n 0, 1) := by decide +kernel
theorem dL_law_227 : decode cL_law 227 = .ok (.iload_n 3, 1) := by decide +kernel
theorem dL_law_228 : decode cL_law 228 = .ok (.iconst 1, 1) := by decide +kernel
theorem dL_law_229 : decode cL_law 229 = .ok (.iadd, 1) := by decide +kernel
theorem dL_law_230 : decode cL_law 230 = .ok (.iaload, 1) := by decide +kernel
theorem dL_law_231 : decode cL_law 231 = .ok (.aload_n 0, 1) := by decide +kernel
theorem dL_law_232 : decode cL_law 232 = .ok (.iload_n 3, 1) := by decide +kernel
theorem dL_law_233 : decode cL_law 233 = .ok (.iconst 2, 1) := by decide +kernel
theorem dL_law_234 : decode cL_law 234 = .ok (.iadd, 1) := by decide +kernel
theorem dL_law_235 : decode cL_law 235 = .ok (.iaload, 1) := by decide +kernel
theorem dL_law_236 : decode cL_law 236 = .ok (.invokevirtual 38, 3) := by decide +kernel
theorem dL_law_239 : decode cL_law 239 = .ok (.if_icmp .eq 488, 3) := by decide +kernel
theorem dL_law_242 : decode cL_law 242 = .ok (.iconst 0, 1) := by decide +kernel
theorem dL_law_243 : decode cL_law 243 = .ok (.ireturn, 1) := by decide +kernel
theorem dL_law_244 : decode cL_law 244 = .ok (.aload_n 1, 1) := by decide +kernel
theorem dL_law_245 : decode cL_law 245 = .ok (.aload_n 0, 1) := by decide +kernel
theorem dL_law_246 : decode cL_law 246 = .ok (.iload_n 3, 1) := by decide +kernel
theorem dL_law_247 : decode cL_law 247 = .ok (.iconst 1, 1) := by decide +kernel
theorem dL_law_248 : decode cL_law 248 = .ok (.iadd, 1) := by decide +kernel
theorem dL_law_249 : decode cL_law 249 = .ok (.iaload, 1) := by decide +kernel
theorem dL_law_250 : decode cL_law 250 = .ok (.aload_n 0, 1) := by decide +kernel
theorem dL_law_251 : decode cL_law 251 = .ok (.iload_n 3, 1) := by decide +kernel
theorem dL_law_252 : decode cL_law 252 = .ok (.iconst 2, 1) := by decide +kernel
theorem dL_law_253 : decode cL_law 253 = .ok (.iadd, 1) := by decide +kernel
theorem dL_law_254 : decode cL_law 254 = .ok (.iaload, 1) := by decide +kernel
theorem dL_law_255 : decode cL_law 255 = .ok (.invokevirtual 39, 3) := by decide +kernel
theorem dL_law_258 : decode cL_law 258 = .ok (.aload_n 2, 1) := by decide +kernel
theorem dL_law_259 : decode cL_law 259 = .ok (.aload_n 0, 1) := by decide +kernel
theorem dL_law_260 : decode cL_law 260 = .ok (.iload_n 3, 1) := by decide +kernel
theorem dL_law_261 : decode cL_law 261 = .ok (.iconst 1, 1) := by decide +kernel
theorem dL_law_262 : decode cL_law 262 = .ok (.iadd, 1) := by decide +kernel
theorem dL_law_263 : decode cL_law 263 = .ok (.iaload, 1) := by decide +kernel
theorem dL_law_264 : decode cL_law 264 = .ok (.aload_n 0, 1) := by decide +kernel
theorem dL_law_265 : decode cL_law 265 = .ok (.iload_n 3, 1) := by decide +kernel
theorem dL_law_266 : decode cL_law 266 = .ok (.iconst 2, 1) := by decide +kernel
theorem dL_law_267 : decode cL_law 267 = .ok (.iadd, 1) := by decide +kernel
theorem dL_law_268 : decode cL_law 268 = .ok (.iaload, 1) := by decide +kernel
theorem dL_law_269 : decode cL_law 269 = .ok (.invokevirtual 42, 3) := by decide +kernel
theorem dL_law_272 : decode cL_law 272 = .ok (.if_icmp .eq 455, 3) := by decide +kernel
theorem dL_law_275 : decode cL_law 275 = .ok (.iconst 0, 1) := by decide +kernel
theorem dL_law_276 : decode cL_law 276 = .ok (.ireturn, 1) := by decide +kernel
theorem dL_law_277 : decode cL_law 277 = .ok (.aload_n 1, 1) := by decide +kernel
theorem dL_law_278 : decode cL_law 278 = .ok (.aload_n 0, 1) := by decide +kernel
theorem dL_law_279 : decode cL_law 279 = .ok (.iload_n 3, 1) := by decide +kernel
theorem dL_law_280 : decode cL_law 280 = .ok (.iconst 1, 1) := by decide +kernel
theorem dL_law_281 : decode cL_law 281 = .ok (.iadd, 1) := by decide +kernel
theorem dL_law_282 : decode cL_law 282 = .ok (.iaload, 1) := by decide +kernel
theorem dL_law_283 : decode cL_law 283 = .ok (.invokevirtual 43, 3) := by decide +kernel
theorem dL_law_286 : decode cL_law 286 = .ok (.aload_n 2, 1) := by decide +kernel
theorem dL_law_287 : decode cL_law 287 = .ok (.aload_n 0, 1) := by decide +kernel
theorem dL_law_288 : decode cL_law 288 = .ok (.iload_n 3, 1) := by decide +kernel
theorem dL_law_289 : decode cL_law 289 = .ok (.iconst 1, 1) := by decide +kernel
theorem dL_law_290 : decode cL_law 290 = .ok (.iadd, 1) := by decide +kernel
theorem dL_law_291 : decode cL_law 291 = .ok (.iaload, 1) := by decide +kernel
theorem dL_law_292 : decode cL_law 292 = .ok (.invokevirtual 47, 3) := by decide +kernel
theorem dL_law_295 : decode cL_law 295 = .ok (.if_icmp .eq 432, 3) := by decide +kernel
theorem dL_law_298 : decode cL_law 298 = .ok (.iconst 0, 1) := by decide +kernel
theorem dL_law_299 : decode cL_law 299 = .ok (.ireturn, 1) := by decide +kernel
theorem dL_law_300 : decode cL_law 300 = .ok (.aload_n 1, 1) := by decide +kernel
theorem dL_law_301 : decode cL_law 301 = .ok (.aload_n 0, 1) := by decide +kernel
theorem dL_law_302 : decode cL_law 302 = .ok (.iload_n 3, 1) := by decide +kernel
theorem dL_law_303 : decode cL_law 303 = .ok (.iconst 1, 1) := by decide +kernel
theorem dL_law_304 : decode cL_law 304 = .ok (.iadd, 1) := by decide +kernel
theorem dL_law_305 : decode cL_law 305 = .ok (.iaload, 1) := by decide +kernel
theorem dL_law_306 : decode cL_law 306 = .ok (.aload_n 0, 1) := by decide +kernel
theorem dL_law_307 : decode cL_law 307 = .ok (.iload_n 3, 1) := by decide +kernel
theorem dL_law_308 : decode cL_law 308 = .ok (.iconst 2, 1) := by decide +kernel
theorem dL_law_309 : decode cL_law 309 = .ok (.iadd, 1) := by decide +kernel
theorem dL_law_310 : decode cL_law 310 = .ok (.iaload, 1) := by decide +kernel
theorem dL_law_311 : decode cL_law 311 = .ok (.aload_n 0, 1) := by decide +kernel
theorem dL_law_312 : decode cL_law 312 = .ok (.iload_n 3, 1) := by decide +kernel
theorem dL_law_313 : decode cL_law 313 = .ok (.iconst 3, 1) := by decide +kernel
theorem dL_law_314 : decode cL_law 314 = .ok (.iadd, 1) := by decide +kernel
theorem dL_law_315 : decode cL_law 315 = .ok (.iaload, 1) := by decide +kernel
theorem dL_law_316 : decode cL_law 316 = .ok (.invokevirtual 48, 3) := by decide +kernel
theorem dL_law_319 : decode cL_law 319 = .ok (.aload_n 2, 1) := by decide +kernel
theorem dL_law_320 : decode cL_law 320 = .ok (.aload_n 0, 1) := by decide +kernel
theorem dL_law_321 : decode cL_law 321 = .ok (.iload_n 3, 1) := by decide +kernel
theorem dL_law_322 : decode cL_law 322 = .ok (.iconst 1, 1) := by decide +kernel
theorem dL_law_323 : decode cL_law 323 = .ok (.iadd, 1) := by decide +kernel
theorem dL_law_324 : decode cL_law 324 = .ok (.iaload, 1) := by decide +kernel
theorem dL_law_325 : decode cL_law 325 = .ok (.aload_n 0, 1) := by decide +kernel
theorem dL_law_326 : decode cL_law 326 = .ok (.iload_n 3, 1) := by decide +kernel
theorem dL_law_327 : decode cL_law 327 = .ok (.iconst 2, 1) := by decide +kernel
theorem dL_law_328 : decode cL_law 328 = .ok (.iadd, 1) := by decide +kernel
theorem dL_law_329 : decode cL_law 329 = .ok (.iaload, 1) := by decide +kernel
theorem dL_law_330 : decode cL_law 330 = .ok (.aload_n 0, 1) := by decide +kernel
theorem dL_law_331 : decode cL_law 331 = .ok (.iload_n 3, 1) := by decide +kernel
theorem dL_law_332 : decode cL_law 332 = .ok (.iconst 3, 1) := by decide +kernel
theorem dL_law_333 : decode cL_law 333 = .ok (.iadd, 1) := by decide +kernel
theorem dL_law_334 : decode cL_law 334 = .ok (.iaload, 1) := by decide +kernel
theorem dL_law_335 : decode cL_law 335 = .ok (.invokevirtual 52, 3) := by decide +kernel
theorem dL_law_338 : decode cL_law 338 = .ok (.if_icmp .eq 389, 3) := by decide +kernel
theorem dL_law_341 : decode cL_law 341 = .ok (.iconst 0, 1) := by decide +kernel
theorem dL_law_342 : decode cL_law 342 = .ok (.ireturn, 1) := by decide +kernel
theorem dL_law_343 : decode cL_law 343 = .ok (.aload_n 1, 1) := by decide +kernel
theorem dL_law_344 : decode cL_law 344 = .ok (.aload_n 0, 1) := by decide +kernel
theorem dL_law_345 : decode cL_law 345 = .ok (.iload_n 3, 1) := by decide +kernel
theorem dL_law_346 : decode cL_law 346 = .ok (.iconst 1, 1) := by decide +kernel
theorem dL_law_347 : decode cL_law 347 = .ok (.iadd, 1) := by decide +kernel
theorem dL_law_348 : decode cL_law 348 = .ok (.iaload, 1) := by decide +kernel
theorem dL_law_349 : decode cL_law 349 = .ok (.invokevirtual 53, 3) := by decide +kernel
theorem dL_law_352 : decode cL_law 352 = .ok (.aload_n 2, 1) := by decide +kernel
theorem dL_law_353 : decode cL_law 353 = .ok (.aload_n 0, 1) := by decide +kernel
theorem dL_law_354 : decode cL_law 354 = .ok (.iload_n 3, 1) := by decide +kernel
theorem dL_law_355 : decode cL_law 355 = .ok (.iconst 1, 1) := by decide +kernel
theorem dL_law_356 : decode cL_law 356 = .ok (.iadd, 1) := by decide +kernel
theorem dL_law_357 : decode cL_law 357 = .ok (.iaload, 1) := by decide +kernel
theorem dL_law_358 : decode cL_law 358 = .ok (.invokevirtual 56, 3) := by decide +kernel
theorem dL_law_361 : decode cL_law 361 = .ok (.if_icmp .eq 366, 3) := by decide +kernel
theorem dL_law_364 : decode cL_law 364 = .ok (.iconst 0, 1) := by decide +kernel
theorem dL_law_365 : decode cL_law 365 = .ok (.ireturn, 1) := by decide +kernel
theorem dL_law_366 : decode cL_law 366 = .ok (.aload_n 1, 1) := by decide +kernel
theorem dL_law_367 : decode cL_law 367 = .ok (.aload_n 0, 1) := by decide +kernel
theorem dL_law_368 : decode cL_law 368 = .ok (.iload_n 3, 1) := by decide +kernel
theorem dL_law_369 : decode cL_law 369 = .ok (.iconst 1, 1) := by decide +kernel
theorem dL_law_370 : decode cL_law 370 = .ok (.iadd, 1) := by decide +kernel
theorem dL_law_371 : decode cL_law 371 = .ok (.iaload, 1) := by decide +kernel
theorem dL_law_372 : decode cL_law 372 = .ok (.invokevirtual 57, 3) := by decide +kernel
theorem dL_law_375 : decode cL_law 375 = .ok (.aload_n 2, 1) := by decide +kernel
theorem dL_law_376 : decode cL_law 376 = .ok (.aload_n 0, 1) := by decide +kernel
theorem dL_law_377 : decode cL_law 377 = .ok (.iload_n 3, 1) := by decide +kernel
theorem dL_law_378 : decode cL_law 378 = .ok (.iconst 1, 1) := by decide +kernel
theorem dL_law_379 : decode cL_law 379 = .ok (.iadd, 1) := by decide +kernel
theorem dL_law_380 : decode cL_law 380 = .ok (.iaload, 1) := by decide +kernel
theorem dL_law_381 : decode cL_law 381 = .ok (.invokevirtual 60, 3) := by decide +kernel
theorem dL_law_384 : decode cL_law 384 = .ok (.if_icmp .eq 343, 3) := by decide +kernel
theorem dL_law_387 : decode cL_law 387 = .ok (.iconst 0, 1) := by decide +kernel
theorem dL_law_388 : decode cL_law 388 = .ok (.ireturn, 1) := by decide +kernel
theorem dL_law_389 : decode cL_law 389 = .ok (.aload_n 1, 1) := by decide +kernel
theorem dL_law_390 : decode cL_law 390 = .ok (.aload_n 0, 1) := by decide +kernel
theorem dL_law_391 : decode cL_law 391 = .ok (.iload_n 3, 1) := by decide +kernel
theorem dL_law_392 : decode cL_law 392 = .ok (.iconst 1, 1) := by decide +kernel
theorem dL_law_393 : decode cL_law 393 = .ok (.iadd, 1) := by decide +kernel
theorem dL_law_394 : decode cL_law 394 = .ok (.iaload, 1) := by decide +kernel
theorem dL_law_395 : decode cL_law 395 = .ok (.i2l, 1) := by decide +kernel
theorem dL_law_396 : decode cL_law 396 = .ok (.bipush 32, 2) := by decide +kernel
theorem dL_law_398 : decode cL_law 398 = .ok (.lshl, 1) := by decide +kernel
theorem dL_law_399 : decode cL_law 399 = .ok (.aload_n 0, 1) := by decide +kernel
theorem dL_law_400 : decode cL_law 400 = .ok (.iload_n 3, 1) := by decide +kernel
theorem dL_law_401 : decode cL_law 401 = .ok (.iconst 2, 1) := by decide +kernel
theorem dL_law_402 : decode cL_law 402 = .ok (.iadd, 1) := by decide +kernel
theorem dL_law_403 : decode cL_law 403 = .ok (.iaload, 1) := by decide +kernel
theorem dL_law_404 : decode cL_law 404 = .ok (.i2l, 1) := by decide +kernel
theorem dL_law_405 : decode cL_law 405 = .ok (.ldc2_w 61, 3) := by decide +kernel
theorem dL_law_408 : decode cL_law 408 = .ok (.land, 1) := by decide +kernel
theorem dL_law_409 : decode cL_law 409 = .ok (.lor, 1) := by decide +kernel
theorem dL_law_410 : decode cL_law 410 = .ok (.invokevirtual 63, 3) := by decide +kernel
theorem dL_law_413 : decode cL_law 413 = .ok (.aload_n 2, 1) := by decide +kernel
theorem dL_law_414 : decode cL_law 414 = .ok (.aload_n 0, 1) := by decide +kernel
theorem dL_law_415 : decode cL_law 415 = .ok (.iload_n 3, 1) := by decide +kernel
theorem dL_law_416 : decode cL_law 416 = .ok (.iconst 1, 1) := by decide +kernel
theorem dL_law_417 : decode cL_law 417 = .ok (.iadd, 1) := by decide +kernel
theorem dL_law_418 : decode cL_law 418 = .ok (.iaload, 1) := by decide +kernel
theorem dL_law_419 : decode cL_law 419 = .ok (.i2l, 1) := by decide +kernel
theorem dL_law_420 : decode cL_law 420 = .ok (.bipush 32, 2) := by decide +kernel
theorem dL_law_422 : decode cL_law 422 = .ok (.lshl, 1) := by decide +kernel
theorem dL_law_423 : decode cL_law 423 = .ok (.aload_n 0, 1) := by decide +kernel
theorem dL_law_424 : decode cL_law 424 = .ok (.iload_n 3, 1) := by decide +kernel
theorem dL_law_425 : decode cL_law 425 = .ok (.iconst 2, 1) := by decide +kernel
theorem dL_law_426 : decode cL_law 426 = .ok (.iadd, 1) := by decide +kernel
theorem dL_law_427 : decode cL_law 427 = .ok (.iaload, 1) := by decide +kernel
theorem dL_law_428 : decode cL_law 428 = .ok (.i2l, 1) := by decide +kernel
theorem dL_law_429 : decode cL_law 429 = .ok (.ldc2_w 61, 3) := by decide +kernel
theorem dL_law_432 : decode cL_law 432 = .ok (.land, 1) := by decide +kernel
theorem dL_law_433 : decode cL_law 433 = .ok (.lor, 1) := by decide +kernel
theorem dL_law_434 : decode cL_law 434 = .ok (.invokevirtual 67, 3) := by decide +kernel
theorem dL_law_437 : decode cL_law 437 = .ok (.if_icmp .eq 290, 3) := by decide +kernel
theorem dL_law_440 : decode cL_law 440 = .ok (.iconst 0, 1) := by decide +kernel
theorem dL_law_441 : decode cL_law 441 = .ok (.ireturn, 1) := by decide +kernel
theorem dL_law_442 : decode cL_law 442 = .ok (.aload_n 1, 1) := by decide +kernel
theorem dL_law_443 : decode cL_law 443 = .ok (.aload_n 0, 1) := by decide +kernel
theorem dL_law_444 : decode cL_law 444 = .ok (.iload_n 3, 1) := by decide +kernel
theorem dL_law_445 : decode cL_law 445 = .ok (.iconst 1, 1) := by decide +kernel
theorem dL_law_446 : decode cL_law 446 = .ok (.iadd, 1) := by decide +kernel
theorem dL_law_447 : decode cL_law 447 = .ok (.iaload, 1) := by decide +kernel
theorem dL_law_448 : decode cL_law 448 = .ok (.invokevirtual 68, 3) := by decide +kernel
theorem dL_law_451 : decode cL_law 451 = .ok (.aload_n 2, 1) := by decide +kernel
theorem dL_law_452 : decode cL_law 452 = .ok (.aload_n 0, 1) := by decide +kernel
theorem dL_law_453 : decode cL_law 453 = .ok (.iload_n 3, 1) := by decide +kernel
theorem dL_law_454 : decode cL_law 454 = .ok (.iconst 1, 1) := by decide +kernel
theorem dL_law_455 : decode cL_law 455 = .ok (.iadd, 1) := by decide +kernel
theorem dL_law_456 : decode cL_law 456 = .ok (.iaload, 1) := by decide +kernel
theorem dL_law_457 : decode cL_law 457 = .ok (.invokevirtual 72, 3) := by decide +kernel
theorem dL_law_460 : decode cL_law 460 = .ok (.lcmp, 1) := by decide +kernel
theorem dL_law_461 : decode cL_law 461 = .ok (.ifCond .eq 266, 3) := by decide +kernel
theorem dL_law_464 : decode cL_law 464 = .ok (.iconst 0, 1) := by decide +kernel
theorem dL_law_465 : decode cL_law 465 = .ok (.ireturn, 1) := by decide +kernel
theorem dL_law_466 : decode cL_law 466 = .ok (.aload_n 1, 1) := by decide +kernel
theorem dL_law_467 : decode cL_law 467 = .ok (.aload_n 0, 1) := by decide +kernel
theorem dL_law_468 : decode cL_law 468 = .ok (.iload_n 3, 1) := by decide +kernel
theorem dL_law_469 : decode cL_law 469 = .ok (.iconst 1, 1) := by decide +kernel
theorem dL_law_470 : decode cL_law 470 = .ok (.iadd, 1) := by decide +kernel
theorem dL_law_471 : decode cL_law 471 = .ok (.iaload, 1) := by decide +kernel
theorem dL_law_472 : decode cL_law 472 = .ok (.aload_n 0, 1) := by decide +kernel
theorem dL_law_473 : decode cL_law 473 = .ok (.iload_n 3, 1) := by decide +kernel
theorem dL_law_474 : decode cL_law 474 = .ok (.iconst 2, 1) := by decide +kernel
theorem dL_law_475 : decode cL_law 475 = .ok (.iadd, 1) := by decide +kernel
theorem dL_law_476 : decode cL_law 476 = .ok (.iaload, 1) := by decide +kernel
theorem dL_law_477 : decode cL_law 477 = .ok (.invokevirtual 73, 3) := by decide +kernel
theorem dL_law_480 : decode cL_law 480 = .ok (.aload_n 2, 1) := by decide +kernel
theorem dL_law_481 : decode cL_law 481 = .ok (.aload_n 0, 1) := by decide +kernel
theorem dL_law_482 : decode cL_law 482 = .ok (.iload_n 3, 1) := by decide +kernel
theorem dL_law_483 : decode cL_law 483 = .ok (.iconst 1, 1) := by decide +kernel
theorem dL_law_484 : decode cL_law 484 = .ok (.iadd, 1) := by decide +kernel
theorem dL_law_485 : decode cL_law 485 = .ok (.iaload, 1) := by decide +kernel
theorem dL_law_486 : decode cL_law 486 = .ok (.aload_n 0, 1) := by decide +kernel
theorem dL_law_487 : decode cL_law 487 = .ok (.iload_n 3, 1) := by decide +kernel
theorem dL_law_488 : decode cL_law 488 = .ok (.iconst 2, 1) := by decide +kernel
theorem dL_law_489 : decode cL_law 489 = .ok (.iadd, 1) := by decide +kernel
theorem dL_law_490 : decode cL_law 490 = .ok (.iaload, 1) := by decide +kernel
theorem dL_law_491 : decode cL_law 491 = .ok (.invokevirtual 76, 3) := by decide +kernel
theorem dL_law_494 : decode cL_law 494 = .ok (.if_icmp .eq 233, 3) := by decide +kernel
theorem dL_law_497 : decode cL_law 497 = .ok (.iconst 0, 1) := by decide +kernel
theorem dL_law_498 : decode cL_law 498 = .ok (.ireturn, 1) := by decide +kernel
theorem dL_law_499 : decode cL_law 499 = .ok (.aload_n 1, 1) := by decide +kernel
theorem dL_law_500 : decode cL_law 500 = .ok (.aload_n 0, 1) := by decide +kernel
theorem dL_law_501 : decode cL_law 501 = .ok (.iload_n 3, 1) := by decide +kernel
theorem dL_law_502 : decode cL_law 502 = .ok (.iconst 1, 1) := by decide +kernel
theorem dL_law_503 : decode cL_law 503 = .ok (.iadd, 1) := by decide +kernel
theorem dL_law_504 : decode cL_law 504 = .ok (.iaload, 1) := by decide +kernel
theorem dL_law_505 : decode cL_law 505 = .ok (.invokevirtual 77, 3) := by decide +kernel
theorem dL_law_508 : decode cL_law 508 = .ok (.aload_n 2, 1) := by decide +kernel
theorem dL_law_509 : decode cL_law 509 = .ok (.aload_n 0, 1) := by decide +kernel
theorem dL_law_510 : decode cL_law 510 = .ok (.iload_n 3, 1) := by decide +kernel
theorem dL_law_511 : decode cL_law 511 = .ok (.iconst 1, 1) := by decide +kernel
theorem dL_law_512 : decode cL_law 512 = .ok (.iadd, 1) := by decide +kernel
theorem dL_law_513 : decode cL_law 513 = .ok (.iaload, 1) := by decide +kernel
theorem dL_law_514 : decode cL_law 514 = .ok (.invokevirtual 81, 3) := by decide +kernel
theorem dL_law_517 : decode cL_law 517 = .ok (.if_icmp .eq 210, 3) := by decide +kernel
theorem dL_law_520 : decode cL_law 520 = .ok (.iconst 0, 1) := by decide +kernel
theorem dL_law_521 : decode cL_law 521 = .ok (.ireturn, 1) := by decide +kernel
theorem dL_law_522 : decode cL_law 522 = .ok (.aload_n 1, 1) := by decide +kernel
theorem dL_law_523 : decode cL_law 523 = .ok (.aload_n 0, 1) := by decide +kernel
theorem dL_law_524 : decode cL_law 524 = .ok (.iload_n 3, 1) := by decide +kernel
theorem dL_law_525 : decode cL_law 525 = .ok (.iconst 1, 1) := by decide +kernel
theorem dL_law_526 : decode cL_law 526 = .ok (.iadd, 1) := by decide +kernel
theorem dL_law_527 : decode cL_law 527 = .ok (.iaload, 1) := by decide +kernel
theorem dL_law_528 : decode cL_law 528 = .ok (.aload_n 0, 1) := by decide +kernel
theorem dL_law_529 : decode cL_law 529 = .ok (.iload_n 3, 1) := by decide +kernel
theorem dL_law_530 : decode cL_law 530 = .ok (.iconst 2, 1) := by decide +kernel
theorem dL_law_531 : decode cL_law 531 = .ok (.iadd, 1) := by decide +kernel
theorem dL_law_532 : decode cL_law 532 = .ok (.iaload, 1) := by decide +kernel
theorem dL_law_533 : decode cL_law 533 = .ok (.aload_n 0, 1) := by decide +kernel
theorem dL_law_534 : decode cL_law 534 = .ok (.iload_n 3, 1) := by decide +kernel
theorem dL_law_535 : decode cL_law 535 = .ok (.iconst 3, 1) := by decide +kernel
theorem dL_law_536 : decode cL_law 536 = .ok (.iadd, 1) := by decide +kernel
theorem dL_law_537 : decode cL_law 537 = .ok (.iaload, 1) := by decide +kernel
theorem dL_law_538 : decode cL_law 538 = .ok (.aload_n 0, 1) := by decide +kernel
theorem dL_law_539 : decode cL_law 539 = .ok (.iload_n 3, 1) := by decide +kernel
theorem dL_law_540 : decode cL_law 540 = .ok (.iconst 4, 1) := by decide +kernel
theorem dL_law_541 : decode cL_law 541 = .ok (.iadd, 1) := by decide +kernel
theorem dL_law_542 : decode cL_law 542 = .ok (.iaload, 1) := by decide +kernel
theorem dL_law_543 : decode cL_law 543 = .ok (.ifCond .eq 7, 3) := by decide +kernel
theorem dL_law_546 : decode cL_law 546 = .ok (.iconst 1, 1) := by decide +kernel
theorem dL_law_547 : decode cL_law 547 = .ok (.goto 4, 3) := by decide +kernel
theorem dL_law_550 : decode cL_law 550 = .ok (.iconst 0, 1) := by decide +kernel
theorem dL_law_551 : decode cL_law 551 = .ok (.invokevirtual 82, 3) := by decide +kernel
theorem dL_law_554 : decode cL_law 554 = .ok (.aload_n 2, 1) := by decide +kernel
theorem dL_law_555 : decode cL_law 555 = .ok (.aload_n 0, 1) := by decide +kernel
theorem dL_law_556 : decode cL_law 556 = .ok (.iload_n 3, 1) := by decide +kernel
theorem dL_law_557 : decode cL_law 557 = .ok (.iconst 1, 1) := by decide +kernel
theorem dL_law_558 : decode cL_law 558 = .ok (.iadd, 1) := by decide +kernel
theorem dL_law_559 : decode cL_law 559 = .ok (.iaload, 1) := by decide +kernel
theorem dL_law_560 : decode cL_law 560 = .ok (.aload_n 0, 1) := by decide +kernel
theorem dL_law_561 : decode cL_law 561 = .ok (.iload_n 3, 1) := by decide +kernel
theorem dL_law_562 : decode cL_law 562 = .ok (.iconst 2, 1) := by decide +kernel
theorem dL_law_563 : decode cL_law 563 = .ok (.iadd, 1) := by decide +kernel
theorem dL_law_564 : decode cL_law 564 = .ok (.iaload, 1) := by decide +kernel
theorem dL_law_565 : decode cL_law 565 = .ok (.aload_n 0, 1) := by decide +kernel
theorem dL_law_566 : decode cL_law 566 = .ok (.iload_n 3, 1) := by decide +kernel
theorem dL_law_567 : decode cL_law 567 = .ok (.iconst 3, 1) := by decide +kernel
theorem dL_law_568 : decode cL_law 568 = .ok (.iadd, 1) := by decide +kernel
theorem dL_law_569 : decode cL_law 569 = .ok (.iaload, 1) := by decide +kernel
theorem dL_law_570 : decode cL_law 570 = .ok (.aload_n 0, 1) := by decide +kernel
theorem dL_law_571 : decode cL_law 571 = .ok (.iload_n 3, 1) := by decide +kernel
theorem dL_law_572 : decode cL_law 572 = .ok (.iconst 4, 1) := by decide +kernel
theorem dL_law_573 : decode cL_law 573 = .ok (.iadd, 1) := by decide +kernel
theorem dL_law_574 : decode cL_law 574 = .ok (.iaload, 1) := by decide +kernel
theorem dL_law_575 : decode cL_law 575 = .ok (.ifCond .eq 7, 3) := by decide +kernel
theorem dL_law_578 : decode cL_law 578 = .ok (.iconst 1, 1) := by decide +kernel
theorem dL_law_579 : decode cL_law 579 = .ok (.goto 4, 3) := by decide +kernel
theorem dL_law_582 : decode cL_law 582 = .ok (.iconst 0, 1) := by decide +kernel
theorem dL_law_583 : decode cL_law 583 = .ok (.invokevirtual 86, 3) := by decide +kernel
theorem dL_law_586 : decode cL_law 586 = .ok (.if_icmp .eq 141, 3) := by decide +kernel
theorem dL_law_589 : decode cL_law 589 = .ok (.iconst 0, 1) := by decide +kernel
theorem dL_law_590 : decode cL_law 590 = .ok (.ireturn, 1) := by decide +kernel
theorem dL_law_591 : decode cL_law 591 = .ok (.aload_n 1, 1) := by decide +kernel
theorem dL_law_592 : decode cL_law 592 = .ok (.aload_n 0, 1) := by decide +kernel
theorem dL_law_593 : decode cL_law 593 = .ok (.iload_n 3, 1) := by decide +kernel
theorem dL_law_594 : decode cL_law 594 = .ok (.iconst 1, 1) := by decide +kernel
theorem dL_law_595 : decode cL_law 595 = .ok (.iadd, 1) := by decide +kernel
theorem dL_law_596 : decode cL_law 596 = .ok (.iaload, 1) := by decide +kernel
theorem dL_law_597 : decode cL_law 597 = .ok (.invokevirtual 87, 3) := by decide +kernel
theorem dL_law_600 : decode cL_law 600 = .ok (.aload_n 2, 1) := by decide +kernel
theorem dL_law_601 : decode cL_law 601 = .ok (.aload_n 0, 1) := by decide +kernel
theorem dL_law_602 : decode cL_law 602 = .ok (.iload_n 3, 1) := by decide +kernel
theorem dL_law_603 : decode cL_law 603 = .ok (.iconst 1, 1) := by decide +kernel
theorem dL_law_604 : decode cL_law 604 = .ok (.iadd, 1) := by decide +kernel
theorem dL_law_605 : decode cL_law 605 = .ok (.iaload, 1) := by decide +kernel
theorem dL_law_606 : decode cL_law 606 = .ok (.invokevirtual 90, 3) := by decide +kernel
theorem dL_law_609 : decode cL_law 609 = .ok (.if_icmp .eq 118, 3) := by decide +kernel
theorem dL_law_612 : decode cL_law 612 = .ok (.iconst 0, 1) := by decide +kernel
theorem dL_law_613 : decode cL_law 613 = .ok (.ireturn, 1) := by decide +kernel
theorem dL_law_614 : decode cL_law 614 = .ok (.aload_n 1, 1) := by decide +kernel
theorem dL_law_615 : decode cL_law 615 = .ok (.aload_n 0, 1) := by decide +kernel
theorem dL_law_616 : decode cL_law 616 = .ok (.iload_n 3, 1) := by decide +kernel
theorem dL_law_617 : decode cL_law 617 = .ok (.iconst 1, 1) := by decide +kernel
theorem dL_law_618 : decode cL_law 618 = .ok (.iadd, 1) := by decide +kernel
theorem dL_law_619 : decode cL_law 619 = .ok (.iaload, 1) := by decide +kernel
theorem dL_law_620 : decode cL_law 620 = .ok (.invokevirtual 91, 3) := by decide +kernel
theorem dL_law_623 : decode cL_law 623 = .ok (.aload_n 2, 1) := by decide +kernel
theorem dL_law_624 : decode cL_law 624 = .ok (.aload_n 0, 1) := by decide +kernel
theorem dL_law_625 : decode cL_law 625 = .ok (.iload_n 3, 1) := by decide +kernel
theorem dL_law_626 : decode cL_law 626 = .ok (.iconst 1, 1) := by decide +kernel
theorem dL_law_627 : decode cL_law 627 = .ok (.iadd, 1) := by decide +kernel
theorem dL_law_628 : decode cL_law 628 = .ok (.iaload, 1) := by decide +kernel
theorem dL_law_629 : decode cL_law 629 = .ok (.invokevirtual 94, 3) := by decide +kernel
theorem dL_law_632 : decode cL_law 632 = .ok (.if_icmp .eq 95, 3) := by decide +kernel
theorem dL_law_635 : decode cL_law 635 = .ok (.iconst 0, 1) := by decide +kernel
theorem dL_law_636 : decode cL_law 636 = .ok (.ireturn, 1) := by decide +kernel
theorem dL_law_637 : decode cL_law 637 = .ok (.aload_n 1, 1) := by decide +kernel
theorem dL_law_638 : decode cL_law 638 = .ok (.aload_n 0, 1) := by decide +kernel
theorem dL_law_639 : decode cL_law 639 = .ok (.iload_n 3, 1) := by decide +kernel
theorem dL_law_640 : decode cL_law 640 = .ok (.iconst 1, 1) := by decide +kernel
theorem dL_law_641 : decode cL_law 641 = .ok (.iadd, 1) := by decide +kernel
theorem dL_law_642 : decode cL_law 642 = .ok (.iaload, 1) := by decide +kernel
theorem dL_law_643 : decode cL_law 643 = .ok (.invokevirtual 95, 3) := by decide +kernel
theorem dL_law_646 : decode cL_law 646 = .ok (.aload_n 2, 1) := by decide +kernel
theorem dL_law_647 : decode cL_law 647 = .ok (.aload_n 0, 1) := by decide +kernel
theorem dL_law_648 : decode cL_law 648 = .ok (.iload_n 3, 1) := by decide +kernel
theorem dL_law_649 : decode cL_law 649 = .ok (.iconst 1, 1) := by decide +kernel
theorem dL_law_650 : decode cL_law 650 = .ok (.iadd, 1) := by decide +kernel
theorem dL_law_651 : decode cL_law 651 = .ok (.iaload, 1) := by decide +kernel
theorem dL_law_652 : decode cL_law 652 = .ok (.invokevirtual 98, 3) := by decide +kernel
theorem dL_law_655 : decode cL_law 655 = .ok (.if_icmp .eq 72, 3) := by decide +kernel
theorem dL_law_658 : decode cL_law 658 = .ok (.iconst 0, 1) := by decide +kernel
theorem dL_law_659 : decode cL_law 659 = .ok (.ireturn, 1) := by decide +kernel
theorem dL_law_660 : decode cL_law 660 = .ok (.aload_n 1, 1) := by decide +kernel
theorem dL_law_661 : decode cL_law 661 = .ok (.aload_n 0, 1) := by decide +kernel
theorem dL_law_662 : decode cL_law 662 = .ok (.iload_n 3, 1) := by decide +kernel
theorem dL_law_663 : decode cL_law 663 = .ok (.iconst 1, 1) := by decide +kernel
theorem dL_law_664 : decode cL_law 664 = .ok (.iadd, 1) := by decide +kernel
theorem dL_law_665 : decode cL_law 665 = .ok (.iaload, 1) := by decide +kernel
theorem dL_law_666 : decode cL_law 666 = .ok (.aload_n 0, 1) := by decide +kernel
theorem dL_law_667 : decode cL_law 667 = .ok (.iload_n 3, 1) := by decide +kernel
theorem dL_law_668 : decode cL_law 668 = .ok (.iconst 2, 1) := by decide +kernel
theorem dL_law_669 : decode cL_law 669 = .ok (.iadd, 1) := by decide +kernel
theorem dL_law_670 : decode cL_law 670 = .ok (.iaload, 1) := by decide +kernel
theorem dL_law_671 : decode cL_law 671 = .ok (.invokevirtual 99, 3) := by decide +kernel
theorem dL_law_674 : decode cL_law 674 = .ok (.aload_n 2, 1) := by decide +kernel
theorem dL_law_675 : decode cL_law 675 = .ok (.aload_n 0, 1) := by decide +kernel
theorem dL_law_676 : decode cL_law 676 = .ok (.iload_n 3, 1) := by decide +kernel
theorem dL_law_677 : decode cL_law 677 = .ok (.iconst 1, 1) := by decide +kernel
theorem dL_law_678 : decode cL_law 678 = .ok (.iadd, 1) := by decide +kernel
theorem dL_law_679 : decode cL_law 679 = .ok (.iaload, 1) := by decide +kernel
theorem dL_law_680 : decode cL_law 680 = .ok (.aload_n 0, 1) := by decide +kernel
theorem dL_law_681 : decode cL_law 681 = .ok (.iload_n 3, 1) := by decide +kernel
theorem dL_law_682 : decode cL_law 682 = .ok (.iconst 2, 1) := by decide +kernel
theorem dL_law_683 : decode cL_law 683 = .ok (.iadd, 1) := by decide +kernel
theorem dL_law_684 : decode cL_law 684 = .ok (.iaload, 1) := by decide +kernel
theorem dL_law_685 : decode cL_law 685 = .ok (.invokevirtual 103, 3) := by decide +kernel
theorem dL_law_688 : decode cL_law 688 = .ok (.lcmp, 1) := by decide +kernel
theorem dL_law_689 : decode cL_law 689 = .ok (.ifCond .eq 38, 3) := by decide +kernel
theorem dL_law_692 : decode cL_law 692 = .ok (.iconst 0, 1) := by decide +kernel
theorem dL_law_693 : decode cL_law 693 = .ok (.ireturn, 1) := by decide +kernel
theorem dL_law_694 : decode cL_law 694 = .ok (.aload_n 1, 1) := by decide +kernel
theorem dL_law_695 : decode cL_law 695 = .ok (.aload_n 0, 1) := by decide +kernel
theorem dL_law_696 : decode cL_law 696 = .ok (.iload_n 3, 1) := by decide +kernel
theorem dL_law_697 : decode cL_law 697 = .ok (.iconst 1, 1) := by decide +kernel
theorem dL_law_698 : decode cL_law 698 = .ok (.iadd, 1) := by decide +kernel
theorem dL_law_699 : decode cL_law 699 = .ok (.iaload, 1) := by decide +kernel
theorem dL_law_700 : decode cL_law 700 = .ok (.aload_n 0, 1) := by decide +kernel
theorem dL_law_701 : decode cL_law 701 = .ok (.iload_n 3, 1) := by decide +kernel
theorem dL_law_702 : decode cL_law 702 = .ok (.iconst 2, 1) := by decide +kernel
theorem dL_law_703 : decode cL_law 703 = .ok (.iadd, 1) := by decide +kernel
theorem dL_law_704 : decode cL_law 704 = .ok (.iaload, 1) := by decide +kernel
theorem dL_law_705 : decode cL_law 705 = .ok (.invokevirtual 104, 3) := by decide +kernel
theorem dL_law_708 : decode cL_law 708 = .ok (.aload_n 2, 1) := by decide +kernel
theorem dL_law_709 : decode cL_law 709 = .ok (.aload_n 0, 1) := by decide +kernel
theorem dL_law_710 : decode cL_law 710 = .ok (.iload_n 3, 1) := by decide +kernel
theorem dL_law_711 : decode cL_law 711 = .ok (.iconst 1, 1) := by decide +kernel
theorem dL_law_712 : decode cL_law 712 = .ok (.iadd, 1) := by decide +kernel
theorem dL_law_713 : decode cL_law 713 = .ok (.iaload, 1) := by decide +kernel
theorem dL_law_714 : decode cL_law 714 = .ok (.aload_n 0, 1) := by decide +kernel
theorem dL_law_715 : decode cL_law 715 = .ok (.iload_n 3, 1) := by decide +kernel
theorem dL_law_716 : decode cL_law 716 = .ok (.iconst 2, 1) := by decide +kernel
theorem dL_law_717 : decode cL_law 717 = .ok (.iadd, 1) := by decide +kernel
theorem dL_law_718 : decode cL_law 718 = .ok (.iaload, 1) := by decide +kernel
theorem dL_law_719 : decode cL_law 719 = .ok (.invokevirtual 107, 3) := by decide +kernel
theorem dL_law_722 : decode cL_law 722 = .ok (.if_icmp .eq 5, 3) := by decide +kernel
theorem dL_law_725 : decode cL_law 725 = .ok (.iconst 0, 1) := by decide +kernel
theorem dL_law_726 : decode cL_law 726 = .ok (.ireturn, 1) := by decide +kernel
theorem dL_law_727 : decode cL_law 727 = .ok (.iinc 3 5, 3) := by decide +kernel
theorem dL_law_730 : decode cL_law 730 = .ok (.goto (-702), 3) := by decide +kernel
theorem dL_law_733 : decode cL_law 733 = .ok (.iconst 1, 1) := by decide +kernel
theorem dL_law_734 : decode cL_law 734 = .ok (.ireturn, 1) := by decide +kernel
def RM : String := "TaperedQuireModel"
def TM : u_T := fun k => match k with
  | 0 => ("TaperedQuireModel", "n", "I", true)
  | 1 => ("TaperedQuireModel", "limb", "[I", true)
  | 2 => ("TaperedQuireModel", "square", "Z", false)
  | _ => ("TaperedQuireModel", "sum", "[I", true)
def tyM : Nat → FieldType := fun k => match k with
  | 0 => .int
  | 1 => (.array .int)
  | 2 => .boolean
  | _ => (.array .int)
abbrev wsM0 : List Cond := u_ws RM TM 4
theorem nmM : ∀ a, a < 4 → ∀ b, b < 4 → a ≠ b → (TM a).2.1 ≠ (TM b).2.1 := by decide +kernel
theorem tyM_ok : ∀ k, k < 4 → parseFieldDescriptor (TM k).2.2.1 = some (tyM k) := by decide +kernel
def yX2_fromLong : MethodName := ⟨RX2, "fromLong", "(J)I"⟩
abbrev cX2_fromLong : ByteArray := prog_1_method_11_code
theorem dX2_fromLong_0 : decode cX2_fromLong 0 = .ok (.lload_n 1, 1) := by decide +kernel
theorem dX2_fromLong_1 : decode cX2_fromLong 1 = .ok (.ldc2_w 106, 3) := by decide +kernel
theorem dX2_fromLong_4 : decode cX2_fromLong 4 = .ok (.lcmp, 1) := by decide +kernel
theorem dX2_fromLong_5 : decode cX2_fromLong 5 = .ok (.ifCond .ne 11, 3) := by decide +kernel
theorem dX2_fromLong_8 : decode cX2_fromLong 8 = .ok (.aload_n 0, 1) := by decide +kernel
theorem dX2_fromLong_9 : decode cX2_fromLong 9 = .ok (.getfield 13, 3) := by decide +kernel
theorem dX2_fromLong_12 : decode cX2_fromLong 12 = .ok (.invokestatic 63, 3) := by decide +kernel
theorem dX2_fromLong_15 : decode cX2_fromLong 15 = .ok (.ireturn, 1) := by decide +kernel
theorem dX2_fromLong_16 : decode cX2_fromLong 16 = .ok (.aload_n 0, 1) := by decide +kernel
theorem dX2_fromLong_17 : decode cX2_fromLong 17 = .ok (.getfield 13, 3) := by decide +kernel
theorem dX2_fromLong_20 : decode cX2_fromLong 20 = .ok (.lload_n 1, 1) := by decide +kernel
theorem dX2_fromLong_21 : decode cX2_fromLong 21 = .ok (.lconst 0, 1) := by decide +kernel
theorem dX2_fromLong_22 : decode cX2_fromLong 22 = .ok (.lcmp, 1) := by decide +kernel
theorem dX2_fromLong_23 : decode cX2_fromLong 23 = .ok (.ifCond .ge 7, 3) := by decide +kernel
theorem dX2_fromLong_26 : decode cX2_fromLong 26 = .ok (.iconst 1, 1) := by decide +kernel
theorem dX2_fromLong_27 : decode cX2_fromLong 27 = .ok (.goto 4, 3) := by decide +kernel
theorem dX2_fromLong_30 : decode cX2_fromLong 30 = .ok (.iconst 0, 1) := by decide +kernel
theorem dX2_fromLong_31 : decode cX2_fromLong 31 = .ok (.lload_n 1, 1) := by decide +kernel
theorem dX2_fromLong_32 : decode cX2_fromLong 32 = .ok (.invokestatic 108, 3) := by decide +kernel
theorem dX2_fromLong_35 : decode cX2_fromLong 35 = .ok (.iconst 0, 1) := by decide +kernel
theorem dX2_fromLong_36 : decode cX2_fromLong 36 = .ok (.iconst 0, 1) := by decide +kernel
theorem dX2_fromLong_37 : decode cX2_fromLong 37 = .ok (.invokestatic 78, 3) := by decide +kernel
theorem dX2_fromLong_40 : decode cX2_fromLong 40 = .ok (.ireturn, 1) := by decide +kernel
def yX2_toLong : MethodName := ⟨RX2, "toLong", "(I)J"⟩
abbrev cX2_toLong : ByteArray := prog_1_method_12_code
theorem dX2_toLong_0 : decode cX2_toLong 0 = .ok (.aload_n 0, 1) := by decide +kernel
theorem dX2_toLong_1 : decode cX2_toLong 1 = .ok (.getfield 36, 3) := by decide +kernel
theorem dX2_toLong_4 : decode cX2_toLong 4 = .ok (.iload_n 1, 1) := by decide +kernel
theorem dX2_toLong_5 : decode cX2_toLong 5 = .ok (.aload_n 0, 1) := by decide +kernel
theorem dX2_toLong_6 : decode cX2_toLong 6 = .ok (.getfield 13, 3) := by decide +kernel
theorem dX2_toLong_9 : decode cX2_toLong 9 = .ok (.invokevirtual 51, 3) := by decide +kernel
theorem dX2_toLong_12 : decode cX2_toLong 12 = .ok (.aload_n 0, 1) := by decide +kernel
theorem dX2_toLong_13 : decode cX2_toLong 13 = .ok (.getfield 36, 3) := by decide +kernel
theorem dX2_toLong_16 : decode cX2_toLong 16 = .ok (.getfield 72, 3) := by decide +kernel
theorem dX2_toLong_19 : decode cX2_toLong 19 = .ok (.aload_n 0, 1) := by decide +kernel
theorem dX2_toLong_20 : decode cX2_toLong 20 = .ok (.getfield 36, 3) := by decide +kernel
theorem dX2_toLong_23 : decode cX2_toLong 23 = .ok (.getfield 59, 3) := by decide +kernel
theorem dX2_toLong_26 : decode cX2_toLong 26 = .ok (.invokestatic 66, 3) := by decide +kernel
theorem dX2_toLong_29 : decode cX2_toLong 29 = .ok (.if_icmp .lt 7, 3) := by decide +kernel
theorem dX2_toLong_32 : decode cX2_toLong 32 = .ok (.iconst 1, 1) := by decide +kernel
theorem dX2_toLong_33 : decode cX2_toLong 33 = .ok (.goto 4, 3) := by decide +kernel
theorem dX2_toLong_36 : decode cX2_toLong 36 = .ok (.iconst 0, 1) := by decide +kernel
theorem dX2_toLong_37 : decode cX2_toLong 37 = .ok (.istore_n 2, 1) := by decide +kernel
theorem dX2_toLong_38 : decode cX2_toLong 38 = .ok (.aload_n 0, 1) := by decide +kernel
theorem dX2_toLong_39 : decode cX2_toLong 39 = .ok (.getfield 36, 3) := by decide +kernel
theorem dX2_toLong_42 : decode cX2_toLong 42 = .ok (.getfield 55, 3) := by decide +kernel
theorem dX2_toLong_45 : decode cX2_toLong 45 = .ok (.ifCond .ne 7, 3) := by decide +kernel
theorem dX2_toLong_48 : decode cX2_toLong 48 = .ok (.iload_n 2, 1) := by decide +kernel
theorem dX2_toLong_49 : decode cX2_toLong 49 = .ok (.ifCond .eq 7, 3) := by decide +kernel
theorem dX2_toLong_52 : decode cX2_toLong 52 = .ok (.ldc2_w 106, 3) := by decide +kernel
theorem dX2_toLong_55 : decode cX2_toLong 55 = .ok (.lreturn, 1) := by decide +kernel
theorem dX2_toLong_56 : decode cX2_toLong 56 = .ok (.aload_n 0, 1) := by decide +kernel
theorem dX2_toLong_57 : decode cX2_toLong 57 = .ok (.getfield 36, 3) := by decide +kernel
theorem dX2_toLong_60 : decode cX2_toLong 60 = .ok (.invokestatic 102, 3) := by decide +kernel
theorem dX2_toLong_63 : decode cX2_toLong 63 = .ok (.lstore_n 3, 1) := by decide +kernel
theorem dX2_toLong_64 : decode cX2_toLong 64 = .ok (.aload_n 0, 1) := by decide +kernel
theorem dX2_toLong_65 : decode cX2_toLong 65 = .ok (.getfield 36, 3) := by decide +kernel
theorem dX2_toLong_68 : decode cX2_toLong 68 = .ok (.getfield 75, 3) := by decide +kernel
theorem dX2_toLong_71 : decode cX2_toLong 71 = .ok (.ifCond .eq 8, 3) := by decide +kernel
theorem dX2_toLong_74 : decode cX2_toLong 74 = .ok (.lload_n 3, 1) := by decide +kernel
theorem dX2_toLong_75 : decode cX2_toLong 75 = .ok (.lneg, 1) := by decide +kernel
theorem dX2_toLong_76 : decode cX2_toLong 76 = .ok (.goto 4, 3) := by decide +kernel
theorem dX2_toLong_79 : decode cX2_toLong 79 = .ok (.lload_n 3, 1) := by decide +kernel
theorem dX2_toLong_80 : decode cX2_toLong 80 = .ok (.lreturn, 1) := by decide +kernel
def yX2_convert : MethodName := ⟨RX2, "convert", "(II)I"⟩
abbrev cX2_convert : ByteArray := prog_1_method_13_code
theorem dX2_convert_0 : decode cX2_convert 0 = .ok (.iload_n 2, 1) := by decide +kernel
theorem dX2_convert_1 : decode cX2_convert 1 = .ok (.invokestatic 7, 3) := by decide +kernel
theorem dX2_convert_4 : decode cX2_convert 4 = .ok (.istore_n 3, 1) := by decide +kernel
theorem dX2_convert_5 : decode cX2_convert 5 = .ok (.aload_n 0, 1) := by decide +kernel
theorem dX2_convert_6 : decode cX2_convert 6 = .ok (.getfield 36, 3) := by decide +kernel
theorem dX2_convert_9 : decode cX2_convert 9 = .ok (.iload_n 1, 1) := by decide +kernel
theorem dX2_convert_10 : decode cX2_convert 10 = .ok (.aload_n 0, 1) := by decide +kernel
theorem dX2_convert_11 : decode cX2_convert 11 = .ok (.getfield 13, 3) := by decide +kernel
theorem dX2_convert_14 : decode cX2_convert 14 = .ok (.invokevirtual 51, 3) := by decide +kernel
theorem dX2_convert_17 : decode cX2_convert 17 = .ok (.aload_n 0, 1) := by decide +kernel
theorem dX2_convert_18 : decode cX2_convert 18 = .ok (.getfield 36, 3) := by decide +kernel
theorem dX2_convert_21 : decode cX2_convert 21 = .ok (.getfield 55, 3) := by decide +kernel
theorem dX2_convert_24 : decode cX2_convert 24 = .ok (.ifCond .eq 8, 3) := by decide +kernel
theorem dX2_convert_27 : decode cX2_convert 27 = .ok (.iload_n 3, 1) := by decide +kernel
theorem dX2_convert_28 : decode cX2_convert 28 = .ok (.invokestatic 63, 3) := by decide +kernel
theorem dX2_convert_31 : decode cX2_convert 31 = .ok (.ireturn, 1) := by decide +kernel
theorem dX2_convert_32 : decode cX2_convert 32 = .ok (.iload_n 3, 1) := by decide +kernel
theorem dX2_convert_33 : decode cX2_convert 33 = .ok (.aload_n 0, 1) := by decide +kernel
theorem dX2_convert_34 : decode cX2_convert 34 = .ok (.getfield 36, 3) := by decide +kernel
theorem dX2_convert_37 : decode cX2_convert 37 = .ok (.getfield 75, 3) := by decide +kernel
theorem dX2_convert_40 : decode cX2_convert 40 = .ok (.aload_n 0, 1) := by decide +kernel
theorem dX2_convert_41 : decode cX2_convert 41 = .ok (.getfield 36, 3) := by decide +kernel
theorem dX2_convert_44 : decode cX2_convert 44 = .ok (.getfield 59, 3) := by decide +kernel
theorem dX2_convert_47 : decode cX2_convert 47 = .ok (.aload_n 0, 1) := by decide +kernel
theorem dX2_convert_48 : decode cX2_convert 48 = .ok (.getfield 36, 3) := by decide +kernel
theorem dX2_convert_51 : decode cX2_convert 51 = .ok (.getfield 72, 3) := by decide +kernel
theorem dX2_convert_54 : decode cX2_convert 54 = .ok (.iconst 0, 1) := by decide +kernel
theorem dX2_convert_55 : decode cX2_convert 55 = .ok (.invokestatic 78, 3) := by decide +kernel
theorem dX2_convert_58 : decode cX2_convert 58 = .ok (.ireturn, 1) := by decide +kernel
def yX2_clear : MethodName := ⟨RX2, "clear", "(I)Z"⟩
abbrev cX2_clear : ByteArray := prog_1_method_14_code
theorem dX2_clear_0 : decode cX2_clear 0 = .ok (.iload_n 1, 1) := by decide +kernel
theorem dX2_clear_1 : decode cX2_clear 1 = .ok (.invokestatic 113, 3) := by decide +kernel
theorem dX2_clear_4 : decode cX2_clear 4 = .ok (.ifCond .ne 5, 3) := by decide +kernel
theorem dX2_clear_7 : decode cX2_clear 7 = .ok (.iconst 0, 1) := by decide +kernel
theorem dX2_clear_8 : decode cX2_clear 8 = .ok (.ireturn, 1) := by decide +kernel
theorem dX2_clear_9 : decode cX2_clear 9 = .ok (.aload_n 0, 1) := by decide +kernel
theorem dX2_clear_10 : decode cX2_clear 10 = .ok (.getfield 22, 3) := by decide +kernel
theorem dX2_clear_13 : decode cX2_clear 13 = .ok (.iload_n 1, 1) := by decide +kernel
theorem dX2_clear_14 : decode cX2_clear 14 = .ok (.aaload, 1) := by decide +kernel
theorem dX2_clear_15 : decode cX2_clear 15 = .ok (.invokevirtual 117, 3) := by decide +kernel
theorem dX2_clear_18 : decode cX2_clear 18 = .ok (.iconst 1, 1) := by decide +kernel
theorem dX2_clear_19 : decode cX2_clear 19 = .ok (.ireturn, 1) := by decide +kernel
def yX2_collect : MethodName := ⟨RX2, "collect", "(IIIZ)Z"⟩
abbrev cX2_collect : ByteArray := prog_1_method_15_code
theorem dX2_collect_0 : decode cX2_collect 0 = .ok (.iload_n 1, 1) := by decide +kernel
theorem dX2_collect_1 : decode cX2_collect 1 = .ok (.invokestatic 113, 3) := by decide +kernel
theorem dX2_collect_4 : decode cX2_collect 4 = .ok (.ifCond .ne 5, 3) := by decide +kernel
theorem dX2_collect_7 : decode cX2_collect 7 = .ok (.iconst 0, 1) := by decide +kernel
theorem dX2_collect_8 : decode cX2_collect 8 = .ok (.ireturn, 1) := by decide +kernel
theorem dX2_collect_9 : decode cX2_collect 9 = .ok (.aload_n 0, 1) := by decide +kernel
theorem dX2_collect_10 : decode cX2_collect 10 = .ok (.aload_n 0, 1) := by decide +kernel
theorem dX2_collect_11 : decode cX2_collect 11 = .ok (.getfield 30, 3) := by decide +kernel
theorem dX2_collect_14 : decode cX2_collect 14 = .ok (.iload_n 2, 1) := by decide +kernel
theorem dX2_collect_15 : decode cX2_collect 15 = .ok (.iload_n 3, 1) := by decide +kernel
theorem dX2_collect_16 : decode cX2_collect 16 = .ok (.invokevirtual 86, 3) := by decide +kernel
theorem dX2_collect_19 : decode cX2_collect 19 = .ok (.iload 4, 2) := by decide +kernel
theorem dX2_collect_21 : decode cX2_collect 21 = .ok (.ifCond .eq 10, 3) := by decide +kernel
theorem dX2_collect_24 : decode cX2_collect 24 = .ok (.aload_n 0, 1) := by decide +kernel
theorem dX2_collect_25 : decode cX2_collect 25 = .ok (.getfield 30, 3) := by decide +kernel
theorem dX2_collect_28 : decode cX2_collect 28 = .ok (.invokevirtual 120, 3) := by decide +kernel
theorem dX2_collect_31 : decode cX2_collect 31 = .ok (.aload_n 0, 1) := by decide +kernel
theorem dX2_collect_32 : decode cX2_collect 32 = .ok (.getfield 22, 3) := by decide +kernel
theorem dX2_collect_35 : decode cX2_collect 35 = .ok (.iload_n 1, 1) := by decide +kernel
theorem dX2_collect_36 : decode cX2_collect 36 = .ok (.aaload, 1) := by decide +kernel
theorem dX2_collect_37 : decode cX2_collect 37 = .ok (.aload_n 0, 1) := by decide +kernel
theorem dX2_collect_38 : decode cX2_collect 38 = .ok (.getfield 30, 3) := by decide +kernel
theorem dX2_collect_41 : decode cX2_collect 41 = .ok (.invokevirtual 90, 3) := by decide +kernel
theorem dX2_collect_44 : decode cX2_collect 44 = .ok (.iconst 1, 1) := by decide +kernel
theorem dX2_collect_45 : decode cX2_collect 45 = .ok (.ireturn, 1) := by decide +kernel
def yX2_merge : MethodName := ⟨RX2, "merge", "(I)Z"⟩
abbrev cX2_merge : ByteArray := prog_1_method_16_code
theorem dX2_merge_0 : decode cX2_merge 0 = .ok (.iload_n 1, 1) := by decide +kernel
theorem dX2_merge_1 : decode cX2_merge 1 = .ok (.invokestatic 113, 3) := by decide +kernel
theorem dX2_merge_4 : decode cX2_merge 4 = .ok (.ifCond .ne 5, 3) := by decide +kernel
theorem dX2_merge_7 : decode cX2_merge 7 = .ok (.iconst 0, 1) := by decide +kernel
theorem dX2_merge_8 : decode cX2_merge 8 = .ok (.ireturn, 1) := by decide +kernel
theorem dX2_merge_9 : decode cX2_merge 9 = .ok (.aload_n 0, 1) := by decide +kernel
theorem dX2_merge_10 : decode cX2_merge 10 = .ok (.getfield 22, 3) := by decide +kernel
theorem dX2_merge_13 : decode cX2_merge 13 = .ok (.iload_n 1, 1) := by decide +kernel
theorem dX2_merge_14 : decode cX2_merge 14 = .ok (.aaload, 1) := by decide +kernel
theorem dX2_merge_15 : decode cX2_merge 15 = .ok (.aload_n 0, 1) := by decide +kernel
theorem dX2_merge_16 : decode cX2_merge 16 = .ok (.getfield 22, 3) := by decide +kernel
theorem dX2_merge_19 : decode cX2_merge 19 = .ok (.iconst 1, 1) := by decide +kernel
theorem dX2_merge_20 : decode cX2_merge 20 = .ok (.iload_n 1, 1) := by decide +kernel
theorem dX2_merge_21 : decode cX2_merge 21 = .ok (.isub, 1) := by decide +kernel
theorem dX2_merge_22 : decode cX2_merge 22 = .ok (.aaload, 1) := by decide +kernel
theorem dX2_merge_23 : decode cX2_merge 23 = .ok (.invokevirtual 90, 3) := by decide +kernel
theorem dX2_merge_26 : decode cX2_merge 26 = .ok (.iconst 1, 1) := by decide +kernel
theorem dX2_merge_27 : decode cX2_merge 27 = .ok (.ireturn, 1) := by decide +kernel
def yX2_negate : MethodName := ⟨RX2, "negate", "(I)Z"⟩
abbrev cX2_negate : ByteArray := prog_1_method_17_code
theorem dX2_negate_0 : decode cX2_negate 0 = .ok (.iload_n 1, 1) := by decide +kernel
theorem dX2_negate_1 : decode cX2_negate 1 = .ok (.invokestatic 113, 3) := by decide +kernel
theorem dX2_negate_4 : decode cX2_negate 4 = .ok (.ifCond .ne 5, 3) := by decide +kernel
theorem dX2_negate_7 : decode cX2_negate 7 = .ok (.iconst 0, 1) := by decide +kernel
theorem dX2_negate_8 : decode cX2_negate 8 = .ok (.ireturn, 1) := by decide +kernel
theorem dX2_negate_9 : decode cX2_negate 9 = .ok (.aload_n 0, 1) := by decide +kernel
theorem dX2_negate_10 : decode cX2_negate 10 = .ok (.getfield 22, 3) := by decide +kernel
theorem dX2_negate_13 : decode cX2_negate 13 = .ok (.iload_n 1, 1) := by decide +kernel
theorem dX2_negate_14 : decode cX2_negate 14 = .ok (.aaload, 1) := by decide +kernel
theorem dX2_negate_15 : decode cX2_negate 15 = .ok (.invokevirtual 120, 3) := by decide +kernel
theorem dX2_negate_18 : decode cX2_negate 18 = .ok (.iconst 1, 1) := by decide +kernel
theorem dX2_negate_19 : decode cX2_negate 19 = .ok (.ireturn, 1) := by decide +kernel
def yX2_total : MethodName := ⟨RX2, "total", "(I)I"⟩
abbrev cX2_total : ByteArray := prog_1_method_18_code
theorem dX2_total_0 : decode cX2_total 0 = .ok (.iload_n 1, 1) := by decide +kernel
theorem dX2_total_1 : decode cX2_total 1 = .ok (.invokestatic 113, 3) := by decide +kernel
theorem dX2_total_4 : decode cX2_total 4 = .ok (.ifCond .ne 11, 3) := by decide +kernel
theorem dX2_total_7 : decode cX2_total 7 = .ok (.aload_n 0, 1) := by decide +kernel
theorem dX2_total_8 : decode cX2_total 8 = .ok (.getfield 13, 3) := by decide +kernel
theorem dX2_total_11 : decode cX2_total 11 = .ok (.invokestatic 63, 3) := by decide +kernel
theorem dX2_total_14 : decode cX2_total 14 = .ok (.ireturn, 1) := by decide +kernel
theorem dX2_total_15 : decode cX2_total 15 = .ok (.aload_n 0, 1) := by decide +kernel
theorem dX2_total_16 : decode cX2_total 16 = .ok (.aload_n 0, 1) := by decide +kernel
theorem dX2_total_17 : decode cX2_total 17 = .ok (.getfield 22, 3) := by decide +kernel
theorem dX2_total_20 : decode cX2_total 20 = .ok (.iload_n 1, 1) := by decide +kernel
theorem dX2_total_21 : decode cX2_total 21 = .ok (.aaload, 1) := by decide +kernel
theorem dX2_total_22 : decode cX2_total 22 = .ok (.invokevirtual 94, 3) := by decide +kernel
theorem dX2_total_25 : decode cX2_total 25 = .ok (.ireturn, 1) := by decide +kernel
def yX2_word : MethodName := ⟨RX2, "word", "(II)J"⟩
abbrev cX2_word : ByteArray := prog_1_method_19_code
theorem dX2_word_0 : decode cX2_word 0 = .ok (.iload_n 1, 1) := by decide +kernel
theorem dX2_word_1 : decode cX2_word 1 = .ok (.invokestatic 113, 3) := by decide +kernel
theorem dX2_word_4 : decode cX2_word 4 = .ok (.ifCond .eq 21, 3) := by decide +kernel
theorem dX2_word_7 : decode cX2_word 7 = .ok (.iload_n 2, 1) := by decide +kernel
theorem dX2_word_8 : decode cX2_word 8 = .ok (.ifCond .lt 17, 3) := by decide +kernel
theorem dX2_word_11 : decode cX2_word 11 = .ok (.iload_n 2, 1) := by decide +kernel
theorem dX2_word_12 : decode cX2_word 12 = .ok (.aload_n 0, 1) := by decide +kernel
theorem dX2_word_13 : decode cX2_word 13 = .ok (.getfield 22, 3) := by decide +kernel
theorem dX2_word_16 : decode cX2_word 16 = .ok (.iload_n 1, 1) := by decide +kernel
theorem dX2_word_17 : decode cX2_word 17 = .ok (.aaload, 1) := by decide +kernel
theorem dX2_word_18 : decode cX2_word 18 = .ok (.getfield 123, 3) := by decide +kernel
theorem dX2_word_21 : decode cX2_word 21 = .ok (.arraylength, 1) := by decide +kernel
theorem dX2_word_22 : decode cX2_word 22 = .ok (.if_icmp .lt 5, 3) := by decide +kernel
theorem dX2_word_25 : decode cX2_word 25 = .ok (.lconst 0, 1) := by decide +kernel
theorem dX2_word_26 : decode cX2_word 26 = .ok (.lreturn, 1) := by decide +kernel
theorem dX2_word_27 : decode cX2_word 27 = .ok (.aload_n 0, 1) := by decide +kernel
theorem dX2_word_28 : decode cX2_word 28 = .ok (.getfield 22, 3) := by decide +kernel
theorem dX2_word_31 : decode cX2_word 31 = .ok (.iload_n 1, 1) := by decide +kernel
theorem dX2_word_32 : decode cX2_word 32 = .ok (.aaload, 1) := by decide +kernel
theorem dX2_word_33 : decode cX2_word 33 = .ok (.getfield 123, 3) := by decide +kernel
theorem dX2_word_36 : decode cX2_word 36 = .ok (.iload_n 2, 1) := by decide +kernel
theorem dX2_word_37 : decode cX2_word 37 = .ok (.laload, 1) := by decide +kernel
theorem dX2_word_38 : decode cX2_word 38 = .ok (.lreturn, 1) := by decide +kernel
def yX2_compare : MethodName := ⟨RX2, "compare", "(II)I"⟩
abbrev cX2_compare : ByteArray := prog_1_method_20_code
theorem dX2_compare_0 : decode cX2_compare 0 = .ok (.iload_n 1, 1) := by decide +kernel
theorem dX2_compare_1 : decode cX2_compare 1 = .ok (.aload_n 0, 1) := by decide +kernel
theorem dX2_compare_2 : decode cX2_compare 2 = .ok (.getfield 13, 3) := by decide +kernel
theorem dX2_compare_5 : decode cX2_compare 5 = .ok (.invokestatic 98, 3) := by decide +kernel
theorem dX2_compare_8 : decode cX2_compare 8 = .ok (.istore_n 3, 1) := by decide +kernel
theorem dX2_compare_9 : decode cX2_compare 9 = .ok (.iload_n 2, 1) := by decide +kernel
theorem dX2_compare_10 : decode cX2_compare 10 = .ok (.aload_n 0, 1) := by decide +kernel
theorem dX2_compare_11 : decode cX2_compare 11 = .ok (.getfield 13, 3) := by decide +kernel
theorem dX2_compare_14 : decode cX2_compare 14 = .ok (.invokestatic 98, 3) := by decide +kernel
theorem dX2_compare_17 : decode cX2_compare 17 = .ok (.istore 4, 2) := by decide +kernel
theorem dX2_compare_19 : decode cX2_compare 19 = .ok (.iload_n 3, 1) := by decide +kernel
theorem dX2_compare_20 : decode cX2_compare 20 = .ok (.iload 4, 2) := by decide +kernel
theorem dX2_compare_22 : decode cX2_compare 22 = .ok (.if_icmp .ne 5, 3) := by decide +kernel
theorem dX2_compare_25 : decode cX2_compare 25 = .ok (.iconst 0, 1) := by decide +kernel
theorem dX2_compare_26 : decode cX2_compare 26 = .ok (.ireturn, 1) := by decide +kernel
theorem dX2_compare_27 : decode cX2_compare 27 = .ok (.iload_n 3, 1) := by decide +kernel
theorem dX2_compare_28 : decode cX2_compare 28 = .ok (.iload 4, 2) := by decide +kernel
theorem dX2_compare_30 : decode cX2_compare 30 = .ok (.if_icmp .ge 7, 3) := by decide +kernel
theorem dX2_compare_33 : decode cX2_compare 33 = .ok (.iconst (-1), 1) := by decide +kernel
theorem dX2_compare_34 : decode cX2_compare 34 = .ok (.goto 4, 3) := by decide +kernel
theorem dX2_compare_37 : decode cX2_compare 37 = .ok (.iconst 1, 1) := by decide +kernel
theorem dX2_compare_38 : decode cX2_compare 38 = .ok (.ireturn, 1) := by decide +kernel
def yX2_isSum : MethodName := ⟨RX2, "isSum", "(I)Z"⟩
abbrev cX2_isSum : ByteArray := prog_1_method_25_code
theorem dX2_isSum_0 : decode cX2_isSum 0 = .ok (.iload_n 0, 1) := by decide +kernel
theorem dX2_isSum_1 : decode cX2_isSum 1 = .ok (.ifCond .eq 8, 3) := by decide +kernel
theorem dX2_isSum_4 : decode cX2_isSum 4 = .ok (.iload_n 0, 1) := by decide +kernel
theorem dX2_isSum_5 : decode cX2_isSum 5 = .ok (.iconst 1, 1) := by decide +kernel
theorem dX2_isSum_6 : decode cX2_isSum 6 = .ok (.if_icmp .ne 7, 3) := by decide +kernel
theorem dX2_isSum_9 : decode cX2_isSum 9 = .ok (.iconst 1, 1) := by decide +kernel
theorem dX2_isSum_10 : decode cX2_isSum 10 = .ok (.goto 4, 3) := by decide +kernel
theorem dX2_isSum_13 : decode cX2_isSum 13 = .ok (.iconst 0, 1) := by decide +kernel
theorem dX2_isSum_14 : decode cX2_isSum 14 = .ok (.ireturn, 1) := by decide +kernel
def yL_cell : MethodName := ⟨RL, "cell", "([II)I"⟩
abbrev cL_cell : ByteArray := method_2_code
theorem dL_cell_0 : decode cL_cell 0 = .ok (.iload_n 1, 1) := by decide +kernel
theorem dL_cell_1 : decode cL_cell 1 = .ok (.aload_n 0, 1) := by decide +kernel
theorem dL_cell_2 : decode cL_cell 2 = .ok (.arraylength, 1) := by decide +kernel
theorem dL_cell_3 : decode cL_cell 3 = .ok (.if_icmp .ge 9, 3) := by decide +kernel
theorem dL_cell_6 : decode cL_cell 6 = .ok (.aload_n 0, 1) := by decide +kernel
theorem dL_cell_7 : decode cL_cell 7 = .ok (.iload_n 1, 1) := by decide +kernel
theorem dL_cell_8 : decode cL_cell 8 = .ok (.iaload, 1) := by decide +kernel
theorem dL_cell_9 : decode cL_cell 9 = .ok (.goto 4, 3) := by decide +kernel
theorem dL_cell_12 : decode cL_cell 12 = .ok (.iconst 0, 1) := by decide +kernel
theorem dL_cell_13 : decode cL_cell 13 = .ok (.ireturn, 1) := by decide +kernel
def yM_init : MethodName := ⟨RM, "<init>", "(I)V"⟩
abbrev cM_init : ByteArray := prog_5_method_1_code
theorem dM_init_0 : decode cM_init 0 = .ok (.aload_n 0, 1) := by decide +kernel
theorem dM_init_1 : decode cM_init 1 = .ok (.invokespecial 1, 3) := by decide +kernel
theorem dM_init_4 : decode cM_init 4 = .ok (.aload_n 0, 1) := by decide +kernel
theorem dM_init_5 : decode cM_init 5 = .ok (.sipush 200, 3) := by decide +kernel
theorem dM_init_8 : decode cM_init 8 = .ok (.newarray .int, 2) := by decide +kernel
theorem dM_init_10 : decode cM_init 10 = .ok (.putfield 7, 3) := by decide +kernel
theorem dM_init_13 : decode cM_init 13 = .ok (.aload_n 0, 1) := by decide +kernel
theorem dM_init_14 : decode cM_init 14 = .ok (.bipush 64, 2) := by decide +kernel
theorem dM_init_16 : decode cM_init 16 = .ok (.newarray .int, 2) := by decide +kernel
theorem dM_init_18 : decode cM_init 18 = .ok (.putfield 13, 3) := by decide +kernel
theorem dM_init_21 : decode cM_init 21 = .ok (.aload_n 0, 1) := by decide +kernel
theorem dM_init_22 : decode cM_init 22 = .ok (.iload_n 1, 1) := by decide +kernel
theorem dM_init_23 : decode cM_init 23 = .ok (.invokestatic 16, 3) := by decide +kernel
theorem dM_init_26 : decode cM_init 26 = .ok (.putfield 20, 3) := by decide +kernel
theorem dM_init_29 : decode cM_init 29 = .ok (.return_, 1) := by decide +kernel
def yM_sizeOf : MethodName := ⟨RM, "sizeOf", "(I)I"⟩
abbrev cM_sizeOf : ByteArray := prog_5_method_2_code
theorem dM_sizeOf_0 : decode cM_sizeOf 0 = .ok (.iload_n 0, 1) := by decide +kernel
theorem dM_sizeOf_1 : decode cM_sizeOf 1 = .ok (.ifCond .ne 8, 3) := by decide +kernel
theorem dM_sizeOf_4 : decode cM_sizeOf 4 = .ok (.bipush 8, 2) := by decide +kernel
theorem dM_sizeOf_6 : decode cM_sizeOf 6 = .ok (.goto 15, 3) := by decide +kernel
theorem dM_sizeOf_9 : decode cM_sizeOf 9 = .ok (.iload_n 0, 1) := by decide +kernel
theorem dM_sizeOf_10 : decode cM_sizeOf 10 = .ok (.iconst 1, 1) := by decide +kernel
theorem dM_sizeOf_11 : decode cM_sizeOf 11 = .ok (.if_icmp .ne 8, 3) := by decide +kernel
theorem dM_sizeOf_14 : decode cM_sizeOf 14 = .ok (.bipush 16, 2) := by decide +kernel
theorem dM_sizeOf_16 : decode cM_sizeOf 16 = .ok (.goto 5, 3) := by decide +kernel
theorem dM_sizeOf_19 : decode cM_sizeOf 19 = .ok (.bipush 32, 2) := by decide +kernel
theorem dM_sizeOf_21 : decode cM_sizeOf 21 = .ok (.ireturn, 1) := by decide +kernel
def yM_bits : MethodName := ⟨RM, "bits", "()I"⟩
abbrev cM_bits : ByteArray := prog_5_method_3_code
theorem dM_bits_0 : decode cM_bits 0 = .ok (.aload_n 0, 1) := by decide +kernel
theorem dM_bits_1 : decode cM_bits 1 = .ok (.getfield 20, 3) := by decide +kernel
theorem dM_bits_4 : decode cM_bits 4 = .ok (.ireturn, 1) := by decide +kernel
def yM_zero : MethodName := ⟨RM, "zero", "(I)V"⟩
abbrev cM_zero : ByteArray := prog_5_method_4_code
theorem dM_zero_0 : decode cM_zero 0 = .ok (.iconst 0, 1) := by decide +kernel
theorem dM_zero_1 : decode cM_zero 1 = .ok (.istore_n 2, 1) := by decide +kernel
theorem dM_zero_2 : decode cM_zero 2 = .ok (.iload_n 2, 1) := by decide +kernel
theorem dM_zero_3 : decode cM_zero 3 = .ok (.bipush 40, 2) := by decide +kernel
theorem dM_zero_5 : decode cM_zero 5 = .ok (.if_icmp .ge 21, 3) := by decide +kernel
theorem dM_zero_8 : decode cM_zero 8 = .ok (.aload_n 0, 1) := by decide +kernel
theorem dM_zero_9 : decode cM_zero 9 = .ok (.getfield 7, 3) := by decide +kernel
theorem dM_zero_12 : decode cM_zero 12 = .ok (.bipush 40, 2) := by decide +kernel
theorem dM_zero_14 : decode cM_zero 14 = .ok (.iload_n 1, 1) := by decide +kernel
theorem dM_zero_15 : decode cM_zero 15 = .ok (.imul, 1) := by decide +kernel
theorem dM_zero_16 : decode cM_zero 16 = .ok (.iload_n 2, 1) := by decide +kernel
theorem dM_zero_17 : decode cM_zero 17 = .ok (.iadd, 1) := by decide +kernel
theorem dM_zero_18 : decode cM_zero 18 = .ok (.iconst 0, 1) := by decide +kernel
theorem dM_zero_19 : decode cM_zero 19 = .ok (.iastore, 1) := by decide +kernel
theorem dM_zero_20 : decode cM_zero 20 = .ok (.iinc 2 1, 3) := by decide +kernel
theorem dM_zero_23 : decode cM_zero 23 = .ok (.goto (-21), 3) := by decide +kernel
theorem dM_zero_26 : decode cM_zero 26 = .ok (.return_, 1) := by decide +kernel
def yM_move : MethodName := ⟨RM, "move", "(II)V"⟩
abbrev cM_move : ByteArray := prog_5_method_5_code
theorem dM_move_0 : decode cM_move 0 = .ok (.iconst 0, 1) := by decide +kernel
theorem dM_move_1 : decode cM_move 1 = .ok (.istore_n 3, 1) := by decide +kernel
theorem dM_move_2 : decode cM_move 2 = .ok (.iload_n 3, 1) := by decide +kernel
theorem dM_move_3 : decode cM_move 3 = .ok (.bipush 40, 2) := by decide +kernel
theorem dM_move_5 : decode cM_move 5 = .ok (.if_icmp .ge 31, 3) := by decide +kernel
theorem dM_move_8 : decode cM_move 8 = .ok (.aload_n 0, 1) := by decide +kernel
theorem dM_move_9 : decode cM_move 9 = .ok (.getfield 7, 3) := by decide +kernel
theorem dM_move_12 : decode cM_move 12 = .ok (.bipush 40, 2) := by decide +kernel
theorem dM_move_14 : decode cM_move 14 = .ok (.iload_n 2, 1) := by decide +kernel
theorem dM_move_15 : decode cM_move 15 = .ok (.imul, 1) := by decide +kernel
theorem dM_move_16 : decode cM_move 16 = .ok (.iload_n 3, 1) := by decide +kernel
theorem dM_move_17 : decode cM_move 17 = .ok (.iadd, 1) := by decide +kernel
theorem dM_move_18 : decode cM_move 18 = .ok (.aload_n 0, 1) := by decide +kernel
theorem dM_move_19 : decode cM_move 19 = .ok (.getfield 7, 3) := by decide +kernel
theorem dM_move_22 : decode cM_move 22 = .ok (.bipush 40, 2) := by decide +kernel
theorem dM_move_24 : decode cM_move 24 = .ok (.iload_n 1, 1) := by decide +kernel
theorem dM_move_25 : decode cM_move 25 = .ok (.imul, 1) := by decide +kernel
theorem dM_move_26 : decode cM_move 26 = .ok (.iload_n 3, 1) := by decide +kernel
theorem dM_move_27 : decode cM_move 27 = .ok (.iadd, 1) := by decide +kernel
theorem dM_move_28 : decode cM_move 28 = .ok (.iaload, 1) := by decide +kernel
theorem dM_move_29 : decode cM_move 29 = .ok (.iastore, 1) := by decide +kernel
theorem dM_move_30 : decode cM_move 30 = .ok (.iinc 3 1, 3) := by decide +kernel
theorem dM_move_33 : decode cM_move 33 = .ok (.goto (-31), 3) := by decide +kernel
theorem dM_move_36 : decode cM_move 36 = .ok (.return_, 1) := by decide +kernel
def yM_order : MethodName := ⟨RM, "order", "(II)I"⟩
abbrev cM_order : ByteArray := prog_5_method_6_code
theorem dM_order_0 : decode cM_order 0 = .ok (.bipush 39, 2) := by decide +kernel
theorem dM_order_2 : decode cM_order 2 = .ok (.istore_n 3, 1) := by decide +kernel
theorem dM_order_3 : decode cM_order 3 = .ok (.iload_n 3, 1) := by decide +kernel
theorem dM_order_4 : decode cM_order 4 = .ok (.ifCond .lt 55, 3) := by decide +kernel
theorem dM_order_7 : decode cM_order 7 = .ok (.aload_n 0, 1) := by decide +kernel
theorem dM_order_8 : decode cM_order 8 = .ok (.getfield 7, 3) := by decide +kernel
theorem dM_order_11 : decode cM_order 11 = .ok (.bipush 40, 2) := by decide +kernel
theorem dM_order_13 : decode cM_order 13 = .ok (.iload_n 1, 1) := by decide +kernel
theorem dM_order_14 : decode cM_order 14 = .ok (.imul, 1) := by decide +kernel
theorem dM_order_15 : decode cM_order 15 = .ok (.iload_n 3, 1) := by decide +kernel
theorem dM_order_16 : decode cM_order 16 = .ok (.iadd, 1) := by decide +kernel
theorem dM_order_17 : decode cM_order 17 = .ok (.iaload, 1) := by decide +kernel
theorem dM_order_18 : decode cM_order 18 = .ok (.istore 4, 2) := by decide +kernel
theorem dM_order_20 : decode cM_order 20 = .ok (.aload_n 0, 1) := by decide +kernel
theorem dM_order_21 : decode cM_order 21 = .ok (.getfield 7, 3) := by decide +kernel
theorem dM_order_24 : decode cM_order 24 = .ok (.bipush 40, 2) := by decide +kernel
theorem dM_order_26 : decode cM_order 26 = .ok (.iload_n 2, 1) := by decide +kernel
theorem dM_order_27 : decode cM_order 27 = .ok (.imul, 1) := by decide +kernel
theorem dM_order_28 : decode cM_order 28 = .ok (.iload_n 3, 1) := by decide +kernel
theorem dM_order_29 : decode cM_order 29 = .ok (.iadd, 1) := by decide +kernel
theorem dM_order_30 : decode cM_order 30 = .ok (.iaload, 1) := by decide +kernel
theorem dM_order_31 : decode cM_order 31 = .ok (.istore 5, 2) := by decide +kernel
theorem dM_order_33 : decode cM_order 33 = .ok (.iload 4, 2) := by decide +kernel
theorem dM_order_35 : decode cM_order 35 = .ok (.iload 5, 2) := by decide +kernel
theorem dM_order_37 : decode cM_order 37 = .ok (.if_icmp .eq 16, 3) := by decide +kernel
theorem dM_order_40 : decode cM_order 40 = .ok (.iload 4, 2) := by decide +kernel
theorem dM_order_42 : decode cM_order 42 = .ok (.iload 5, 2) := by decide +kernel
theorem dM_order_44 : decode cM_order 44 = .ok (.if_icmp .ge 7, 3) := by decide +kernel
theorem dM_order_47 : decode cM_order 47 = .ok (.iconst (-1), 1) := by decide +kernel
theorem dM_order_48 : decode cM_order 48 = .ok (.goto 4, 3) := by decide +kernel
theorem dM_order_51 : decode cM_order 51 = .ok (.iconst 1, 1) := by decide +kernel
theorem dM_order_52 : decode cM_order 52 = .ok (.ireturn, 1) := by decide +kernel
theorem dM_order_53 : decode cM_order 53 = .ok (.iinc 3 (-1), 3) := by decide +kernel
theorem dM_order_56 : decode cM_order 56 = .ok (.goto (-53), 3) := by decide +kernel
theorem dM_order_59 : decode cM_order 59 = .ok (.iconst 0, 1) := by decide +kernel
theorem dM_order_60 : decode cM_order 60 = .ok (.ireturn, 1) := by decide +kernel
def yM_isZero : MethodName := ⟨RM, "isZero", "(I)Z"⟩
abbrev cM_isZero : ByteArray := prog_5_method_7_code
theorem dM_isZero_0 : decode cM_isZero 0 = .ok (.iconst 1, 1) := by decide +kernel
theorem dM_isZero_1 : decode cM_isZero 1 = .ok (.istore_n 2, 1) := by decide +kernel
theorem dM_isZero_2 : decode cM_isZero 2 = .ok (.iconst 0, 1) := by decide +kernel
theorem dM_isZero_3 : decode cM_isZero 3 = .ok (.istore_n 3, 1) := by decide +kernel
theorem dM_isZero_4 : decode cM_isZero 4 = .ok (.iload_n 3, 1) := by decide +kernel
theorem dM_isZero_5 : decode cM_isZero 5 = .ok (.bipush 40, 2) := by decide +kernel
theorem dM_isZero_7 : decode cM_isZero 7 = .ok (.if_icmp .ge 33, 3) := by decide +kernel
theorem dM_isZero_10 : decode cM_isZero 10 = .ok (.iload_n 2, 1) := by decide +kernel
theorem dM_isZero_11 : decode cM_isZero 11 = .ok (.ifCond .eq 21, 3) := by decide +kernel
theorem dM_isZero_14 : decode cM_isZero 14 = .ok (.aload_n 0, 1) := by decide +kernel
theorem dM_isZero_15 : decode cM_isZero 15 = .ok (.getfield 7, 3) := by decide +kernel
theorem dM_isZero_18 : decode cM_isZero 18 = .ok (.bipush 40, 2) := by decide +kernel
theorem dM_isZero_20 : decode cM_isZero 20 = .ok (.iload_n 1, 1) := by decide +kernel
theorem dM_isZero_21 : decode cM_isZero 21 = .ok (.imul, 1) := by decide +kernel
theorem dM_isZero_22 : decode cM_isZero 22 = .ok (.iload_n 3, 1) := by decide +kernel
theorem dM_isZero_23 : decode cM_isZero 23 = .ok (.iadd, 1) := by decide +kernel
theorem dM_isZero_24 : decode cM_isZero 24 = .ok (.iaload, 1) := by decide +kernel
theorem dM_isZero_25 : decode cM_isZero 25 = .ok (.ifCond .ne 7, 3) := by decide +kernel
theorem dM_isZero_28 : decode cM_isZero 28 = .ok (.iconst 1, 1) := by decide +kernel
theorem dM_isZero_29 : decode cM_isZero 29 = .ok (.goto 4, 3) := by decide +kernel
theorem dM_isZero_32 : decode cM_isZero 32 = .ok (.iconst 0, 1) := by decide +kernel
theorem dM_isZero_33 : decode cM_isZero 33 = .ok (.istore_n 2, 1) := by decide +kernel
theorem dM_isZero_34 : decode cM_isZero 34 = .ok (.iinc 3 1, 3) := by decide +kernel
theorem dM_isZero_37 : decode cM_isZero 37 = .ok (.goto (-33), 3) := by decide +kernel
theorem dM_isZero_40 : decode cM_isZero 40 = .ok (.iload_n 2, 1) := by decide +kernel
theorem dM_isZero_41 : decode cM_isZero 41 = .ok (.ireturn, 1) := by decide +kernel
def yM_plus : MethodName := ⟨RM, "plus", "(II)V"⟩
abbrev cM_plus : ByteArray := prog_5_method_8_code
theorem dM_plus_0 : decode cM_plus 0 = .ok (.iconst 0, 1) := by decide +kernel
theorem dM_plus_1 : decode cM_plus 1 = .ok (.istore_n 3, 1) := by decide +kernel
theorem dM_plus_2 : decode cM_plus 2 = .ok (.iconst 0, 1) := by decide +kernel
theorem dM_plus_3 : decode cM_plus 3 = .ok (.istore 4, 2) := by decide +kernel
theorem dM_plus_5 : decode cM_plus 5 = .ok (.iload 4, 2) := by decide +kernel
theorem dM_plus_7 : decode cM_plus 7 = .ok (.bipush 40, 2) := by decide +kernel
theorem dM_plus_9 : decode cM_plus 9 = .ok (.if_icmp .ge 61, 3) := by decide +kernel
theorem dM_plus_12 : decode cM_plus 12 = .ok (.aload_n 0, 1) := by decide +kernel
theorem dM_plus_13 : decode cM_plus 13 = .ok (.getfield 7, 3) := by decide +kernel
theorem dM_plus_16 : decode cM_plus 16 = .ok (.bipush 40, 2) := by decide +kernel
theorem dM_plus_18 : decode cM_plus 18 = .ok (.iload_n 1, 1) := by decide +kernel
theorem dM_plus_19 : decode cM_plus 19 = .ok (.imul, 1) := by decide +kernel
theorem dM_plus_20 : decode cM_plus 20 = .ok (.iload 4, 2) := by decide +kernel
theorem dM_plus_22 : decode cM_plus 22 = .ok (.iadd, 1) := by decide +kernel
theorem dM_plus_23 : decode cM_plus 23 = .ok (.iaload, 1) := by decide +kernel
theorem dM_plus_24 : decode cM_plus 24 = .ok (.aload_n 0, 1) := by decide +kernel
theorem dM_plus_25 : decode cM_plus 25 = .ok (.getfield 7, 3) := by decide +kernel
theorem dM_plus_28 : decode cM_plus 28 = .ok (.bipush 40, 2) := by decide +kernel
theorem dM_plus_30 : decode cM_plus 30 = .ok (.iload_n 2, 1) := by decide +kernel
theorem dM_plus_31 : decode cM_plus 31 = .ok (.imul, 1) := by decide +kernel
theorem dM_plus_32 : decode cM_plus 32 = .ok (.iload 4, 2) := by decide +kernel
theorem dM_plus_34 : decode cM_plus 34 = .ok (.iadd, 1) := by decide +kernel
theorem dM_plus_35 : decode cM_plus 35 = .ok (.iaload, 1) := by decide +kernel
theorem dM_plus_36 : decode cM_plus 36 = .ok (.iadd, 1) := by decide +kernel
theorem dM_plus_37 : decode cM_plus 37 = .ok (.iload_n 3, 1) := by decide +kernel
theorem dM_plus_38 : decode cM_plus 38 = .ok (.iadd, 1) := by decide +kernel
theorem dM_plus_39 : decode cM_plus 39 = .ok (.istore 5, 2) := by decide +kernel
theorem dM_plus_41 : decode cM_plus 41 = .ok (.aload_n 0, 1) := by decide +kernel
theorem dM_plus_42 : decode cM_plus 42 = .ok (.getfield 7, 3) := by decide +kernel
theorem dM_plus_45 : decode cM_plus 45 = .ok (.bipush 40, 2) := by decide +kernel
theorem dM_plus_47 : decode cM_plus 47 = .ok (.iload_n 1, 1) := by decide +kernel
theorem dM_plus_48 : decode cM_plus 48 = .ok (.imul, 1) := by decide +kernel
theorem dM_plus_49 : decode cM_plus 49 = .ok (.iload 4, 2) := by decide +kernel
theorem dM_plus_51 : decode cM_plus 51 = .ok (.iadd, 1) := by decide +kernel
theorem dM_plus_52 : decode cM_plus 52 = .ok (.iload 5, 2) := by decide +kernel
theorem dM_plus_54 : decode cM_plus 54 = .ok (.ldc 24, 2) := by decide +kernel
theorem dM_plus_56 : decode cM_plus 56 = .ok (.iand, 1) := by decide +kernel
theorem dM_plus_57 : decode cM_plus 57 = .ok (.iastore, 1) := by decide +kernel
theorem dM_plus_58 : decode cM_plus 58 = .ok (.iload 5, 2) := by decide +kernel
theorem dM_plus_60 : decode cM_plus 60 = .ok (.bipush 16, 2) := by decide +kernel
theorem dM_plus_62 : decode cM_plus 62 = .ok (.ishr, 1) := by decide +kernel
theorem dM_plus_63 : decode cM_plus 63 = .ok (.istore_n 3, 1) := by decide +kernel
theorem dM_plus_64 : decode cM_plus 64 = .ok (.iinc 4 1, 3) := by decide +kernel
theorem dM_plus_67 : decode cM_plus 67 = .ok (.goto (-62), 3) := by decide +kernel
theorem dM_plus_70 : decode cM_plus 70 = .ok (.return_, 1) := by decide +kernel
def yM_apart : MethodName := ⟨RM, "apart", "(III)V"⟩
abbrev cM_apart : ByteArray := prog_5_method_9_code
theorem dM_apart_0 : decode cM_apart 0 = .ok (.iconst 0, 1) := by decide +kernel
theorem dM_apart_1 : decode cM_apart 1 = .ok (.istore 4, 2) := by decide +kernel
theorem dM_apart_3 : decode cM_apart 3 = .ok (.iconst 0, 1) := by decide +kernel
theorem dM_apart_4 : decode cM_apart 4 = .ok (.istore 5, 2) := by decide +kernel
theorem dM_apart_6 : decode cM_apart 6 = .ok (.iload 5, 2) := by decide +kernel
theorem dM_apart_8 : decode cM_apart 8 = .ok (.bipush 40, 2) := by decide +kernel
theorem dM_apart_10 : decode cM_apart 10 = .ok (.if_icmp .ge 68, 3) := by decide +kernel
theorem dM_apart_13 : decode cM_apart 13 = .ok (.aload_n 0, 1) := by decide +kernel
theorem dM_apart_14 : decode cM_apart 14 = .ok (.getfield 7, 3) := by decide +kernel
theorem dM_apart_17 : decode cM_apart 17 = .ok (.bipush 40, 2) := by decide +kernel
theorem dM_apart_19 : decode cM_apart 19 = .ok (.iload_n 1, 1) := by decide +kernel
theorem dM_apart_20 : decode cM_apart 20 = .ok (.imul, 1) := by decide +kernel
theorem dM_apart_21 : decode cM_apart 21 = .ok (.iload 5, 2) := by decide +kernel
theorem dM_apart_23 : decode cM_apart 23 = .ok (.iadd, 1) := by decide +kernel
theorem dM_apart_24 : decode cM_apart 24 = .ok (.iaload, 1) := by decide +kernel
theorem dM_apart_25 : decode cM_apart 25 = .ok (.aload_n 0, 1) := by decide +kernel
theorem dM_apart_26 : decode cM_apart 26 = .ok (.getfield 7, 3) := by decide +kernel
theorem dM_apart_29 : decode cM_apart 29 = .ok (.bipush 40, 2) := by decide +kernel
theorem dM_apart_31 : decode cM_apart 31 = .ok (.iload_n 2, 1) := by decide +kernel
theorem dM_apart_32 : decode cM_apart 32 = .ok (.imul, 1) := by decide +kernel
theorem dM_apart_33 : decode cM_apart 33 = .ok (.iload 5, 2) := by decide +kernel
theorem dM_apart_35 : decode cM_apart 35 = .ok (.iadd, 1) := by decide +kernel
theorem dM_apart_36 : decode cM_apart 36 = .ok (.iaload, 1) := by decide +kernel
theorem dM_apart_37 : decode cM_apart 37 = .ok (.isub, 1) := by decide +kernel
theorem dM_apart_38 : decode cM_apart 38 = .ok (.iload 4, 2) := by decide +kernel
theorem dM_apart_40 : decode cM_apart 40 = .ok (.isub, 1) := by decide +kernel
theorem dM_apart_41 : decode cM_apart 41 = .ok (.istore 6, 2) := by decide +kernel
theorem dM_apart_43 : decode cM_apart 43 = .ok (.aload_n 0, 1) := by decide +kernel
theorem dM_apart_44 : decode cM_apart 44 = .ok (.getfield 7, 3) := by decide +kernel
theorem dM_apart_47 : decode cM_apart 47 = .ok (.bipush 40, 2) := by decide +kernel
theorem dM_apart_49 : decode cM_apart 49 = .ok (.iload_n 3, 1) := by decide +kernel
theorem dM_apart_50 : decode cM_apart 50 = .ok (.imul, 1) := by decide +kernel
theorem dM_apart_51 : decode cM_apart 51 = .ok (.iload 5, 2) := by decide +kernel
theorem dM_apart_53 : decode cM_apart 53 = .ok (.iadd, 1) := by decide +kernel
theorem dM_apart_54 : decode cM_apart 54 = .ok (.iload 6, 2) := by decide +kernel
theorem dM_apart_56 : decode cM_apart 56 = .ok (.ldc 24, 2) := by decide +kernel
theorem dM_apart_58 : decode cM_apart 58 = .ok (.iand, 1) := by decide +kernel
theorem dM_apart_59 : decode cM_apart 59 = .ok (.iastore, 1) := by decide +kernel
theorem dM_apart_60 : decode cM_apart 60 = .ok (.iload 6, 2) := by decide +kernel
theorem dM_apart_62 : decode cM_apart 62 = .ok (.ifCond .ge 7, 3) := by decide +kernel
theorem dM_apart_65 : decode cM_apart 65 = .ok (.iconst 1, 1) := by decide +kernel
theorem dM_apart_66 : decode cM_apart 66 = .ok (.goto 4, 3) := by decide +kernel
theorem dM_apart_69 : decode cM_apart 69 = .ok (.iconst 0, 1) := by decide +kernel
theorem dM_apart_70 : decode cM_apart 70 = .ok (.istore 4, 2) := by decide +kernel
theorem dM_apart_72 : decode cM_apart 72 = .ok (.iinc 5 1, 3) := by decide +kernel
theorem dM_apart_75 : decode cM_apart 75 = .ok (.goto (-69), 3) := by decide +kernel
theorem dM_apart_78 : decode cM_apart 78 = .ok (.return_, 1) := by decide +kernel
def yM_times : MethodName := ⟨RM, "times", "(III)V"⟩
abbrev cM_times : ByteArray := prog_5_method_10_code
theorem dM_times_0 : decode cM_times 0 = .ok (.aload_n 0, 1) := by decide +kernel
theorem dM_times_1 : decode cM_times 1 = .ok (.iload_n 3, 1) := by decide +kernel
theorem dM_times_2 : decode cM_times 2 = .ok (.invokevirtual 25, 3) := by decide +kernel
theorem dM_times_5 : decode cM_times 5 = .ok (.iconst 0, 1) := by decide +kernel
theorem dM_times_6 : decode cM_times 6 = .ok (.istore 4, 2) := by decide +kernel
theorem dM_times_8 : decode cM_times 8 = .ok (.iload 4, 2) := by decide +kernel
theorem dM_times_10 : decode cM_times 10 = .ok (.bipush 40, 2) := by decide +kernel
theorem dM_times_12 : decode cM_times 12 = .ok (.if_icmp .ge 120, 3) := by decide +kernel
theorem dM_times_15 : decode cM_times 15 = .ok (.aload_n 0, 1) := by decide +kernel
theorem dM_times_16 : decode cM_times 16 = .ok (.getfield 7, 3) := by decide +kernel
theorem dM_times_19 : decode cM_times 19 = .ok (.bipush 40, 2) := by decide +kernel
theorem dM_times_21 : decode cM_times 21 = .ok (.iload_n 1, 1) := by decide +kernel
theorem dM_times_22 : decode cM_times 22 = .ok (.imul, 1) := by decide +kernel
theorem dM_times_23 : decode cM_times 23 = .ok (.iload 4, 2) := by decide +kernel
theorem dM_times_25 : decode cM_times 25 = .ok (.iadd, 1) := by decide +kernel
theorem dM_times_26 : decode cM_times 26 = .ok (.iaload, 1) := by decide +kernel
theorem dM_times_27 : decode cM_times 27 = .ok (.i2l, 1) := by decide +kernel
theorem dM_times_28 : decode cM_times 28 = .ok (.lstore 5, 2) := by decide +kernel
theorem dM_times_30 : decode cM_times 30 = .ok (.lconst 0, 1) := by decide +kernel
theorem dM_times_31 : decode cM_times 31 = .ok (.lstore 7, 2) := by decide +kernel
theorem dM_times_33 : decode cM_times 33 = .ok (.iconst 0, 1) := by decide +kernel
theorem dM_times_34 : decode cM_times 34 = .ok (.istore 9, 2) := by decide +kernel
theorem dM_times_36 : decode cM_times 36 = .ok (.iload 9, 2) := by decide +kernel
theorem dM_times_38 : decode cM_times 38 = .ok (.bipush 40, 2) := by decide +kernel
theorem dM_times_40 : decode cM_times 40 = .ok (.iload 4, 2) := by decide +kernel
theorem dM_times_42 : decode cM_times 42 = .ok (.isub, 1) := by decide +kernel
theorem dM_times_43 : decode cM_times 43 = .ok (.if_icmp .ge 83, 3) := by decide +kernel
theorem dM_times_46 : decode cM_times 46 = .ok (.lload 5, 2) := by decide +kernel
theorem dM_times_48 : decode cM_times 48 = .ok (.lconst 0, 1) := by decide +kernel
theorem dM_times_49 : decode cM_times 49 = .ok (.lcmp, 1) := by decide +kernel
theorem dM_times_50 : decode cM_times 50 = .ok (.ifCond .eq 76, 3) := by decide +kernel
theorem dM_times_53 : decode cM_times 53 = .ok (.lload 5, 2) := by decide +kernel
theorem dM_times_55 : decode cM_times 55 = .ok (.aload_n 0, 1) := by decide +kernel
theorem dM_times_56 : decode cM_times 56 = .ok (.getfield 7, 3) := by decide +kernel
theorem dM_times_59 : decode cM_times 59 = .ok (.bipush 40, 2) := by decide +kernel
theorem dM_times_61 : decode cM_times 61 = .ok (.iload_n 2, 1) := by decide +kernel
theorem dM_times_62 : decode cM_times 62 = .ok (.imul, 1) := by decide +kernel
theorem dM_times_63 : decode cM_times 63 = .ok (.iload 9, 2) := by decide +kernel
theorem dM_times_65 : decode cM_times 65 = .ok (.iadd, 1) := by decide +kernel
theorem dM_times_66 : decode cM_times 66 = .ok (.iaload, 1) := by decide +kernel
theorem dM_times_67 : decode cM_times 67 = .ok (.i2l, 1) := by decide +kernel
theorem dM_times_68 : decode cM_times 68 = .ok (.lmul, 1) := by decide +kernel
theorem dM_times_69 : decode cM_times 69 = .ok (.aload_n 0, 1) := by decide +kernel
theorem dM_times_70 : decode cM_times 70 = .ok (.getfield 7, 3) := by decide +kernel
theorem dM_times_73 : decode cM_times 73 = .ok (.bipush 40, 2) := by decide +kernel
theorem dM_times_75 : decode cM_times 75 = .ok (.iload_n 3, 1) := by decide +kernel
theorem dM_times_76 : decode cM_times 76 = .ok (.imul, 1) := by decide +kernel
theorem dM_times_77 : decode cM_times 77 = .ok (.iload 4, 2) := by decide +kernel
theorem dM_times_79 : decode cM_times 79 = .ok (.iadd, 1) := by decide +kernel
theorem dM_times_80 : decode cM_times 80 = .ok (.iload 9, 2) := by decide +kernel
theorem dM_times_82 : decode cM_times 82 = .ok (.iadd, 1) := by decide +kernel
theorem dM_times_83 : decode cM_times 83 = .ok (.iaload, 1) := by decide +kernel
theorem dM_times_84 : decode cM_times 84 = .ok (.i2l, 1) := by decide +kernel
theorem dM_times_85 : decode cM_times 85 = .ok (.ladd, 1) := by decide +kernel
theorem dM_times_86 : decode cM_times 86 = .ok (.lload 7, 2) := by decide +kernel
theorem dM_times_88 : decode cM_times 88 = .ok (.ladd, 1) := by decide +kernel
theorem dM_times_89 : decode cM_times 89 = .ok (.lstore 10, 2) := by decide +kernel
theorem dM_times_91 : decode cM_times 91 = .ok (.aload_n 0, 1) := by decide +kernel
theorem dM_times_92 : decode cM_times 92 = .ok (.getfield 7, 3) := by decide +kernel
theorem dM_times_95 : decode cM_times 95 = .ok (.bipush 40, 2) := by decide +kernel
theorem dM_times_97 : decode cM_times 97 = .ok (.iload_n 3, 1) := by decide +kernel
theorem dM_times_98 : decode cM_times 98 = .ok (.imul, 1) := by decide +kernel
theorem dM_times_99 : decode cM_times 99 = .ok (.iload 4, 2) := by decide +kernel
theorem dM_times_101 : decode cM_times 101 = .ok (.iadd, 1) := by decide +kernel
theorem dM_times_102 : decode cM_times 102 = .ok (.iload 9, 2) := by decide +kernel
theorem dM_times_104 : decode cM_times 104 = .ok (.iadd, 1) := by decide +kernel
theorem dM_times_105 : decode cM_times 105 = .ok (.lload 10, 2) := by decide +kernel
theorem dM_times_107 : decode cM_times 107 = .ok (.ldc2_w 29, 3) := by decide +kernel
theorem dM_times_110 : decode cM_times 110 = .ok (.land, 1) := by decide +kernel
theorem dM_times_111 : decode cM_times 111 = .ok (.l2i, 1) := by decide +kernel
theorem dM_times_112 : decode cM_times 112 = .ok (.iastore, 1) := by decide +kernel
theorem dM_times_113 : decode cM_times 113 = .ok (.lload 10, 2) := by decide +kernel
theorem dM_times_115 : decode cM_times 115 = .ok (.bipush 16, 2) := by decide +kernel
theorem dM_times_117 : decode cM_times 117 = .ok (.lshr, 1) := by decide +kernel
theorem dM_times_118 : decode cM_times 118 = .ok (.lstore 7, 2) := by decide +kernel
theorem dM_times_120 : decode cM_times 120 = .ok (.iinc 9 1, 3) := by decide +kernel
theorem dM_times_123 : decode cM_times 123 = .ok (.goto (-87), 3) := by decide +kernel
theorem dM_times_126 : decode cM_times 126 = .ok (.iinc 4 1, 3) := by decide +kernel
theorem dM_times_129 : decode cM_times 129 = .ok (.goto (-121), 3) := by decide +kernel
theorem dM_times_132 : decode cM_times 132 = .ok (.return_, 1) := by decide +kernel
def yM_raise : MethodName := ⟨RM, "raise", "(II)V"⟩
abbrev cM_raise : ByteArray := prog_5_method_11_code
theorem dM_raise_0 : decode cM_raise 0 = .ok (.iload_n 2, 1) := by decide +kernel
theorem dM_raise_1 : decode cM_raise 1 = .ok (.bipush 16, 2) := by decide +kernel
theorem dM_raise_3 : decode cM_raise 3 = .ok (.idiv, 1) := by decide +kernel
theorem dM_raise_4 : decode cM_raise 4 = .ok (.istore_n 3, 1) := by decide +kernel
theorem dM_raise_5 : decode cM_raise 5 = .ok (.iload_n 2, 1) := by decide +kernel
theorem dM_raise_6 : decode cM_raise 6 = .ok (.bipush 16, 2) := by decide +kernel
theorem dM_raise_8 : decode cM_raise 8 = .ok (.irem, 1) := by decide +kernel
theorem dM_raise_9 : decode cM_raise 9 = .ok (.istore 4, 2) := by decide +kernel
theorem dM_raise_11 : decode cM_raise 11 = .ok (.bipush 39, 2) := by decide +kernel
theorem dM_raise_13 : decode cM_raise 13 = .ok (.istore 5, 2) := by decide +kernel
theorem dM_raise_15 : decode cM_raise 15 = .ok (.iload 5, 2) := by decide +kernel
theorem dM_raise_17 : decode cM_raise 17 = .ok (.ifCond .lt 96, 3) := by decide +kernel
theorem dM_raise_20 : decode cM_raise 20 = .ok (.iload 5, 2) := by decide +kernel
theorem dM_raise_22 : decode cM_raise 22 = .ok (.iload_n 3, 1) := by decide +kernel
theorem dM_raise_23 : decode cM_raise 23 = .ok (.isub, 1) := by decide +kernel
theorem dM_raise_24 : decode cM_raise 24 = .ok (.ifCond .lt 20, 3) := by decide +kernel
theorem dM_raise_27 : decode cM_raise 27 = .ok (.aload_n 0, 1) := by decide +kernel
theorem dM_raise_28 : decode cM_raise 28 = .ok (.getfield 7, 3) := by decide +kernel
theorem dM_raise_31 : decode cM_raise 31 = .ok (.bipush 40, 2) := by decide +kernel
theorem dM_raise_33 : decode cM_raise 33 = .ok (.iload_n 1, 1) := by decide +kernel
theorem dM_raise_34 : decode cM_raise 34 = .ok (.imul, 1) := by decide +kernel
theorem dM_raise_35 : decode cM_raise 35 = .ok (.iload 5, 2) := by decide +kernel
theorem dM_raise_37 : decode cM_raise 37 = .ok (.iadd, 1) := by decide +kernel
theorem dM_raise_38 : decode cM_raise 38 = .ok (.iload_n 3, 1) := by decide +kernel
theorem dM_raise_39 : decode cM_raise 39 = .ok (.isub, 1) := by decide +kernel
theorem dM_raise_40 : decode cM_raise 40 = .ok (.iaload, 1) := by decide +kernel
theorem dM_raise_41 : decode cM_raise 41 = .ok (.goto 4, 3) := by decide +kernel
theorem dM_raise_44 : decode cM_raise 44 = .ok (.iconst 0, 1) := by decide +kernel
theorem dM_raise_45 : decode cM_raise 45 = .ok (.istore 6, 2) := by decide +kernel
theorem dM_raise_47 : decode cM_raise 47 = .ok (.iload 5, 2) := by decide +kernel
theorem dM_raise_49 : decode cM_raise 49 = .ok (.iload_n 3, 1) := by decide +kernel
theorem dM_raise_50 : decode cM_raise 50 = .ok (.isub, 1) := by decide +kernel
theorem dM_raise_51 : decode cM_raise 51 = .ok (.iconst 1, 1) := by decide +kernel
theorem dM_raise_52 : decode cM_raise 52 = .ok (.isub, 1) := by decide +kernel
theorem dM_raise_53 : decode cM_raise 53 = .ok (.ifCond .lt 22, 3) := by decide +kernel
theorem dM_raise_56 : decode cM_raise 56 = .ok (.aload_n 0, 1) := by decide +kernel
theorem dM_raise_57 : decode cM_raise 57 = .ok (.getfield 7, 3) := by decide +kernel
theorem dM_raise_60 : decode cM_raise 60 = .ok (.bipush 40, 2) := by decide +kernel
theorem dM_raise_62 : decode cM_raise 62 = .ok (.iload_n 1, 1) := by decide +kernel
theorem dM_raise_63 : decode cM_raise 63 = .ok (.imul, 1) := by decide +kernel
theorem dM_raise_64 : decode cM_raise 64 = .ok (.iload 5, 2) := by decide +kernel
theorem dM_raise_66 : decode cM_raise 66 = .ok (.iadd, 1) := by decide +kernel
theorem dM_raise_67 : decode cM_raise 67 = .ok (.iload_n 3, 1) := by decide +kernel
theorem dM_raise_68 : decode cM_raise 68 = .ok (.isub, 1) := by decide +kernel
theorem dM_raise_69 : decode cM_raise 69 = .ok (.iconst 1, 1) := by decide +kernel
theorem dM_raise_70 : decode cM_raise 70 = .ok (.isub, 1) := by decide +kernel
theorem dM_raise_71 : decode cM_raise 71 = .ok (.iaload, 1) := by decide +kernel
theorem dM_raise_72 : decode cM_raise 72 = .ok (.goto 4, 3) := by decide +kernel
theorem dM_raise_75 : decode cM_raise 75 = .ok (.iconst 0, 1) := by decide +kernel
theorem dM_raise_76 : decode cM_raise 76 = .ok (.istore 7, 2) := by decide +kernel
theorem dM_raise_78 : decode cM_raise 78 = .ok (.aload_n 0, 1) := by decide +kernel
theorem dM_raise_79 : decode cM_raise 79 = .ok (.getfield 7, 3) := by decide +kernel
theorem dM_raise_82 : decode cM_raise 82 = .ok (.bipush 40, 2) := by decide +kernel
theorem dM_raise_84 : decode cM_raise 84 = .ok (.iload_n 1, 1) := by decide +kernel
theorem dM_raise_85 : decode cM_raise 85 = .ok (.imul, 1) := by decide +kernel
theorem dM_raise_86 : decode cM_raise 86 = .ok (.iload 5, 2) := by decide +kernel
theorem dM_raise_88 : decode cM_raise 88 = .ok (.iadd, 1) := by decide +kernel
theorem dM_raise_89 : decode cM_raise 89 = .ok (.iload 6, 2) := by decide +kernel
theorem dM_raise_91 : decode cM_raise 91 = .ok (.iload 4, 2) := by decide +kernel
theorem dM_raise_93 : decode cM_raise 93 = .ok (.ishl, 1) := by decide +kernel
theorem dM_raise_94 : decode cM_raise 94 = .ok (.iload 7, 2) := by decide +kernel
theorem dM_raise_96 : decode cM_raise 96 = .ok (.bipush 16, 2) := by decide +kernel
theorem dM_raise_98 : decode cM_raise 98 = .ok (.iload 4, 2) := by decide +kernel
theorem dM_raise_100 : decode cM_raise 100 = .ok (.isub, 1) := by decide +kernel
theorem dM_raise_101 : decode cM_raise 101 = .ok (.ishr, 1) := by decide +kernel
theorem dM_raise_102 : decode cM_raise 102 = .ok (.ior, 1) := by decide +kernel
theorem dM_raise_103 : decode cM_raise 103 = .ok (.ldc 24, 2) := by decide +kernel
theorem dM_raise_105 : decode cM_raise 105 = .ok (.iand, 1) := by decide +kernel
theorem dM_raise_106 : decode cM_raise 106 = .ok (.iastore, 1) := by decide +kernel
theorem dM_raise_107 : decode cM_raise 107 = .ok (.iinc 5 (-1), 3) := by decide +kernel
theorem dM_raise_110 : decode cM_raise 110 = .ok (.goto (-95), 3) := by decide +kernel
theorem dM_raise_113 : decode cM_raise 113 = .ok (.return_, 1) := by decide +kernel
def yM_lower : MethodName := ⟨RM, "lower", "(II)V"⟩
abbrev cM_lower : ByteArray := prog_5_method_12_code
theorem dM_lower_0 : decode cM_lower 0 = .ok (.iload_n 2, 1) := by decide +kernel
theorem dM_lower_1 : decode cM_lower 1 = .ok (.bipush 16, 2) := by decide +kernel
theorem dM_lower_3 : decode cM_lower 3 = .ok (.idiv, 1) := by decide +kernel
theorem dM_lower_4 : decode cM_lower 4 = .ok (.istore_n 3, 1) := by decide +kernel
theorem dM_lower_5 : decode cM_lower 5 = .ok (.iload_n 2, 1) := by decide +kernel
theorem dM_lower_6 : decode cM_lower 6 = .ok (.bipush 16, 2) := by decide +kernel
theorem dM_lower_8 : decode cM_lower 8 = .ok (.irem, 1) := by decide +kernel
theorem dM_lower_9 : decode cM_lower 9 = .ok (.istore 4, 2) := by decide +kernel
theorem dM_lower_11 : decode cM_lower 11 = .ok (.iconst 0, 1) := by decide +kernel
theorem dM_lower_12 : decode cM_lower 12 = .ok (.istore 5, 2) := by decide +kernel
theorem dM_lower_14 : decode cM_lower 14 = .ok (.iload 5, 2) := by decide +kernel
theorem dM_lower_16 : decode cM_lower 16 = .ok (.bipush 40, 2) := by decide +kernel
theorem dM_lower_18 : decode cM_lower 18 = .ok (.if_icmp .ge 100, 3) := by decide +kernel
theorem dM_lower_21 : decode cM_lower 21 = .ok (.iload 5, 2) := by decide +kernel
theorem dM_lower_23 : decode cM_lower 23 = .ok (.iload_n 3, 1) := by decide +kernel
theorem dM_lower_24 : decode cM_lower 24 = .ok (.iadd, 1) := by decide +kernel
theorem dM_lower_25 : decode cM_lower 25 = .ok (.bipush 40, 2) := by decide +kernel
theorem dM_lower_27 : decode cM_lower 27 = .ok (.if_icmp .ge 20, 3) := by decide +kernel
theorem dM_lower_30 : decode cM_lower 30 = .ok (.aload_n 0, 1) := by decide +kernel
theorem dM_lower_31 : decode cM_lower 31 = .ok (.getfield 7, 3) := by decide +kernel
theorem dM_lower_34 : decode cM_lower 34 = .ok (.bipush 40, 2) := by decide +kernel
theorem dM_lower_36 : decode cM_lower 36 = .ok (.iload_n 1, 1) := by decide +kernel
theorem dM_lower_37 : decode cM_lower 37 = .ok (.imul, 1) := by decide +kernel
theorem dM_lower_38 : decode cM_lower 38 = .ok (.iload 5, 2) := by decide +kernel
theorem dM_lower_40 : decode cM_lower 40 = .ok (.iadd, 1) := by decide +kernel
theorem dM_lower_41 : decode cM_lower 41 = .ok (.iload_n 3, 1) := by decide +kernel
theorem dM_lower_42 : decode cM_lower 42 = .ok (.iadd, 1) := by decide +kernel
theorem dM_lower_43 : decode cM_lower 43 = .ok (.iaload, 1) := by decide +kernel
theorem dM_lower_44 : decode cM_lower 44 = .ok (.goto 4, 3) := by decide +kernel
theorem dM_lower_47 : decode cM_lower 47 = .ok (.iconst 0, 1) := by decide +kernel
theorem dM_lower_48 : decode cM_lower 48 = .ok (.istore 6, 2) := by decide +kernel
theorem dM_lower_50 : decode cM_lower 50 = .ok (.iload 5, 2) := by decide +kernel
theorem dM_lower_52 : decode cM_lower 52 = .ok (.iload_n 3, 1) := by decide +kernel
theorem dM_lower_53 : decode cM_lower 53 = .ok (.iadd, 1) := by decide +kernel
theorem dM_lower_54 : decode cM_lower 54 = .ok (.iconst 1, 1) := by decide +kernel
theorem dM_lower_55 : decode cM_lower 55 = .ok (.iadd, 1) := by decide +kernel
theorem dM_lower_56 : decode cM_lower 56 = .ok (.bipush 40, 2) := by decide +kernel
theorem dM_lower_58 : decode cM_lower 58 = .ok (.if_icmp .ge 22, 3) := by decide +kernel
theorem dM_lower_61 : decode cM_lower 61 = .ok (.aload_n 0, 1) := by decide +kernel
theorem dM_lower_62 : decode cM_lower 62 = .ok (.getfield 7, 3) := by decide +kernel
theorem dM_lower_65 : decode cM_lower 65 = .ok (.bipush 40, 2) := by decide +kernel
theorem dM_lower_67 : decode cM_lower 67 = .ok (.iload_n 1, 1) := by decide +kernel
theorem dM_lower_68 : decode cM_lower 68 = .ok (.imul, 1) := by decide +kernel
theorem dM_lower_69 : decode cM_lower 69 = .ok (.iload 5, 2) := by decide +kernel
theorem dM_lower_71 : decode cM_lower 71 = .ok (.iadd, 1) := by decide +kernel
theorem dM_lower_72 : decode cM_lower 72 = .ok (.iload_n 3, 1) := by decide +kernel
theorem dM_lower_73 : decode cM_lower 73 = .ok (.iadd, 1) := by decide +kernel
theorem dM_lower_74 : decode cM_lower 74 = .ok (.iconst 1, 1) := by decide +kernel
theorem dM_lower_75 : decode cM_lower 75 = .ok (.iadd, 1) := by decide +kernel
theorem dM_lower_76 : decode cM_lower 76 = .ok (.iaload, 1) := by decide +kernel
theorem dM_lower_77 : decode cM_lower 77 = .ok (.goto 4, 3) := by decide +kernel
theorem dM_lower_80 : decode cM_lower 80 = .ok (.iconst 0, 1) := by decide +kernel
theorem dM_lower_81 : decode cM_lower 81 = .ok (.istore 7, 2) := by decide +kernel
theorem dM_lower_83 : decode cM_lower 83 = .ok (.aload_n 0, 1) := by decide +kernel
theorem dM_lower_84 : decode cM_lower 84 = .ok (.getfield 7, 3) := by decide +kernel
theorem dM_lower_87 : decode cM_lower 87 = .ok (.bipush 40, 2) := by decide +kernel
theorem dM_lower_89 : decode cM_lower 89 = .ok (.iload_n 1, 1) := by decide +kernel
theorem dM_lower_90 : decode cM_lower 90 = .ok (.imul, 1) := by decide +kernel
theorem dM_lower_91 : decode cM_lower 91 = .ok (.iload 5, 2) := by decide +kernel
theorem dM_lower_93 : decode cM_lower 93 = .ok (.iadd, 1) := by decide +kernel
theorem dM_lower_94 : decode cM_lower 94 = .ok (.iload 6, 2) := by decide +kernel
theorem dM_lower_96 : decode cM_lower 96 = .ok (.iload 4, 2) := by decide +kernel
theorem dM_lower_98 : decode cM_lower 98 = .ok (.ishr, 1) := by decide +kernel
theorem dM_lower_99 : decode cM_lower 99 = .ok (.iload 7, 2) := by decide +kernel
theorem dM_lower_101 : decode cM_lower 101 = .ok (.bipush 16, 2) := by decide +kernel
theorem dM_lower_103 : decode cM_lower 103 = .ok (.iload 4, 2) := by decide +kernel
theorem dM_lower_105 : decode cM_lower 105 = .ok (.isub, 1) := by decide +kernel
theorem dM_lower_106 : decode cM_lower 106 = .ok (.ishl, 1) := by decide +kernel
theorem dM_lower_107 : decode cM_lower 107 = .ok (.ior, 1) := by decide +kernel
theorem dM_lower_108 : decode cM_lower 108 = .ok (.ldc 24, 2) := by decide +kernel
theorem dM_lower_110 : decode cM_lower 110 = .ok (.iand, 1) := by decide +kernel
theorem dM_lower_111 : decode cM_lower 111 = .ok (.iastore, 1) := by decide +kernel
theorem dM_lower_112 : decode cM_lower 112 = .ok (.iinc 5 1, 3) := by decide +kernel
theorem dM_lower_115 : decode cM_lower 115 = .ok (.goto (-101), 3) := by decide +kernel
theorem dM_lower_118 : decode cM_lower 118 = .ok (.return_, 1) := by decide +kernel
def yM_bit : MethodName := ⟨RM, "bit", "(II)I"⟩
abbrev cM_bit : ByteArray := prog_5_method_13_code
theorem dM_bit_0 : decode cM_bit 0 = .ok (.aload_n 0, 1) := by decide +kernel
theorem dM_bit_1 : decode cM_bit 1 = .ok (.getfield 7, 3) := by decide +kernel
theorem dM_bit_4 : decode cM_bit 4 = .ok (.bipush 40, 2) := by decide +kernel
theorem dM_bit_6 : decode cM_bit 6 = .ok (.iload_n 1, 1) := by decide +kernel
theorem dM_bit_7 : decode cM_bit 7 = .ok (.imul, 1) := by decide +kernel
theorem dM_bit_8 : decode cM_bit 8 = .ok (.iload_n 2, 1) := by decide +kernel
theorem dM_bit_9 : decode cM_bit 9 = .ok (.bipush 16, 2) := by decide +kernel
theorem dM_bit_11 : decode cM_bit 11 = .ok (.idiv, 1) := by decide +kernel
theorem dM_bit_12 : decode cM_bit 12 = .ok (.iadd, 1) := by decide +kernel
theorem dM_bit_13 : decode cM_bit 13 = .ok (.iaload, 1) := by decide +kernel
theorem dM_bit_14 : decode cM_bit 14 = .ok (.iload_n 2, 1) := by decide +kernel
theorem dM_bit_15 : decode cM_bit 15 = .ok (.bipush 16, 2) := by decide +kernel
theorem dM_bit_17 : decode cM_bit 17 = .ok (.irem, 1) := by decide +kernel
theorem dM_bit_18 : decode cM_bit 18 = .ok (.ishr, 1) := by decide +kernel
theorem dM_bit_19 : decode cM_bit 19 = .ok (.iconst 1, 1) := by decide +kernel
theorem dM_bit_20 : decode cM_bit 20 = .ok (.iand, 1) := by decide +kernel
theorem dM_bit_21 : decode cM_bit 21 = .ok (.ireturn, 1) := by decide +kernel
def yM_setLong : MethodName := ⟨RM, "setLong", "(IJ)V"⟩
abbrev cM_setLong : ByteArray := prog_5_method_14_code
theorem dM_setLong_0 : decode cM_setLong 0 = .ok (.aload_n 0, 1) := by decide +kernel
theorem dM_setLong_1 : decode cM_setLong 1 = .ok (.iload_n 1, 1) := by decide +kernel
theorem dM_setLong_2 : decode cM_setLong 2 = .ok (.invokevirtual 25, 3) := by decide +kernel
theorem dM_setLong_5 : decode cM_setLong 5 = .ok (.iconst 0, 1) := by decide +kernel
theorem dM_setLong_6 : decode cM_setLong 6 = .ok (.istore 4, 2) := by decide +kernel
theorem dM_setLong_8 : decode cM_setLong 8 = .ok (.iload 4, 2) := by decide +kernel
theorem dM_setLong_10 : decode cM_setLong 10 = .ok (.iconst 4, 1) := by decide +kernel
theorem dM_setLong_11 : decode cM_setLong 11 = .ok (.if_icmp .ge 33, 3) := by decide +kernel
theorem dM_setLong_14 : decode cM_setLong 14 = .ok (.aload_n 0, 1) := by decide +kernel
theorem dM_setLong_15 : decode cM_setLong 15 = .ok (.getfield 7, 3) := by decide +kernel
theorem dM_setLong_18 : decode cM_setLong 18 = .ok (.bipush 40, 2) := by decide +kernel
theorem dM_setLong_20 : decode cM_setLong 20 = .ok (.iload_n 1, 1) := by decide +kernel
theorem dM_setLong_21 : decode cM_setLong 21 = .ok (.imul, 1) := by decide +kernel
theorem dM_setLong_22 : decode cM_setLong 22 = .ok (.iload 4, 2) := by decide +kernel
theorem dM_setLong_24 : decode cM_setLong 24 = .ok (.iadd, 1) := by decide +kernel
theorem dM_setLong_25 : decode cM_setLong 25 = .ok (.lload_n 2, 1) := by decide +kernel
theorem dM_setLong_26 : decode cM_setLong 26 = .ok (.bipush 16, 2) := by decide +kernel
theorem dM_setLong_28 : decode cM_setLong 28 = .ok (.iload 4, 2) := by decide +kernel
theorem dM_setLong_30 : decode cM_setLong 30 = .ok (.imul, 1) := by decide +kernel
theorem dM_setLong_31 : decode cM_setLong 31 = .ok (.lshr, 1) := by decide +kernel
theorem dM_setLong_32 : decode cM_setLong 32 = .ok (.ldc2_w 29, 3) := by decide +kernel
theorem dM_setLong_35 : decode cM_setLong 35 = .ok (.land, 1) := by decide +kernel
theorem dM_setLong_36 : decode cM_setLong 36 = .ok (.l2i, 1) := by decide +kernel
theorem dM_setLong_37 : decode cM_setLong 37 = .ok (.iastore, 1) := by decide +kernel
theorem dM_setLong_38 : decode cM_setLong 38 = .ok (.iinc 4 1, 3) := by decide +kernel
theorem dM_setLong_41 : decode cM_setLong 41 = .ok (.goto (-33), 3) := by decide +kernel
theorem dM_setLong_44 : decode cM_setLong 44 = .ok (.return_, 1) := by decide +kernel
def yM_value : MethodName := ⟨RM, "value", "(IJII)V"⟩
abbrev cM_value : ByteArray := prog_5_method_15_code
theorem dM_value_0 : decode cM_value 0 = .ok (.iload 4, 2) := by decide +kernel
theorem dM_value_2 : decode cM_value 2 = .ok (.iconst 2, 1) := by decide +kernel
theorem dM_value_3 : decode cM_value 3 = .ok (.isub, 1) := by decide +kernel
theorem dM_value_4 : decode cM_value 4 = .ok (.istore 6, 2) := by decide +kernel
theorem dM_value_6 : decode cM_value 6 = .ok (.lload_n 2, 1) := by decide +kernel
theorem dM_value_7 : decode cM_value 7 = .ok (.iload 6, 2) := by decide +kernel
theorem dM_value_9 : decode cM_value 9 = .ok (.lshr, 1) := by decide +kernel
theorem dM_value_10 : decode cM_value 10 = .ok (.lconst 1, 1) := by decide +kernel
theorem dM_value_11 : decode cM_value 11 = .ok (.land, 1) := by decide +kernel
theorem dM_value_12 : decode cM_value 12 = .ok (.lstore 7, 2) := by decide +kernel
theorem dM_value_14 : decode cM_value 14 = .ok (.iconst 0, 1) := by decide +kernel
theorem dM_value_15 : decode cM_value 15 = .ok (.istore 9, 2) := by decide +kernel
theorem dM_value_17 : decode cM_value 17 = .ok (.iload 6, 2) := by decide +kernel
theorem dM_value_19 : decode cM_value 19 = .ok (.ifCond .lt 24, 3) := by decide +kernel
theorem dM_value_22 : decode cM_value 22 = .ok (.lload_n 2, 1) := by decide +kernel
theorem dM_value_23 : decode cM_value 23 = .ok (.iload 6, 2) := by decide +kernel
theorem dM_value_25 : decode cM_value 25 = .ok (.lshr, 1) := by decide +kernel
theorem dM_value_26 : decode cM_value 26 = .ok (.lconst 1, 1) := by decide +kernel
theorem dM_value_27 : decode cM_value 27 = .ok (.land, 1) := by decide +kernel
theorem dM_value_28 : decode cM_value 28 = .ok (.lload 7, 2) := by decide +kernel
theorem dM_value_30 : decode cM_value 30 = .ok (.lcmp, 1) := by decide +kernel
theorem dM_value_31 : decode cM_value 31 = .ok (.ifCond .ne 12, 3) := by decide +kernel
theorem dM_value_34 : decode cM_value 34 = .ok (.iinc 9 1, 3) := by decide +kernel
theorem dM_value_37 : decode cM_value 37 = .ok (.iinc 6 (-1), 3) := by decide +kernel
theorem dM_value_40 : decode cM_value 40 = .ok (.goto (-23), 3) := by decide +kernel
theorem dM_value_43 : decode cM_value 43 = .ok (.lload 7, 2) := by decide +kernel
theorem dM_value_45 : decode cM_value 45 = .ok (.lconst 1, 1) := by decide +kernel
theorem dM_value_46 : decode cM_value 46 = .ok (.lcmp, 1) := by decide +kernel
theorem dM_value_47 : decode cM_value 47 = .ok (.ifCond .ne 10, 3) := by decide +kernel
theorem dM_value_50 : decode cM_value 50 = .ok (.iload 9, 2) := by decide +kernel
theorem dM_value_52 : decode cM_value 52 = .ok (.iconst 1, 1) := by decide +kernel
theorem dM_value_53 : decode cM_value 53 = .ok (.isub, 1) := by decide +kernel
theorem dM_value_54 : decode cM_value 54 = .ok (.goto 6, 3) := by decide +kernel
theorem dM_value_57 : decode cM_value 57 = .ok (.iload 9, 2) := by decide +kernel
theorem dM_value_59 : decode cM_value 59 = .ok (.ineg, 1) := by decide +kernel
theorem dM_value_60 : decode cM_value 60 = .ok (.istore 10, 2) := by decide +kernel
theorem dM_value_62 : decode cM_value 62 = .ok (.iinc 6 (-1), 3) := by decide +kernel
theorem dM_value_65 : decode cM_value 65 = .ok (.iload 6, 2) := by decide +kernel
theorem dM_value_67 : decode cM_value 67 = .ok (.ifCond .lt 15, 3) := by decide +kernel
theorem dM_value_70 : decode cM_value 70 = .ok (.iconst 2, 1) := by decide +kernel
theorem dM_value_71 : decode cM_value 71 = .ok (.lload_n 2, 1) := by decide +kernel
theorem dM_value_72 : decode cM_value 72 = .ok (.iload 6, 2) := by decide +kernel
theorem dM_value_74 : decode cM_value 74 = .ok (.lshr, 1) := by decide +kernel
theorem dM_value_75 : decode cM_value 75 = .ok (.lconst 1, 1) := by decide +kernel
theorem dM_value_76 : decode cM_value 76 = .ok (.land, 1) := by decide +kernel
theorem dM_value_77 : decode cM_value 77 = .ok (.l2i, 1) := by decide +kernel
theorem dM_value_78 : decode cM_value 78 = .ok (.imul, 1) := by decide +kernel
theorem dM_value_79 : decode cM_value 79 = .ok (.goto 4, 3) := by decide +kernel
theorem dM_value_82 : decode cM_value 82 = .ok (.iconst 0, 1) := by decide +kernel
theorem dM_value_83 : decode cM_value 83 = .ok (.iload 6, 2) := by decide +kernel
theorem dM_value_85 : decode cM_value 85 = .ok (.iconst 1, 1) := by decide +kernel
theorem dM_value_86 : decode cM_value 86 = .ok (.if_icmp .lt 15, 3) := by decide +kernel
theorem dM_value_89 : decode cM_value 89 = .ok (.lload_n 2, 1) := by decide +kernel
theorem dM_value_90 : decode cM_value 90 = .ok (.iload 6, 2) := by decide +kernel
theorem dM_value_92 : decode cM_value 92 = .ok (.iconst 1, 1) := by decide +kernel
theorem dM_value_93 : decode cM_value 93 = .ok (.isub, 1) := by decide +kernel
theorem dM_value_94 : decode cM_value 94 = .ok (.lshr, 1) := by decide +kernel
theorem dM_value_95 : decode cM_value 95 = .ok (.lconst 1, 1) := by decide +kernel
theorem dM_value_96 : decode cM_value 96 = .ok (.land, 1) := by decide +kernel
theorem dM_value_97 : decode cM_value 97 = .ok (.l2i, 1) := by decide +kernel
theorem dM_value_98 : decode cM_value 98 = .ok (.goto 4, 3) := by decide +kernel
theorem dM_value_101 : decode cM_value 101 = .ok (.iconst 0, 1) := by decide +kernel
theorem dM_value_102 : decode cM_value 102 = .ok (.iadd, 1) := by decide +kernel
theorem dM_value_103 : decode cM_value 103 = .ok (.istore 11, 2) := by decide +kernel
theorem dM_value_105 : decode cM_value 105 = .ok (.iinc 6 (-2), 3) := by decide +kernel
theorem dM_value_108 : decode cM_value 108 = .ok (.iload 6, 2) := by decide +kernel
theorem dM_value_110 : decode cM_value 110 = .ok (.ifCond .lt 10, 3) := by decide +kernel
theorem dM_value_113 : decode cM_value 113 = .ok (.iload 6, 2) := by decide +kernel
theorem dM_value_115 : decode cM_value 115 = .ok (.iconst 1, 1) := by decide +kernel
theorem dM_value_116 : decode cM_value 116 = .ok (.iadd, 1) := by decide +kernel
theorem dM_value_117 : decode cM_value 117 = .ok (.goto 4, 3) := by decide +kernel
theorem dM_value_120 : decode cM_value 120 = .ok (.iconst 0, 1) := by decide +kernel
theorem dM_value_121 : decode cM_value 121 = .ok (.istore 12, 2) := by decide +kernel
theorem dM_value_123 : decode cM_value 123 = .ok (.aload_n 0, 1) := by decide +kernel
theorem dM_value_124 : decode cM_value 124 = .ok (.iload_n 1, 1) := by decide +kernel
theorem dM_value_125 : decode cM_value 125 = .ok (.lconst 1, 1) := by decide +kernel
theorem dM_value_126 : decode cM_value 126 = .ok (.iload 12, 2) := by decide +kernel
theorem dM_value_128 : decode cM_value 128 = .ok (.lshl, 1) := by decide +kernel
theorem dM_value_129 : decode cM_value 129 = .ok (.lload_n 2, 1) := by decide +kernel
theorem dM_value_130 : decode cM_value 130 = .ok (.lconst 1, 1) := by decide +kernel
theorem dM_value_131 : decode cM_value 131 = .ok (.iload 12, 2) := by decide +kernel
theorem dM_value_133 : decode cM_value 133 = .ok (.lshl, 1) := by decide +kernel
theorem dM_value_134 : decode cM_value 134 = .ok (.lconst 1, 1) := by decide +kernel
theorem dM_value_135 : decode cM_value 135 = .ok (.lsub, 1) := by decide +kernel
theorem dM_value_136 : decode cM_value 136 = .ok (.land, 1) := by decide +kernel
theorem dM_value_137 : decode cM_value 137 = .ok (.ladd, 1) := by decide +kernel
theorem dM_value_138 : decode cM_value 138 = .ok (.invokevirtual 31, 3) := by decide +kernel
theorem dM_value_141 : decode cM_value 141 = .ok (.iconst 4, 1) := by decide +kernel
theorem dM_value_142 : decode cM_value 142 = .ok (.iload 10, 2) := by decide +kernel
theorem dM_value_144 : decode cM_value 144 = .ok (.imul, 1) := by decide +kernel
theorem dM_value_145 : decode cM_value 145 = .ok (.iload 11, 2) := by decide +kernel
theorem dM_value_147 : decode cM_value 147 = .ok (.iadd, 1) := by decide +kernel
theorem dM_value_148 : decode cM_value 148 = .ok (.iload 12, 2) := by decide +kernel
theorem dM_value_150 : decode cM_value 150 = .ok (.isub, 1) := by decide +kernel
theorem dM_value_151 : decode cM_value 151 = .ok (.iload 5, 2) := by decide +kernel
theorem dM_value_153 : decode cM_value 153 = .ok (.iadd, 1) := by decide +kernel
theorem dM_value_154 : decode cM_value 154 = .ok (.istore 13, 2) := by decide +kernel
theorem dM_value_156 : decode cM_value 156 = .ok (.iload 13, 2) := by decide +kernel
theorem dM_value_158 : decode cM_value 158 = .ok (.ifCond .lt 13, 3) := by decide +kernel
theorem dM_value_161 : decode cM_value 161 = .ok (.aload_n 0, 1) := by decide +kernel
theorem dM_value_162 : decode cM_value 162 = .ok (.iload_n 1, 1) := by decide +kernel
theorem dM_value_163 : decode cM_value 163 = .ok (.iload 13, 2) := by decide +kernel
theorem dM_value_165 : decode cM_value 165 = .ok (.invokevirtual 35, 3) := by decide +kernel
theorem dM_value_168 : decode cM_value 168 = .ok (.goto 11, 3) := by decide +kernel
theorem dM_value_171 : decode cM_value 171 = .ok (.aload_n 0, 1) := by decide +kernel
theorem dM_value_172 : decode cM_value 172 = .ok (.iload_n 1, 1) := by decide +kernel
theorem dM_value_173 : decode cM_value 173 = .ok (.iload 13, 2) := by decide +kernel
theorem dM_value_175 : decode cM_value 175 = .ok (.ineg, 1) := by decide +kernel
theorem dM_value_176 : decode cM_value 176 = .ok (.invokevirtual 39, 3) := by decide +kernel
theorem dM_value_179 : decode cM_value 179 = .ok (.return_, 1) := by decide +kernel
def yM_pattern : MethodName := ⟨RM, "pattern", "(I)I"⟩
abbrev cM_pattern : ByteArray := prog_5_method_16_code
theorem dM_pattern_0 : decode cM_pattern 0 = .ok (.aload_n 0, 1) := by decide +kernel
theorem dM_pattern_1 : decode cM_pattern 1 = .ok (.getfield 20, 3) := by decide +kernel
theorem dM_pattern_4 : decode cM_pattern 4 = .ok (.bipush 32, 2) := by decide +kernel
theorem dM_pattern_6 : decode cM_pattern 6 = .ok (.if_icmp .ne 7, 3) := by decide +kernel
theorem dM_pattern_9 : decode cM_pattern 9 = .ok (.iload_n 1, 1) := by decide +kernel
theorem dM_pattern_10 : decode cM_pattern 10 = .ok (.goto 19, 3) := by decide +kernel
theorem dM_pattern_13 : decode cM_pattern 13 = .ok (.aload_n 0, 1) := by decide +kernel
theorem dM_pattern_14 : decode cM_pattern 14 = .ok (.getfield 20, 3) := by decide +kernel
theorem dM_pattern_17 : decode cM_pattern 17 = .ok (.bipush 16, 2) := by decide +kernel
theorem dM_pattern_19 : decode cM_pattern 19 = .ok (.if_icmp .ne 8, 3) := by decide +kernel
theorem dM_pattern_22 : decode cM_pattern 22 = .ok (.iload_n 1, 1) := by decide +kernel
theorem dM_pattern_23 : decode cM_pattern 23 = .ok (.i2s, 1) := by decide +kernel
theorem dM_pattern_24 : decode cM_pattern 24 = .ok (.goto 5, 3) := by decide +kernel
theorem dM_pattern_27 : decode cM_pattern 27 = .ok (.iload_n 1, 1) := by decide +kernel
theorem dM_pattern_28 : decode cM_pattern 28 = .ok (.i2b, 1) := by decide +kernel
theorem dM_pattern_29 : decode cM_pattern 29 = .ok (.ireturn, 1) := by decide +kernel
def yM_not : MethodName := ⟨RM, "not", "(I)I"⟩
abbrev cM_not : ByteArray := prog_5_method_17_code
theorem dM_not_0 : decode cM_not 0 = .ok (.iconst (-1), 1) := by decide +kernel
theorem dM_not_1 : decode cM_not 1 = .ok (.iload_n 0, 1) := by decide +kernel
theorem dM_not_2 : decode cM_not 2 = .ok (.iconst 1, 1) := by decide +kernel
theorem dM_not_3 : decode cM_not 3 = .ok (.isub, 1) := by decide +kernel
theorem dM_not_4 : decode cM_not 4 = .ok (.ishl, 1) := by decide +kernel
theorem dM_not_5 : decode cM_not 5 = .ok (.ireturn, 1) := by decide +kernel
def yM_isNot : MethodName := ⟨RM, "isNot", "(I)Z"⟩
abbrev cM_isNot : ByteArray := prog_5_method_18_code
theorem dM_isNot_0 : decode cM_isNot 0 = .ok (.aload_n 0, 1) := by decide +kernel
theorem dM_isNot_1 : decode cM_isNot 1 = .ok (.iload_n 1, 1) := by decide +kernel
theorem dM_isNot_2 : decode cM_isNot 2 = .ok (.invokevirtual 42, 3) := by decide +kernel
theorem dM_isNot_5 : decode cM_isNot 5 = .ok (.aload_n 0, 1) := by decide +kernel
theorem dM_isNot_6 : decode cM_isNot 6 = .ok (.getfield 20, 3) := by decide +kernel
theorem dM_isNot_9 : decode cM_isNot 9 = .ok (.invokestatic 45, 3) := by decide +kernel
theorem dM_isNot_12 : decode cM_isNot 12 = .ok (.if_icmp .ne 7, 3) := by decide +kernel
theorem dM_isNot_15 : decode cM_isNot 15 = .ok (.iconst 1, 1) := by decide +kernel
theorem dM_isNot_16 : decode cM_isNot 16 = .ok (.goto 4, 3) := by decide +kernel
theorem dM_isNot_19 : decode cM_isNot 19 = .ok (.iconst 0, 1) := by decide +kernel
theorem dM_isNot_20 : decode cM_isNot 20 = .ok (.ireturn, 1) := by decide +kernel
def yM_negative : MethodName := ⟨RM, "negative", "(I)Z"⟩
abbrev cM_negative : ByteArray := prog_5_method_19_code
theorem dM_negative_0 : decode cM_negative 0 = .ok (.aload_n 0, 1) := by decide +kernel
theorem dM_negative_1 : decode cM_negative 1 = .ok (.iload_n 1, 1) := by decide +kernel
theorem dM_negative_2 : decode cM_negative 2 = .ok (.invokevirtual 42, 3) := by decide +kernel
theorem dM_negative_5 : decode cM_negative 5 = .ok (.ifCond .ge 7, 3) := by decide +kernel
theorem dM_negative_8 : decode cM_negative 8 = .ok (.iconst 1, 1) := by decide +kernel
theorem dM_negative_9 : decode cM_negative 9 = .ok (.goto 4, 3) := by decide +kernel
theorem dM_negative_12 : decode cM_negative 12 = .ok (.iconst 0, 1) := by decide +kernel
theorem dM_negative_13 : decode cM_negative 13 = .ok (.ireturn, 1) := by decide +kernel
def yM_load : MethodName := ⟨RM, "load", "(III)V"⟩
abbrev cM_load : ByteArray := prog_5_method_20_code
theorem dM_load_0 : decode cM_load 0 = .ok (.aload_n 0, 1) := by decide +kernel
theorem dM_load_1 : decode cM_load 1 = .ok (.iload_n 2, 1) := by decide +kernel
theorem dM_load_2 : decode cM_load 2 = .ok (.invokevirtual 42, 3) := by decide +kernel
theorem dM_load_5 : decode cM_load 5 = .ok (.i2l, 1) := by decide +kernel
theorem dM_load_6 : decode cM_load 6 = .ok (.lstore 4, 2) := by decide +kernel
theorem dM_load_8 : decode cM_load 8 = .ok (.lload 4, 2) := by decide +kernel
theorem dM_load_10 : decode cM_load 10 = .ok (.lconst 0, 1) := by decide +kernel
theorem dM_load_11 : decode cM_load 11 = .ok (.lcmp, 1) := by decide +kernel
theorem dM_load_12 : decode cM_load 12 = .ok (.ifCond .ne 11, 3) := by decide +kernel
theorem dM_load_15 : decode cM_load 15 = .ok (.aload_n 0, 1) := by decide +kernel
theorem dM_load_16 : decode cM_load 16 = .ok (.iload_n 1, 1) := by decide +kernel
theorem dM_load_17 : decode cM_load 17 = .ok (.invokevirtual 25, 3) := by decide +kernel
theorem dM_load_20 : decode cM_load 20 = .ok (.goto 28, 3) := by decide +kernel
theorem dM_load_23 : decode cM_load 23 = .ok (.aload_n 0, 1) := by decide +kernel
theorem dM_load_24 : decode cM_load 24 = .ok (.iload_n 1, 1) := by decide +kernel
theorem dM_load_25 : decode cM_load 25 = .ok (.lload 4, 2) := by decide +kernel
theorem dM_load_27 : decode cM_load 27 = .ok (.lconst 0, 1) := by decide +kernel
theorem dM_load_28 : decode cM_load 28 = .ok (.lcmp, 1) := by decide +kernel
theorem dM_load_29 : decode cM_load 29 = .ok (.ifCond .ge 9, 3) := by decide +kernel
theorem dM_load_32 : decode cM_load 32 = .ok (.lload 4, 2) := by decide +kernel
theorem dM_load_34 : decode cM_load 34 = .ok (.lneg, 1) := by decide +kernel
theorem dM_load_35 : decode cM_load 35 = .ok (.goto 5, 3) := by decide +kernel
theorem dM_load_38 : decode cM_load 38 = .ok (.lload 4, 2) := by decide +kernel
theorem dM_load_40 : decode cM_load 40 = .ok (.aload_n 0, 1) := by decide +kernel
theorem dM_load_41 : decode cM_load 41 = .ok (.getfield 20, 3) := by decide +kernel
theorem dM_load_44 : decode cM_load 44 = .ok (.iload_n 3, 1) := by decide +kernel
theorem dM_load_45 : decode cM_load 45 = .ok (.invokevirtual 48, 3) := by decide +kernel
theorem dM_load_48 : decode cM_load 48 = .ok (.return_, 1) := by decide +kernel
def yM_factor : MethodName := ⟨RM, "factor", "(I)V"⟩
abbrev cM_factor : ByteArray := prog_5_method_21_code
theorem dM_factor_0 : decode cM_factor 0 = .ok (.aload_n 0, 1) := by decide +kernel
theorem dM_factor_1 : decode cM_factor 1 = .ok (.iconst 0, 1) := by decide +kernel
theorem dM_factor_2 : decode cM_factor 2 = .ok (.putfield 52, 3) := by decide +kernel
theorem dM_factor_5 : decode cM_factor 5 = .ok (.aload_n 0, 1) := by decide +kernel
theorem dM_factor_6 : decode cM_factor 6 = .ok (.iconst 4, 1) := by decide +kernel
theorem dM_factor_7 : decode cM_factor 7 = .ok (.lconst 1, 1) := by decide +kernel
theorem dM_factor_8 : decode cM_factor 8 = .ok (.invokevirtual 31, 3) := by decide +kernel
theorem dM_factor_11 : decode cM_factor 11 = .ok (.aload_n 0, 1) := by decide +kernel
theorem dM_factor_12 : decode cM_factor 12 = .ok (.iconst 4, 1) := by decide +kernel
theorem dM_factor_13 : decode cM_factor 13 = .ok (.iload_n 1, 1) := by decide +kernel
theorem dM_factor_14 : decode cM_factor 14 = .ok (.invokevirtual 35, 3) := by decide +kernel
theorem dM_factor_17 : decode cM_factor 17 = .ok (.return_, 1) := by decide +kernel
def yM_against : MethodName := ⟨RM, "against", "(JI)I"⟩
abbrev cM_against : ByteArray := prog_5_method_22_code
theorem dM_against_0 : decode cM_against 0 = .ok (.aload_n 0, 1) := by decide +kernel
theorem dM_against_1 : decode cM_against 1 = .ok (.iconst 2, 1) := by decide +kernel
theorem dM_against_2 : decode cM_against 2 = .ok (.lload_n 1, 1) := by decide +kernel
theorem dM_against_3 : decode cM_against 3 = .ok (.iload_n 3, 1) := by decide +kernel
theorem dM_against_4 : decode cM_against 4 = .ok (.bipush 124, 2) := by decide +kernel
theorem dM_against_6 : decode cM_against 6 = .ok (.invokevirtual 48, 3) := by decide +kernel
theorem dM_against_9 : decode cM_against 9 = .ok (.aload_n 0, 1) := by decide +kernel
theorem dM_against_10 : decode cM_against 10 = .ok (.iconst 2, 1) := by decide +kernel
theorem dM_against_11 : decode cM_against 11 = .ok (.aload_n 0, 1) := by decide +kernel
theorem dM_against_12 : decode cM_against 12 = .ok (.getfield 52, 3) := by decide +kernel
theorem dM_against_15 : decode cM_against 15 = .ok (.ifCond .eq 7, 3) := by decide +kernel
theorem dM_against_18 : decode cM_against 18 = .ok (.iconst 2, 1) := by decide +kernel
theorem dM_against_19 : decode cM_against 19 = .ok (.goto 4, 3) := by decide +kernel
theorem dM_against_22 : decode cM_against 22 = .ok (.iconst 4, 1) := by decide +kernel
theorem dM_against_23 : decode cM_against 23 = .ok (.iconst 3, 1) := by decide +kernel
theorem dM_against_24 : decode cM_against 24 = .ok (.invokevirtual 56, 3) := by decide +kernel
theorem dM_against_27 : decode cM_against 27 = .ok (.aload_n 0, 1) := by decide +kernel
theorem dM_against_28 : decode cM_against 28 = .ok (.iconst 0, 1) := by decide +kernel
theorem dM_against_29 : decode cM_against 29 = .ok (.iconst 3, 1) := by decide +kernel
theorem dM_against_30 : decode cM_against 30 = .ok (.invokevirtual 60, 3) := by decide +kernel
theorem dM_against_33 : decode cM_against 33 = .ok (.ireturn, 1) := by decide +kernel
def yM_rounded : MethodName := ⟨RM, "rounded", "(ZI)I"⟩
abbrev cM_rounded : ByteArray := prog_5_method_23_code
theorem dM_rounded_0 : decode cM_rounded 0 = .ok (.aload_n 0, 1) := by decide +kernel
theorem dM_rounded_1 : decode cM_rounded 1 = .ok (.iconst 0, 1) := by decide +kernel
theorem dM_rounded_2 : decode cM_rounded 2 = .ok (.invokevirtual 64, 3) := by decide +kernel
theorem dM_rounded_5 : decode cM_rounded 5 = .ok (.ifCond .eq 5, 3) := by decide +kernel
theorem dM_rounded_8 : decode cM_rounded 8 = .ok (.iconst 0, 1) := by decide +kernel
theorem dM_rounded_9 : decode cM_rounded 9 = .ok (.ireturn, 1) := by decide +kernel
theorem dM_rounded_10 : decode cM_rounded 10 = .ok (.lconst 1, 1) := by decide +kernel
theorem dM_rounded_11 : decode cM_rounded 11 = .ok (.lstore_n 3, 1) := by decide +kernel
theorem dM_rounded_12 : decode cM_rounded 12 = .ok (.lconst 1, 1) := by decide +kernel
theorem dM_rounded_13 : decode cM_rounded 13 = .ok (.iload_n 2, 1) := by decide +kernel
theorem dM_rounded_14 : decode cM_rounded 14 = .ok (.iconst 1, 1) := by decide +kernel
theorem dM_rounded_15 : decode cM_rounded 15 = .ok (.isub, 1) := by decide +kernel
theorem dM_rounded_16 : decode cM_rounded 16 = .ok (.lshl, 1) := by decide +kernel
theorem dM_rounded_17 : decode cM_rounded 17 = .ok (.lconst 1, 1) := by decide +kernel
theorem dM_rounded_18 : decode cM_rounded 18 = .ok (.lsub, 1) := by decide +kernel
theorem dM_rounded_19 : decode cM_rounded 19 = .ok (.lstore 5, 2) := by decide +kernel
theorem dM_rounded_21 : decode cM_rounded 21 = .ok (.lload_n 3, 1) := by decide +kernel
theorem dM_rounded_22 : decode cM_rounded 22 = .ok (.lstore 7, 2) := by decide +kernel
theorem dM_rounded_24 : decode cM_rounded 24 = .ok (.aload_n 0, 1) := by decide +kernel
theorem dM_rounded_25 : decode cM_rounded 25 = .ok (.lload 5, 2) := by decide +kernel
theorem dM_rounded_27 : decode cM_rounded 27 = .ok (.iload_n 2, 1) := by decide +kernel
theorem dM_rounded_28 : decode cM_rounded 28 = .ok (.invokevirtual 68, 3) := by decide +kernel
theorem dM_rounded_31 : decode cM_rounded 31 = .ok (.ifCond .le 10, 3) := by decide +kernel
theorem dM_rounded_34 : decode cM_rounded 34 = .ok (.lload 5, 2) := by decide +kernel
theorem dM_rounded_36 : decode cM_rounded 36 = .ok (.lstore 7, 2) := by decide +kernel
theorem dM_rounded_38 : decode cM_rounded 38 = .ok (.goto 118, 3) := by decide +kernel
theorem dM_rounded_41 : decode cM_rounded 41 = .ok (.aload_n 0, 1) := by decide +kernel
theorem dM_rounded_42 : decode cM_rounded 42 = .ok (.lload_n 3, 1) := by decide +kernel
theorem dM_rounded_43 : decode cM_rounded 43 = .ok (.iload_n 2, 1) := by decide +kernel
theorem dM_rounded_44 : decode cM_rounded 44 = .ok (.invokevirtual 68, 3) := by decide +kernel
theorem dM_rounded_47 : decode cM_rounded 47 = .ok (.ifCond .lt 109, 3) := by decide +kernel
theorem dM_rounded_50 : decode cM_rounded 50 = .ok (.lload_n 3, 1) := by decide +kernel
theorem dM_rounded_51 : decode cM_rounded 51 = .ok (.lload 5, 2) := by decide +kernel
theorem dM_rounded_53 : decode cM_rounded 53 = .ok (.lcmp, 1) := by decide +kernel
theorem dM_rounded_54 : decode cM_rounded 54 = .ok (.ifCond .ge 40, 3) := by decide +kernel
theorem dM_rounded_57 : decode cM_rounded 57 = .ok (.lload_n 3, 1) := by decide +kernel
theorem dM_rounded_58 : decode cM_rounded 58 = .ok (.lload 5, 2) := by decide +kernel
theorem dM_rounded_60 : decode cM_rounded 60 = .ok (.ladd, 1) := by decide +kernel
theorem dM_rounded_61 : decode cM_rounded 61 = .ok (.lconst 1, 1) := by decide +kernel
theorem dM_rounded_62 : decode cM_rounded 62 = .ok (.ladd, 1) := by decide +kernel
theorem dM_rounded_63 : decode cM_rounded 63 = .ok (.ldc2_w 72, 3) := by decide +kernel
theorem dM_rounded_66 : decode cM_rounded 66 = .ok (.ldiv, 1) := by decide +kernel
theorem dM_rounded_67 : decode cM_rounded 67 = .ok (.lstore 9, 2) := by decide +kernel
theorem dM_rounded_69 : decode cM_rounded 69 = .ok (.aload_n 0, 1) := by decide +kernel
theorem dM_rounded_70 : decode cM_rounded 70 = .ok (.lload 9, 2) := by decide +kernel
theorem dM_rounded_72 : decode cM_rounded 72 = .ok (.iload_n 2, 1) := by decide +kernel
theorem dM_rounded_73 : decode cM_rounded 73 = .ok (.invokevirtual 68, 3) := by decide +kernel
theorem dM_rounded_76 : decode cM_rounded 76 = .ok (.ifCond .lt 9, 3) := by decide +kernel
theorem dM_rounded_79 : decode cM_rounded 79 = .ok (.lload 9, 2) := by decide +kernel
theorem dM_rounded_81 : decode cM_rounded 81 = .ok (.lstore_n 3, 1) := by decide +kernel
theorem dM_rounded_82 : decode cM_rounded 82 = .ok (.goto 9, 3) := by decide +kernel
theorem dM_rounded_85 : decode cM_rounded 85 = .ok (.lload 9, 2) := by decide +kernel
theorem dM_rounded_87 : decode cM_rounded 87 = .ok (.lconst 1, 1) := by decide +kernel
theorem dM_rounded_88 : decode cM_rounded 88 = .ok (.lsub, 1) := by decide +kernel
theorem dM_rounded_89 : decode cM_rounded 89 = .ok (.lstore 5, 2) := by decide +kernel
theorem dM_rounded_91 : decode cM_rounded 91 = .ok (.goto (-41), 3) := by decide +kernel
theorem dM_rounded_94 : decode cM_rounded 94 = .ok (.lload_n 3, 1) := by decide +kernel
theorem dM_rounded_95 : decode cM_rounded 95 = .ok (.lstore 7, 2) := by decide +kernel
theorem dM_rounded_97 : decode cM_rounded 97 = .ok (.aload_n 0, 1) := by decide +kernel
theorem dM_rounded_98 : decode cM_rounded 98 = .ok (.lload 7, 2) := by decide +kernel
theorem dM_rounded_100 : decode cM_rounded 100 = .ok (.iload_n 2, 1) := by decide +kernel
theorem dM_rounded_101 : decode cM_rounded 101 = .ok (.invokevirtual 68, 3) := by decide +kernel
theorem dM_rounded_104 : decode cM_rounded 104 = .ok (.ifCond .eq 52, 3) := by decide +kernel
theorem dM_rounded_107 : decode cM_rounded 107 = .ok (.aload_n 0, 1) := by decide +kernel
theorem dM_rounded_108 : decode cM_rounded 108 = .ok (.ldc2_w 72, 3) := by decide +kernel
theorem dM_rounded_111 : decode cM_rounded 111 = .ok (.lload 7, 2) := by decide +kernel
theorem dM_rounded_113 : decode cM_rounded 113 = .ok (.lmul, 1) := by decide +kernel
theorem dM_rounded_114 : decode cM_rounded 114 = .ok (.lconst 1, 1) := by decide +kernel
theorem dM_rounded_115 : decode cM_rounded 115 = .ok (.ladd, 1) := by decide +kernel
theorem dM_rounded_116 : decode cM_rounded 116 = .ok (.iload_n 2, 1) := by decide +kernel
theorem dM_rounded_117 : decode cM_rounded 117 = .ok (.iconst 1, 1) := by decide +kernel
theorem dM_rounded_118 : decode cM_rounded 118 = .ok (.iadd, 1) := by decide +kernel
theorem dM_rounded_119 : decode cM_rounded 119 = .ok (.invokevirtual 68, 3) := by decide +kernel
theorem dM_rounded_122 : decode cM_rounded 122 = .ok (.istore 9, 2) := by decide +kernel
theorem dM_rounded_124 : decode cM_rounded 124 = .ok (.iload 9, 2) := by decide +kernel
theorem dM_rounded_126 : decode cM_rounded 126 = .ok (.ifCond .gt 19, 3) := by decide +kernel
theorem dM_rounded_129 : decode cM_rounded 129 = .ok (.iload 9, 2) := by decide +kernel
theorem dM_rounded_131 : decode cM_rounded 131 = .ok (.ifCond .ne 21, 3) := by decide +kernel
theorem dM_rounded_134 : decode cM_rounded 134 = .ok (.lload 7, 2) := by decide +kernel
theorem dM_rounded_136 : decode cM_rounded 136 = .ok (.ldc2_w 72, 3) := by decide +kernel
theorem dM_rounded_139 : decode cM_rounded 139 = .ok (.lrem, 1) := by decide +kernel
theorem dM_rounded_140 : decode cM_rounded 140 = .ok (.lconst 1, 1) := by decide +kernel
theorem dM_rounded_141 : decode cM_rounded 141 = .ok (.lcmp, 1) := by decide +kernel
theorem dM_rounded_142 : decode cM_rounded 142 = .ok (.ifCond .ne 10, 3) := by decide +kernel
theorem dM_rounded_145 : decode cM_rounded 145 = .ok (.lload 7, 2) := by decide +kernel
theorem dM_rounded_147 : decode cM_rounded 147 = .ok (.lconst 1, 1) := by decide +kernel
theorem dM_rounded_148 : decode cM_rounded 148 = .ok (.ladd, 1) := by decide +kernel
theorem dM_rounded_149 : decode cM_rounded 149 = .ok (.goto 5, 3) := by decide +kernel
theorem dM_rounded_152 : decode cM_rounded 152 = .ok (.lload 7, 2) := by decide +kernel
theorem dM_rounded_154 : decode cM_rounded 154 = .ok (.lstore 7, 2) := by decide +kernel
theorem dM_rounded_156 : decode cM_rounded 156 = .ok (.iload_n 1, 1) := by decide +kernel
theorem dM_rounded_157 : decode cM_rounded 157 = .ok (.ifCond .eq 9, 3) := by decide +kernel
theorem dM_rounded_160 : decode cM_rounded 160 = .ok (.lload 7, 2) := by decide +kernel
theorem dM_rounded_162 : decode cM_rounded 162 = .ok (.lneg, 1) := by decide +kernel
theorem dM_rounded_163 : decode cM_rounded 163 = .ok (.goto 5, 3) := by decide +kernel
theorem dM_rounded_166 : decode cM_rounded 166 = .ok (.lload 7, 2) := by decide +kernel
theorem dM_rounded_168 : decode cM_rounded 168 = .ok (.l2i, 1) := by decide +kernel
theorem dM_rounded_169 : decode cM_rounded 169 = .ok (.ireturn, 1) := by decide +kernel
def yM_joined : MethodName := ⟨RM, "joined", "(ZZ)Z"⟩
abbrev cM_joined : ByteArray := prog_5_method_24_code
theorem dM_joined_0 : decode cM_joined 0 = .ok (.iload_n 1, 1) := by decide +kernel
theorem dM_joined_1 : decode cM_joined 1 = .ok (.iload_n 2, 1) := by decide +kernel
theorem dM_joined_2 : decode cM_joined 2 = .ok (.if_icmp .ne 11, 3) := by decide +kernel
theorem dM_joined_5 : decode cM_joined 5 = .ok (.aload_n 0, 1) := by decide +kernel
theorem dM_joined_6 : decode cM_joined 6 = .ok (.iconst 0, 1) := by decide +kernel
theorem dM_joined_7 : decode cM_joined 7 = .ok (.iconst 1, 1) := by decide +kernel
theorem dM_joined_8 : decode cM_joined 8 = .ok (.invokevirtual 74, 3) := by decide +kernel
theorem dM_joined_11 : decode cM_joined 11 = .ok (.iload_n 1, 1) := by decide +kernel
theorem dM_joined_12 : decode cM_joined 12 = .ok (.ireturn, 1) := by decide +kernel
theorem dM_joined_13 : decode cM_joined 13 = .ok (.aload_n 0, 1) := by decide +kernel
theorem dM_joined_14 : decode cM_joined 14 = .ok (.iconst 0, 1) := by decide +kernel
theorem dM_joined_15 : decode cM_joined 15 = .ok (.iconst 1, 1) := by decide +kernel
theorem dM_joined_16 : decode cM_joined 16 = .ok (.invokevirtual 60, 3) := by decide +kernel
theorem dM_joined_19 : decode cM_joined 19 = .ok (.ifCond .lt 12, 3) := by decide +kernel
theorem dM_joined_22 : decode cM_joined 22 = .ok (.aload_n 0, 1) := by decide +kernel
theorem dM_joined_23 : decode cM_joined 23 = .ok (.iconst 0, 1) := by decide +kernel
theorem dM_joined_24 : decode cM_joined 24 = .ok (.iconst 1, 1) := by decide +kernel
theorem dM_joined_25 : decode cM_joined 25 = .ok (.iconst 0, 1) := by decide +kernel
theorem dM_joined_26 : decode cM_joined 26 = .ok (.invokevirtual 77, 3) := by decide +kernel
theorem dM_joined_29 : decode cM_joined 29 = .ok (.iload_n 1, 1) := by decide +kernel
theorem dM_joined_30 : decode cM_joined 30 = .ok (.ireturn, 1) := by decide +kernel
theorem dM_joined_31 : decode cM_joined 31 = .ok (.aload_n 0, 1) := by decide +kernel
theorem dM_joined_32 : decode cM_joined 32 = .ok (.iconst 1, 1) := by decide +kernel
theorem dM_joined_33 : decode cM_joined 33 = .ok (.iconst 0, 1) := by decide +kernel
theorem dM_joined_34 : decode cM_joined 34 = .ok (.iconst 0, 1) := by decide +kernel
theorem dM_joined_35 : decode cM_joined 35 = .ok (.invokevirtual 77, 3) := by decide +kernel
theorem dM_joined_38 : decode cM_joined 38 = .ok (.iload_n 2, 1) := by decide +kernel
theorem dM_joined_39 : decode cM_joined 39 = .ok (.ireturn, 1) := by decide +kernel
def yM_together : MethodName := ⟨RM, "together", "(IIZ)I"⟩
abbrev cM_together : ByteArray := prog_5_method_25_code
theorem dM_together_0 : decode cM_together 0 = .ok (.aload_n 0, 1) := by decide +kernel
theorem dM_together_1 : decode cM_together 1 = .ok (.iload_n 1, 1) := by decide +kernel
theorem dM_together_2 : decode cM_together 2 = .ok (.invokevirtual 80, 3) := by decide +kernel
theorem dM_together_5 : decode cM_together 5 = .ok (.ifCond .ne 11, 3) := by decide +kernel
theorem dM_together_8 : decode cM_together 8 = .ok (.aload_n 0, 1) := by decide +kernel
theorem dM_together_9 : decode cM_together 9 = .ok (.iload_n 2, 1) := by decide +kernel
theorem dM_together_10 : decode cM_together 10 = .ok (.invokevirtual 80, 3) := by decide +kernel
theorem dM_together_13 : decode cM_together 13 = .ok (.ifCond .eq 11, 3) := by decide +kernel
theorem dM_together_16 : decode cM_together 16 = .ok (.aload_n 0, 1) := by decide +kernel
theorem dM_together_17 : decode cM_together 17 = .ok (.getfield 20, 3) := by decide +kernel
theorem dM_together_20 : decode cM_together 20 = .ok (.invokestatic 45, 3) := by decide +kernel
theorem dM_together_23 : decode cM_together 23 = .ok (.ireturn, 1) := by decide +kernel
theorem dM_together_24 : decode cM_together 24 = .ok (.aload_n 0, 1) := by decide +kernel
theorem dM_together_25 : decode cM_together 25 = .ok (.iconst 0, 1) := by decide +kernel
theorem dM_together_26 : decode cM_together 26 = .ok (.iload_n 1, 1) := by decide +kernel
theorem dM_together_27 : decode cM_together 27 = .ok (.bipush 124, 2) := by decide +kernel
theorem dM_together_29 : decode cM_together 29 = .ok (.invokevirtual 83, 3) := by decide +kernel
theorem dM_together_32 : decode cM_together 32 = .ok (.aload_n 0, 1) := by decide +kernel
theorem dM_together_33 : decode cM_together 33 = .ok (.iconst 1, 1) := by decide +kernel
theorem dM_together_34 : decode cM_together 34 = .ok (.iload_n 2, 1) := by decide +kernel
theorem dM_together_35 : decode cM_together 35 = .ok (.bipush 124, 2) := by decide +kernel
theorem dM_together_37 : decode cM_together 37 = .ok (.invokevirtual 83, 3) := by decide +kernel
theorem dM_together_40 : decode cM_together 40 = .ok (.aload_n 0, 1) := by decide +kernel
theorem dM_together_41 : decode cM_together 41 = .ok (.aload_n 0, 1) := by decide +kernel
theorem dM_together_42 : decode cM_together 42 = .ok (.iload_n 1, 1) := by decide +kernel
theorem dM_together_43 : decode cM_together 43 = .ok (.invokevirtual 86, 3) := by decide +kernel
theorem dM_together_46 : decode cM_together 46 = .ok (.aload_n 0, 1) := by decide +kernel
theorem dM_together_47 : decode cM_together 47 = .ok (.iload_n 2, 1) := by decide +kernel
theorem dM_together_48 : decode cM_together 48 = .ok (.invokevirtual 86, 3) := by decide +kernel
theorem dM_together_51 : decode cM_together 51 = .ok (.iload_n 3, 1) := by decide +kernel
theorem dM_together_52 : decode cM_together 52 = .ok (.if_icmp .eq 7, 3) := by decide +kernel
theorem dM_together_55 : decode cM_together 55 = .ok (.iconst 1, 1) := by decide +kernel
theorem dM_together_56 : decode cM_together 56 = .ok (.goto 4, 3) := by decide +kernel
theorem dM_together_59 : decode cM_together 59 = .ok (.iconst 0, 1) := by decide +kernel
theorem dM_together_60 : decode cM_together 60 = .ok (.invokevirtual 89, 3) := by decide +kernel
theorem dM_together_63 : decode cM_together 63 = .ok (.istore 4, 2) := by decide +kernel
theorem dM_together_65 : decode cM_together 65 = .ok (.aload_n 0, 1) := by decide +kernel
theorem dM_together_66 : decode cM_together 66 = .ok (.iconst 0, 1) := by decide +kernel
theorem dM_together_67 : decode cM_together 67 = .ok (.invokevirtual 93, 3) := by decide +kernel
theorem dM_together_70 : decode cM_together 70 = .ok (.aload_n 0, 1) := by decide +kernel
theorem dM_together_71 : decode cM_together 71 = .ok (.iload 4, 2) := by decide +kernel
theorem dM_together_73 : decode cM_together 73 = .ok (.aload_n 0, 1) := by decide +kernel
theorem dM_together_74 : decode cM_together 74 = .ok (.getfield 20, 3) := by decide +kernel
theorem dM_together_77 : decode cM_together 77 = .ok (.invokevirtual 96, 3) := by decide +kernel
theorem dM_together_80 : decode cM_together 80 = .ok (.ireturn, 1) := by decide +kernel
def yM_add : MethodName := ⟨RM, "add", "(II)I"⟩
abbrev cM_add : ByteArray := prog_5_method_26_code
theorem dM_add_0 : decode cM_add 0 = .ok (.aload_n 0, 1) := by decide +kernel
theorem dM_add_1 : decode cM_add 1 = .ok (.iload_n 1, 1) := by decide +kernel
theorem dM_add_2 : decode cM_add 2 = .ok (.iload_n 2, 1) := by decide +kernel
theorem dM_add_3 : decode cM_add 3 = .ok (.iconst 0, 1) := by decide +kernel
theorem dM_add_4 : decode cM_add 4 = .ok (.invokevirtual 100, 3) := by decide +kernel
theorem dM_add_7 : decode cM_add 7 = .ok (.ireturn, 1) := by decide +kernel
def yM_subtract : MethodName := ⟨RM, "subtract", "(II)I"⟩
abbrev cM_subtract : ByteArray := prog_5_method_27_code
theorem dM_subtract_0 : decode cM_subtract 0 = .ok (.aload_n 0, 1) := by decide +kernel
theorem dM_subtract_1 : decode cM_subtract 1 = .ok (.iload_n 1, 1) := by decide +kernel
theorem dM_subtract_2 : decode cM_subtract 2 = .ok (.iload_n 2, 1) := by decide +kernel
theorem dM_subtract_3 : decode cM_subtract 3 = .ok (.iconst 1, 1) := by decide +kernel
theorem dM_subtract_4 : decode cM_subtract 4 = .ok (.invokevirtual 100, 3) := by decide +kernel
theorem dM_subtract_7 : decode cM_subtract 7 = .ok (.ireturn, 1) := by decide +kernel
def yM_multiply : MethodName := ⟨RM, "multiply", "(II)I"⟩
abbrev cM_multiply : ByteArray := prog_5_method_28_code
theorem dM_multiply_0 : decode cM_multiply 0 = .ok (.aload_n 0, 1) := by decide +kernel
theorem dM_multiply_1 : decode cM_multiply 1 = .ok (.iload_n 1, 1) := by decide +kernel
theorem dM_multiply_2 : decode cM_multiply 2 = .ok (.iload_n 2, 1) := by decide +kernel
theorem dM_multiply_3 : decode cM_multiply 3 = .ok (.iconst 0, 1) := by decide +kernel
theorem dM_multiply_4 : decode cM_multiply 4 = .ok (.invokevirtual 104, 3) := by decide +kernel
theorem dM_multiply_7 : decode cM_multiply 7 = .ok (.ireturn, 1) := by decide +kernel
def yM_divide : MethodName := ⟨RM, "divide", "(II)I"⟩
abbrev cM_divide : ByteArray := prog_5_method_29_code
theorem dM_divide_0 : decode cM_divide 0 = .ok (.aload_n 0, 1) := by decide +kernel
theorem dM_divide_1 : decode cM_divide 1 = .ok (.iload_n 1, 1) := by decide +kernel
theorem dM_divide_2 : decode cM_divide 2 = .ok (.invokevirtual 80, 3) := by decide +kernel
theorem dM_divide_5 : decode cM_divide 5 = .ok (.ifCond .ne 19, 3) := by decide +kernel
theorem dM_divide_8 : decode cM_divide 8 = .ok (.aload_n 0, 1) := by decide +kernel
theorem dM_divide_9 : decode cM_divide 9 = .ok (.iload_n 2, 1) := by decide +kernel
theorem dM_divide_10 : decode cM_divide 10 = .ok (.invokevirtual 80, 3) := by decide +kernel
theorem dM_divide_13 : decode cM_divide 13 = .ok (.ifCond .ne 11, 3) := by decide +kernel
theorem dM_divide_16 : decode cM_divide 16 = .ok (.aload_n 0, 1) := by decide +kernel
theorem dM_divide_17 : decode cM_divide 17 = .ok (.iload_n 2, 1) := by decide +kernel
theorem dM_divide_18 : decode cM_divide 18 = .ok (.invokevirtual 42, 3) := by decide +kernel
theorem dM_divide_21 : decode cM_divide 21 = .ok (.ifCond .ne 11, 3) := by decide +kernel
theorem dM_divide_24 : decode cM_divide 24 = .ok (.aload_n 0, 1) := by decide +kernel
theorem dM_divide_25 : decode cM_divide 25 = .ok (.getfield 20, 3) := by decide +kernel
theorem dM_divide_28 : decode cM_divide 28 = .ok (.invokestatic 45, 3) := by decide +kernel
theorem dM_divide_31 : decode cM_divide 31 = .ok (.ireturn, 1) := by decide +kernel
theorem dM_divide_32 : decode cM_divide 32 = .ok (.aload_n 0, 1) := by decide +kernel
theorem dM_divide_33 : decode cM_divide 33 = .ok (.iconst 0, 1) := by decide +kernel
theorem dM_divide_34 : decode cM_divide 34 = .ok (.iload_n 1, 1) := by decide +kernel
theorem dM_divide_35 : decode cM_divide 35 = .ok (.bipush 124, 2) := by decide +kernel
theorem dM_divide_37 : decode cM_divide 37 = .ok (.invokevirtual 83, 3) := by decide +kernel
theorem dM_divide_40 : decode cM_divide 40 = .ok (.aload_n 0, 1) := by decide +kernel
theorem dM_divide_41 : decode cM_divide 41 = .ok (.iconst 0, 1) := by decide +kernel
theorem dM_divide_42 : decode cM_divide 42 = .ok (.bipush 124, 2) := by decide +kernel
theorem dM_divide_44 : decode cM_divide 44 = .ok (.invokevirtual 35, 3) := by decide +kernel
theorem dM_divide_47 : decode cM_divide 47 = .ok (.aload_n 0, 1) := by decide +kernel
theorem dM_divide_48 : decode cM_divide 48 = .ok (.iconst 0, 1) := by decide +kernel
theorem dM_divide_49 : decode cM_divide 49 = .ok (.putfield 52, 3) := by decide +kernel
theorem dM_divide_52 : decode cM_divide 52 = .ok (.aload_n 0, 1) := by decide +kernel
theorem dM_divide_53 : decode cM_divide 53 = .ok (.iconst 4, 1) := by decide +kernel
theorem dM_divide_54 : decode cM_divide 54 = .ok (.iload_n 2, 1) := by decide +kernel
theorem dM_divide_55 : decode cM_divide 55 = .ok (.bipush 124, 2) := by decide +kernel
theorem dM_divide_57 : decode cM_divide 57 = .ok (.invokevirtual 83, 3) := by decide +kernel
theorem dM_divide_60 : decode cM_divide 60 = .ok (.aload_n 0, 1) := by decide +kernel
theorem dM_divide_61 : decode cM_divide 61 = .ok (.aload_n 0, 1) := by decide +kernel
theorem dM_divide_62 : decode cM_divide 62 = .ok (.iload_n 1, 1) := by decide +kernel
theorem dM_divide_63 : decode cM_divide 63 = .ok (.invokevirtual 86, 3) := by decide +kernel
theorem dM_divide_66 : decode cM_divide 66 = .ok (.aload_n 0, 1) := by decide +kernel
theorem dM_divide_67 : decode cM_divide 67 = .ok (.iload_n 2, 1) := by decide +kernel
theorem dM_divide_68 : decode cM_divide 68 = .ok (.invokevirtual 86, 3) := by decide +kernel
theorem dM_divide_71 : decode cM_divide 71 = .ok (.if_icmp .eq 7, 3) := by decide +kernel
theorem dM_divide_74 : decode cM_divide 74 = .ok (.iconst 1, 1) := by decide +kernel
theorem dM_divide_75 : decode cM_divide 75 = .ok (.goto 4, 3) := by decide +kernel
theorem dM_divide_78 : decode cM_divide 78 = .ok (.iconst 0, 1) := by decide +kernel
theorem dM_divide_79 : decode cM_divide 79 = .ok (.aload_n 0, 1) := by decide +kernel
theorem dM_divide_80 : decode cM_divide 80 = .ok (.getfield 20, 3) := by decide +kernel
theorem dM_divide_83 : decode cM_divide 83 = .ok (.invokevirtual 96, 3) := by decide +kernel
theorem dM_divide_86 : decode cM_divide 86 = .ok (.ireturn, 1) := by decide +kernel
def yM_root : MethodName := ⟨RM, "root", "(I)I"⟩
abbrev cM_root : ByteArray := prog_5_method_30_code
theorem dM_root_0 : decode cM_root 0 = .ok (.aload_n 0, 1) := by decide +kernel
theorem dM_root_1 : decode cM_root 1 = .ok (.iload_n 1, 1) := by decide +kernel
theorem dM_root_2 : decode cM_root 2 = .ok (.invokevirtual 80, 3) := by decide +kernel
theorem dM_root_5 : decode cM_root 5 = .ok (.ifCond .ne 11, 3) := by decide +kernel
theorem dM_root_8 : decode cM_root 8 = .ok (.aload_n 0, 1) := by decide +kernel
theorem dM_root_9 : decode cM_root 9 = .ok (.iload_n 1, 1) := by decide +kernel
theorem dM_root_10 : decode cM_root 10 = .ok (.invokevirtual 86, 3) := by decide +kernel
theorem dM_root_13 : decode cM_root 13 = .ok (.ifCond .eq 11, 3) := by decide +kernel
theorem dM_root_16 : decode cM_root 16 = .ok (.aload_n 0, 1) := by decide +kernel
theorem dM_root_17 : decode cM_root 17 = .ok (.getfield 20, 3) := by decide +kernel
theorem dM_root_20 : decode cM_root 20 = .ok (.invokestatic 45, 3) := by decide +kernel
theorem dM_root_23 : decode cM_root 23 = .ok (.ireturn, 1) := by decide +kernel
theorem dM_root_24 : decode cM_root 24 = .ok (.aload_n 0, 1) := by decide +kernel
theorem dM_root_25 : decode cM_root 25 = .ok (.iconst 0, 1) := by decide +kernel
theorem dM_root_26 : decode cM_root 26 = .ok (.iload_n 1, 1) := by decide +kernel
theorem dM_root_27 : decode cM_root 27 = .ok (.bipush 124, 2) := by decide +kernel
theorem dM_root_29 : decode cM_root 29 = .ok (.invokevirtual 83, 3) := by decide +kernel
theorem dM_root_32 : decode cM_root 32 = .ok (.aload_n 0, 1) := by decide +kernel
theorem dM_root_33 : decode cM_root 33 = .ok (.iconst 0, 1) := by decide +kernel
theorem dM_root_34 : decode cM_root 34 = .ok (.bipush 124, 2) := by decide +kernel
theorem dM_root_36 : decode cM_root 36 = .ok (.invokevirtual 35, 3) := by decide +kernel
theorem dM_root_39 : decode cM_root 39 = .ok (.aload_n 0, 1) := by decide +kernel
theorem dM_root_40 : decode cM_root 40 = .ok (.iconst 1, 1) := by decide +kernel
theorem dM_root_41 : decode cM_root 41 = .ok (.putfield 52, 3) := by decide +kernel
theorem dM_root_44 : decode cM_root 44 = .ok (.aload_n 0, 1) := by decide +kernel
theorem dM_root_45 : decode cM_root 45 = .ok (.iconst 0, 1) := by decide +kernel
theorem dM_root_46 : decode cM_root 46 = .ok (.aload_n 0, 1) := by decide +kernel
theorem dM_root_47 : decode cM_root 47 = .ok (.getfield 20, 3) := by decide +kernel
theorem dM_root_50 : decode cM_root 50 = .ok (.invokevirtual 96, 3) := by decide +kernel
theorem dM_root_53 : decode cM_root 53 = .ok (.ireturn, 1) := by decide +kernel
def yM_fused : MethodName := ⟨RM, "fused", "(III)I"⟩
abbrev cM_fused : ByteArray := prog_5_method_31_code
theorem dM_fused_0 : decode cM_fused 0 = .ok (.aload_n 0, 1) := by decide +kernel
theorem dM_fused_1 : decode cM_fused 1 = .ok (.iload_n 1, 1) := by decide +kernel
theorem dM_fused_2 : decode cM_fused 2 = .ok (.invokevirtual 80, 3) := by decide +kernel
theorem dM_fused_5 : decode cM_fused 5 = .ok (.ifCond .ne 19, 3) := by decide +kernel
theorem dM_fused_8 : decode cM_fused 8 = .ok (.aload_n 0, 1) := by decide +kernel
theorem dM_fused_9 : decode cM_fused 9 = .ok (.iload_n 2, 1) := by decide +kernel
theorem dM_fused_10 : decode cM_fused 10 = .ok (.invokevirtual 80, 3) := by decide +kernel
theorem dM_fused_13 : decode cM_fused 13 = .ok (.ifCond .ne 11, 3) := by decide +kernel
theorem dM_fused_16 : decode cM_fused 16 = .ok (.aload_n 0, 1) := by decide +kernel
theorem dM_fused_17 : decode cM_fused 17 = .ok (.iload_n 3, 1) := by decide +kernel
theorem dM_fused_18 : decode cM_fused 18 = .ok (.invokevirtual 80, 3) := by decide +kernel
theorem dM_fused_21 : decode cM_fused 21 = .ok (.ifCond .eq 11, 3) := by decide +kernel
theorem dM_fused_24 : decode cM_fused 24 = .ok (.aload_n 0, 1) := by decide +kernel
theorem dM_fused_25 : decode cM_fused 25 = .ok (.getfield 20, 3) := by decide +kernel
theorem dM_fused_28 : decode cM_fused 28 = .ok (.invokestatic 45, 3) := by decide +kernel
theorem dM_fused_31 : decode cM_fused 31 = .ok (.ireturn, 1) := by decide +kernel
theorem dM_fused_32 : decode cM_fused 32 = .ok (.aload_n 0, 1) := by decide +kernel
theorem dM_fused_33 : decode cM_fused 33 = .ok (.iconst 1, 1) := by decide +kernel
theorem dM_fused_34 : decode cM_fused 34 = .ok (.iload_n 1, 1) := by decide +kernel
theorem dM_fused_35 : decode cM_fused 35 = .ok (.bipush 124, 2) := by decide +kernel
theorem dM_fused_37 : decode cM_fused 37 = .ok (.invokevirtual 83, 3) := by decide +kernel
theorem dM_fused_40 : decode cM_fused 40 = .ok (.aload_n 0, 1) := by decide +kernel
theorem dM_fused_41 : decode cM_fused 41 = .ok (.iconst 2, 1) := by decide +kernel
theorem dM_fused_42 : decode cM_fused 42 = .ok (.iload_n 2, 1) := by decide +kernel
theorem dM_fused_43 : decode cM_fused 43 = .ok (.bipush 124, 2) := by decide +kernel
theorem dM_fused_45 : decode cM_fused 45 = .ok (.invokevirtual 83, 3) := by decide +kernel
theorem dM_fused_48 : decode cM_fused 48 = .ok (.aload_n 0, 1) := by decide +kernel
theorem dM_fused_49 : decode cM_fused 49 = .ok (.iconst 1, 1) := by decide +kernel
theorem dM_fused_50 : decode cM_fused 50 = .ok (.iconst 2, 1) := by decide +kernel
theorem dM_fused_51 : decode cM_fused 51 = .ok (.iconst 0, 1) := by decide +kernel
theorem dM_fused_52 : decode cM_fused 52 = .ok (.invokevirtual 56, 3) := by decide +kernel
theorem dM_fused_55 : decode cM_fused 55 = .ok (.aload_n 0, 1) := by decide +kernel
theorem dM_fused_56 : decode cM_fused 56 = .ok (.iconst 1, 1) := by decide +kernel
theorem dM_fused_57 : decode cM_fused 57 = .ok (.iload_n 3, 1) := by decide +kernel
theorem dM_fused_58 : decode cM_fused 58 = .ok (.bipush 124, 2) := by decide +kernel
theorem dM_fused_60 : decode cM_fused 60 = .ok (.invokevirtual 83, 3) := by decide +kernel
theorem dM_fused_63 : decode cM_fused 63 = .ok (.aload_n 0, 1) := by decide +kernel
theorem dM_fused_64 : decode cM_fused 64 = .ok (.iconst 1, 1) := by decide +kernel
theorem dM_fused_65 : decode cM_fused 65 = .ok (.bipush 124, 2) := by decide +kernel
theorem dM_fused_67 : decode cM_fused 67 = .ok (.invokevirtual 35, 3) := by decide +kernel
theorem dM_fused_70 : decode cM_fused 70 = .ok (.aload_n 0, 1) := by decide +kernel
theorem dM_fused_71 : decode cM_fused 71 = .ok (.aload_n 0, 1) := by decide +kernel
theorem dM_fused_72 : decode cM_fused 72 = .ok (.iload_n 1, 1) := by decide +kernel
theorem dM_fused_73 : decode cM_fused 73 = .ok (.invokevirtual 86, 3) := by decide +kernel
theorem dM_fused_76 : decode cM_fused 76 = .ok (.aload_n 0, 1) := by decide +kernel
theorem dM_fused_77 : decode cM_fused 77 = .ok (.iload_n 2, 1) := by decide +kernel
theorem dM_fused_78 : decode cM_fused 78 = .ok (.invokevirtual 86, 3) := by decide +kernel
theorem dM_fused_81 : decode cM_fused 81 = .ok (.if_icmp .eq 7, 3) := by decide +kernel
theorem dM_fused_84 : decode cM_fused 84 = .ok (.iconst 1, 1) := by decide +kernel
theorem dM_fused_85 : decode cM_fused 85 = .ok (.goto 4, 3) := by decide +kernel
theorem dM_fused_88 : decode cM_fused 88 = .ok (.iconst 0, 1) := by decide +kernel
theorem dM_fused_89 : decode cM_fused 89 = .ok (.aload_n 0, 1) := by decide +kernel
theorem dM_fused_90 : decode cM_fused 90 = .ok (.iload_n 3, 1) := by decide +kernel
theorem dM_fused_91 : decode cM_fused 91 = .ok (.invokevirtual 86, 3) := by decide +kernel
theorem dM_fused_94 : decode cM_fused 94 = .ok (.invokevirtual 89, 3) := by decide +kernel
theorem dM_fused_97 : decode cM_fused 97 = .ok (.istore 4, 2) := by decide +kernel
theorem dM_fused_99 : decode cM_fused 99 = .ok (.aload_n 0, 1) := by decide +kernel
theorem dM_fused_100 : decode cM_fused 100 = .ok (.bipush 124, 2) := by decide +kernel
theorem dM_fused_102 : decode cM_fused 102 = .ok (.invokevirtual 93, 3) := by decide +kernel
theorem dM_fused_105 : decode cM_fused 105 = .ok (.aload_n 0, 1) := by decide +kernel
theorem dM_fused_106 : decode cM_fused 106 = .ok (.iload 4, 2) := by decide +kernel
theorem dM_fused_108 : decode cM_fused 108 = .ok (.aload_n 0, 1) := by decide +kernel
theorem dM_fused_109 : decode cM_fused 109 = .ok (.getfield 20, 3) := by decide +kernel
theorem dM_fused_112 : decode cM_fused 112 = .ok (.invokevirtual 96, 3) := by decide +kernel
theorem dM_fused_115 : decode cM_fused 115 = .ok (.ireturn, 1) := by decide +kernel
def yM_nearest : MethodName := ⟨RM, "nearest", "(I)V"⟩
abbrev cM_nearest : ByteArray := prog_5_method_32_code
theorem dM_nearest_0 : decode cM_nearest 0 = .ok (.aload_n 0, 1) := by decide +kernel
theorem dM_nearest_1 : decode cM_nearest 1 = .ok (.iconst 0, 1) := by decide +kernel
theorem dM_nearest_2 : decode cM_nearest 2 = .ok (.iload_n 1, 1) := by decide +kernel
theorem dM_nearest_3 : decode cM_nearest 3 = .ok (.bipush 124, 2) := by decide +kernel
theorem dM_nearest_5 : decode cM_nearest 5 = .ok (.invokevirtual 83, 3) := by decide +kernel
theorem dM_nearest_8 : decode cM_nearest 8 = .ok (.aload_n 0, 1) := by decide +kernel
theorem dM_nearest_9 : decode cM_nearest 9 = .ok (.iconst 0, 1) := by decide +kernel
theorem dM_nearest_10 : decode cM_nearest 10 = .ok (.bipush 123, 2) := by decide +kernel
theorem dM_nearest_12 : decode cM_nearest 12 = .ok (.invokevirtual 108, 3) := by decide +kernel
theorem dM_nearest_15 : decode cM_nearest 15 = .ok (.iconst 1, 1) := by decide +kernel
theorem dM_nearest_16 : decode cM_nearest 16 = .ok (.if_icmp .ne 7, 3) := by decide +kernel
theorem dM_nearest_19 : decode cM_nearest 19 = .ok (.iconst 1, 1) := by decide +kernel
theorem dM_nearest_20 : decode cM_nearest 20 = .ok (.goto 4, 3) := by decide +kernel
theorem dM_nearest_23 : decode cM_nearest 23 = .ok (.iconst 0, 1) := by decide +kernel
theorem dM_nearest_24 : decode cM_nearest 24 = .ok (.istore_n 2, 1) := by decide +kernel
theorem dM_nearest_25 : decode cM_nearest 25 = .ok (.iconst 0, 1) := by decide +kernel
theorem dM_nearest_26 : decode cM_nearest 26 = .ok (.istore_n 3, 1) := by decide +kernel
theorem dM_nearest_27 : decode cM_nearest 27 = .ok (.iconst 0, 1) := by decide +kernel
theorem dM_nearest_28 : decode cM_nearest 28 = .ok (.istore 4, 2) := by decide +kernel
theorem dM_nearest_30 : decode cM_nearest 30 = .ok (.iload 4, 2) := by decide +kernel
theorem dM_nearest_32 : decode cM_nearest 32 = .ok (.bipush 123, 2) := by decide +kernel
theorem dM_nearest_34 : decode cM_nearest 34 = .ok (.if_icmp .ge 30, 3) := by decide +kernel
theorem dM_nearest_37 : decode cM_nearest 37 = .ok (.iload_n 3, 1) := by decide +kernel
theorem dM_nearest_38 : decode cM_nearest 38 = .ok (.ifCond .ne 14, 3) := by decide +kernel
theorem dM_nearest_41 : decode cM_nearest 41 = .ok (.aload_n 0, 1) := by decide +kernel
theorem dM_nearest_42 : decode cM_nearest 42 = .ok (.iconst 0, 1) := by decide +kernel
theorem dM_nearest_43 : decode cM_nearest 43 = .ok (.iload 4, 2) := by decide +kernel
theorem dM_nearest_45 : decode cM_nearest 45 = .ok (.invokevirtual 108, 3) := by decide +kernel
theorem dM_nearest_48 : decode cM_nearest 48 = .ok (.iconst 1, 1) := by decide +kernel
theorem dM_nearest_49 : decode cM_nearest 49 = .ok (.if_icmp .ne 7, 3) := by decide +kernel
theorem dM_nearest_52 : decode cM_nearest 52 = .ok (.iconst 1, 1) := by decide +kernel
theorem dM_nearest_53 : decode cM_nearest 53 = .ok (.goto 4, 3) := by decide +kernel
theorem dM_nearest_56 : decode cM_nearest 56 = .ok (.iconst 0, 1) := by decide +kernel
theorem dM_nearest_57 : decode cM_nearest 57 = .ok (.istore_n 3, 1) := by decide +kernel
theorem dM_nearest_58 : decode cM_nearest 58 = .ok (.iinc 4 1, 3) := by decide +kernel
theorem dM_nearest_61 : decode cM_nearest 61 = .ok (.goto (-31), 3) := by decide +kernel
theorem dM_nearest_64 : decode cM_nearest 64 = .ok (.aload_n 0, 1) := by decide +kernel
theorem dM_nearest_65 : decode cM_nearest 65 = .ok (.iconst 0, 1) := by decide +kernel
theorem dM_nearest_66 : decode cM_nearest 66 = .ok (.bipush 124, 2) := by decide +kernel
theorem dM_nearest_68 : decode cM_nearest 68 = .ok (.invokevirtual 39, 3) := by decide +kernel
theorem dM_nearest_71 : decode cM_nearest 71 = .ok (.iload_n 2, 1) := by decide +kernel
theorem dM_nearest_72 : decode cM_nearest 72 = .ok (.ifCond .eq 29, 3) := by decide +kernel
theorem dM_nearest_75 : decode cM_nearest 75 = .ok (.iload_n 3, 1) := by decide +kernel
theorem dM_nearest_76 : decode cM_nearest 76 = .ok (.ifCond .ne 13, 3) := by decide +kernel
theorem dM_nearest_79 : decode cM_nearest 79 = .ok (.aload_n 0, 1) := by decide +kernel
theorem dM_nearest_80 : decode cM_nearest 80 = .ok (.iconst 0, 1) := by decide +kernel
theorem dM_nearest_81 : decode cM_nearest 81 = .ok (.iconst 0, 1) := by decide +kernel
theorem dM_nearest_82 : decode cM_nearest 82 = .ok (.invokevirtual 108, 3) := by decide +kernel
theorem dM_nearest_85 : decode cM_nearest 85 = .ok (.iconst 1, 1) := by decide +kernel
theorem dM_nearest_86 : decode cM_nearest 86 = .ok (.if_icmp .ne 15, 3) := by decide +kernel
theorem dM_nearest_89 : decode cM_nearest 89 = .ok (.aload_n 0, 1) := by decide +kernel
theorem dM_nearest_90 : decode cM_nearest 90 = .ok (.iconst 1, 1) := by decide +kernel
theorem dM_nearest_91 : decode cM_nearest 91 = .ok (.lconst 1, 1) := by decide +kernel
theorem dM_nearest_92 : decode cM_nearest 92 = .ok (.invokevirtual 31, 3) := by decide +kernel
theorem dM_nearest_95 : decode cM_nearest 95 = .ok (.aload_n 0, 1) := by decide +kernel
theorem dM_nearest_96 : decode cM_nearest 96 = .ok (.iconst 0, 1) := by decide +kernel
theorem dM_nearest_97 : decode cM_nearest 97 = .ok (.iconst 1, 1) := by decide +kernel
theorem dM_nearest_98 : decode cM_nearest 98 = .ok (.invokevirtual 74, 3) := by decide +kernel
theorem dM_nearest_101 : decode cM_nearest 101 = .ok (.return_, 1) := by decide +kernel
def yM_whole : MethodName := ⟨RM, "whole", "(I)I"⟩
abbrev cM_whole : ByteArray := prog_5_method_33_code
theorem dM_whole_0 : decode cM_whole 0 = .ok (.aload_n 0, 1) := by decide +kernel
theorem dM_whole_1 : decode cM_whole 1 = .ok (.iload_n 1, 1) := by decide +kernel
theorem dM_whole_2 : decode cM_whole 2 = .ok (.invokevirtual 80, 3) := by decide +kernel
theorem dM_whole_5 : decode cM_whole 5 = .ok (.ifCond .eq 11, 3) := by decide +kernel
theorem dM_whole_8 : decode cM_whole 8 = .ok (.aload_n 0, 1) := by decide +kernel
theorem dM_whole_9 : decode cM_whole 9 = .ok (.getfield 20, 3) := by decide +kernel
theorem dM_whole_12 : decode cM_whole 12 = .ok (.invokestatic 45, 3) := by decide +kernel
theorem dM_whole_15 : decode cM_whole 15 = .ok (.ireturn, 1) := by decide +kernel
theorem dM_whole_16 : decode cM_whole 16 = .ok (.aload_n 0, 1) := by decide +kernel
theorem dM_whole_17 : decode cM_whole 17 = .ok (.iload_n 1, 1) := by decide +kernel
theorem dM_whole_18 : decode cM_whole 18 = .ok (.invokevirtual 111, 3) := by decide +kernel
theorem dM_whole_21 : decode cM_whole 21 = .ok (.aload_n 0, 1) := by decide +kernel
theorem dM_whole_22 : decode cM_whole 22 = .ok (.iconst 0, 1) := by decide +kernel
theorem dM_whole_23 : decode cM_whole 23 = .ok (.bipush 124, 2) := by decide +kernel
theorem dM_whole_25 : decode cM_whole 25 = .ok (.invokevirtual 35, 3) := by decide +kernel
theorem dM_whole_28 : decode cM_whole 28 = .ok (.aload_n 0, 1) := by decide +kernel
theorem dM_whole_29 : decode cM_whole 29 = .ok (.iconst 0, 1) := by decide +kernel
theorem dM_whole_30 : decode cM_whole 30 = .ok (.invokevirtual 93, 3) := by decide +kernel
theorem dM_whole_33 : decode cM_whole 33 = .ok (.aload_n 0, 1) := by decide +kernel
theorem dM_whole_34 : decode cM_whole 34 = .ok (.aload_n 0, 1) := by decide +kernel
theorem dM_whole_35 : decode cM_whole 35 = .ok (.iload_n 1, 1) := by decide +kernel
theorem dM_whole_36 : decode cM_whole 36 = .ok (.invokevirtual 86, 3) := by decide +kernel
theorem dM_whole_39 : decode cM_whole 39 = .ok (.aload_n 0, 1) := by decide +kernel
theorem dM_whole_40 : decode cM_whole 40 = .ok (.getfield 20, 3) := by decide +kernel
theorem dM_whole_43 : decode cM_whole 43 = .ok (.invokevirtual 96, 3) := by decide +kernel
theorem dM_whole_46 : decode cM_whole 46 = .ok (.ireturn, 1) := by decide +kernel
def yM_next : MethodName := ⟨RM, "next", "(I)I"⟩
abbrev cM_next : ByteArray := prog_5_method_34_code
theorem dM_next_0 : decode cM_next 0 = .ok (.aload_n 0, 1) := by decide +kernel
theorem dM_next_1 : decode cM_next 1 = .ok (.iload_n 1, 1) := by decide +kernel
theorem dM_next_2 : decode cM_next 2 = .ok (.iconst 1, 1) := by decide +kernel
theorem dM_next_3 : decode cM_next 3 = .ok (.iadd, 1) := by decide +kernel
theorem dM_next_4 : decode cM_next 4 = .ok (.invokevirtual 42, 3) := by decide +kernel
theorem dM_next_7 : decode cM_next 7 = .ok (.ireturn, 1) := by decide +kernel
def yM_fromLong : MethodName := ⟨RM, "fromLong", "(J)I"⟩
abbrev cM_fromLong : ByteArray := prog_5_method_35_code
theorem dM_fromLong_0 : decode cM_fromLong 0 = .ok (.lload_n 1, 1) := by decide +kernel
theorem dM_fromLong_1 : decode cM_fromLong 1 = .ok (.lconst 0, 1) := by decide +kernel
theorem dM_fromLong_2 : decode cM_fromLong 2 = .ok (.lcmp, 1) := by decide +kernel
theorem dM_fromLong_3 : decode cM_fromLong 3 = .ok (.ifCond .ge 18, 3) := by decide +kernel
theorem dM_fromLong_6 : decode cM_fromLong 6 = .ok (.lload_n 1, 1) := by decide +kernel
theorem dM_fromLong_7 : decode cM_fromLong 7 = .ok (.lload_n 1, 1) := by decide +kernel
theorem dM_fromLong_8 : decode cM_fromLong 8 = .ok (.lneg, 1) := by decide +kernel
theorem dM_fromLong_9 : decode cM_fromLong 9 = .ok (.lcmp, 1) := by decide +kernel
theorem dM_fromLong_10 : decode cM_fromLong 10 = .ok (.ifCond .ne 11, 3) := by decide +kernel
theorem dM_fromLong_13 : decode cM_fromLong 13 = .ok (.aload_n 0, 1) := by decide +kernel
theorem dM_fromLong_14 : decode cM_fromLong 14 = .ok (.getfield 20, 3) := by decide +kernel
theorem dM_fromLong_17 : decode cM_fromLong 17 = .ok (.invokestatic 45, 3) := by decide +kernel
theorem dM_fromLong_20 : decode cM_fromLong 20 = .ok (.ireturn, 1) := by decide +kernel
theorem dM_fromLong_21 : decode cM_fromLong 21 = .ok (.aload_n 0, 1) := by decide +kernel
theorem dM_fromLong_22 : decode cM_fromLong 22 = .ok (.iconst 0, 1) := by decide +kernel
theorem dM_fromLong_23 : decode cM_fromLong 23 = .ok (.lload_n 1, 1) := by decide +kernel
theorem dM_fromLong_24 : decode cM_fromLong 24 = .ok (.lconst 0, 1) := by decide +kernel
theorem dM_fromLong_25 : decode cM_fromLong 25 = .ok (.lcmp, 1) := by decide +kernel
theorem dM_fromLong_26 : decode cM_fromLong 26 = .ok (.ifCond .ge 8, 3) := by decide +kernel
theorem dM_fromLong_29 : decode cM_fromLong 29 = .ok (.lload_n 1, 1) := by decide +kernel
theorem dM_fromLong_30 : decode cM_fromLong 30 = .ok (.lneg, 1) := by decide +kernel
theorem dM_fromLong_31 : decode cM_fromLong 31 = .ok (.goto 4, 3) := by decide +kernel
theorem dM_fromLong_34 : decode cM_fromLong 34 = .ok (.lload_n 1, 1) := by decide +kernel
theorem dM_fromLong_35 : decode cM_fromLong 35 = .ok (.invokevirtual 31, 3) := by decide +kernel
theorem dM_fromLong_38 : decode cM_fromLong 38 = .ok (.aload_n 0, 1) := by decide +kernel
theorem dM_fromLong_39 : decode cM_fromLong 39 = .ok (.iconst 0, 1) := by decide +kernel
theorem dM_fromLong_40 : decode cM_fromLong 40 = .ok (.bipush 124, 2) := by decide +kernel
theorem dM_fromLong_42 : decode cM_fromLong 42 = .ok (.invokevirtual 35, 3) := by decide +kernel
theorem dM_fromLong_45 : decode cM_fromLong 45 = .ok (.aload_n 0, 1) := by decide +kernel
theorem dM_fromLong_46 : decode cM_fromLong 46 = .ok (.iconst 0, 1) := by decide +kernel
theorem dM_fromLong_47 : decode cM_fromLong 47 = .ok (.invokevirtual 93, 3) := by decide +kernel
theorem dM_fromLong_50 : decode cM_fromLong 50 = .ok (.aload_n 0, 1) := by decide +kernel
theorem dM_fromLong_51 : decode cM_fromLong 51 = .ok (.lload_n 1, 1) := by decide +kernel
theorem dM_fromLong_52 : decode cM_fromLong 52 = .ok (.lconst 0, 1) := by decide +kernel
theorem dM_fromLong_53 : decode cM_fromLong 53 = .ok (.lcmp, 1) := by decide +kernel
theorem dM_fromLong_54 : decode cM_fromLong 54 = .ok (.ifCond .ge 7, 3) := by decide +kernel
theorem dM_fromLong_57 : decode cM_fromLong 57 = .ok (.iconst 1, 1) := by decide +kernel
theorem dM_fromLong_58 : decode cM_fromLong 58 = .ok (.goto 4, 3) := by decide +kernel
theorem dM_fromLong_61 : decode cM_fromLong 61 = .ok (.iconst 0, 1) := by decide +kernel
theorem dM_fromLong_62 : decode cM_fromLong 62 = .ok (.aload_n 0, 1) := by decide +kernel
theorem dM_fromLong_63 : decode cM_fromLong 63 = .ok (.getfield 20, 3) := by decide +kernel
theorem dM_fromLong_66 : decode cM_fromLong 66 = .ok (.invokevirtual 96, 3) := by decide +kernel
theorem dM_fromLong_69 : decode cM_fromLong 69 = .ok (.ireturn, 1) := by decide +kernel
def yM_toLong : MethodName := ⟨RM, "toLong", "(I)J"⟩
abbrev cM_toLong : ByteArray := prog_5_method_36_code
theorem dM_toLong_0 : decode cM_toLong 0 = .ok (.ldc2_w 114, 3) := by decide +kernel
theorem dM_toLong_3 : decode cM_toLong 3 = .ok (.lstore_n 2, 1) := by decide +kernel
theorem dM_toLong_4 : decode cM_toLong 4 = .ok (.aload_n 0, 1) := by decide +kernel
theorem dM_toLong_5 : decode cM_toLong 5 = .ok (.iload_n 1, 1) := by decide +kernel
theorem dM_toLong_6 : decode cM_toLong 6 = .ok (.invokevirtual 80, 3) := by decide +kernel
theorem dM_toLong_9 : decode cM_toLong 9 = .ok (.ifCond .eq 5, 3) := by decide +kernel
theorem dM_toLong_12 : decode cM_toLong 12 = .ok (.lload_n 2, 1) := by decide +kernel
theorem dM_toLong_13 : decode cM_toLong 13 = .ok (.lreturn, 1) := by decide +kernel
theorem dM_toLong_14 : decode cM_toLong 14 = .ok (.aload_n 0, 1) := by decide +kernel
theorem dM_toLong_15 : decode cM_toLong 15 = .ok (.iload_n 1, 1) := by decide +kernel
theorem dM_toLong_16 : decode cM_toLong 16 = .ok (.invokevirtual 111, 3) := by decide +kernel
theorem dM_toLong_19 : decode cM_toLong 19 = .ok (.lconst 0, 1) := by decide +kernel
theorem dM_toLong_20 : decode cM_toLong 20 = .ok (.lstore 4, 2) := by decide +kernel
theorem dM_toLong_22 : decode cM_toLong 22 = .ok (.aload_n 0, 1) := by decide +kernel
theorem dM_toLong_23 : decode cM_toLong 23 = .ok (.iconst 0, 1) := by decide +kernel
theorem dM_toLong_24 : decode cM_toLong 24 = .ok (.bipush 63, 2) := by decide +kernel
theorem dM_toLong_26 : decode cM_toLong 26 = .ok (.invokevirtual 108, 3) := by decide +kernel
theorem dM_toLong_29 : decode cM_toLong 29 = .ok (.ifCond .ne 7, 3) := by decide +kernel
theorem dM_toLong_32 : decode cM_toLong 32 = .ok (.iconst 1, 1) := by decide +kernel
theorem dM_toLong_33 : decode cM_toLong 33 = .ok (.goto 4, 3) := by decide +kernel
theorem dM_toLong_36 : decode cM_toLong 36 = .ok (.iconst 0, 1) := by decide +kernel
theorem dM_toLong_37 : decode cM_toLong 37 = .ok (.istore 6, 2) := by decide +kernel
theorem dM_toLong_39 : decode cM_toLong 39 = .ok (.bipush 39, 2) := by decide +kernel
theorem dM_toLong_41 : decode cM_toLong 41 = .ok (.istore 7, 2) := by decide +kernel
theorem dM_toLong_43 : decode cM_toLong 43 = .ok (.iload 7, 2) := by decide +kernel
theorem dM_toLong_45 : decode cM_toLong 45 = .ok (.ifCond .lt 68, 3) := by decide +kernel
theorem dM_toLong_48 : decode cM_toLong 48 = .ok (.iload 6, 2) := by decide +kernel
theorem dM_toLong_50 : decode cM_toLong 50 = .ok (.ifCond .eq 25, 3) := by decide +kernel
theorem dM_toLong_53 : decode cM_toLong 53 = .ok (.iload 7, 2) := by decide +kernel
theorem dM_toLong_55 : decode cM_toLong 55 = .ok (.iconst 4, 1) := by decide +kernel
theorem dM_toLong_56 : decode cM_toLong 56 = .ok (.if_icmp .lt 15, 3) := by decide +kernel
theorem dM_toLong_59 : decode cM_toLong 59 = .ok (.aload_n 0, 1) := by decide +kernel
theorem dM_toLong_60 : decode cM_toLong 60 = .ok (.getfield 7, 3) := by decide +kernel
theorem dM_toLong_63 : decode cM_toLong 63 = .ok (.iconst 0, 1) := by decide +kernel
theorem dM_toLong_64 : decode cM_toLong 64 = .ok (.iload 7, 2) := by decide +kernel
theorem dM_toLong_66 : decode cM_toLong 66 = .ok (.iadd, 1) := by decide +kernel
theorem dM_toLong_67 : decode cM_toLong 67 = .ok (.iaload, 1) := by decide +kernel
theorem dM_toLong_68 : decode cM_toLong 68 = .ok (.ifCond .ne 7, 3) := by decide +kernel
theorem dM_toLong_71 : decode cM_toLong 71 = .ok (.iconst 1, 1) := by decide +kernel
theorem dM_toLong_72 : decode cM_toLong 72 = .ok (.goto 4, 3) := by decide +kernel
theorem dM_toLong_75 : decode cM_toLong 75 = .ok (.iconst 0, 1) := by decide +kernel
theorem dM_toLong_76 : decode cM_toLong 76 = .ok (.istore 6, 2) := by decide +kernel
theorem dM_toLong_78 : decode cM_toLong 78 = .ok (.iload 7, 2) := by decide +kernel
theorem dM_toLong_80 : decode cM_toLong 80 = .ok (.iconst 4, 1) := by decide +kernel
theorem dM_toLong_81 : decode cM_toLong 81 = .ok (.if_icmp .ge 22, 3) := by decide +kernel
theorem dM_toLong_84 : decode cM_toLong 84 = .ok (.lload 4, 2) := by decide +kernel
theorem dM_toLong_86 : decode cM_toLong 86 = .ok (.bipush 16, 2) := by decide +kernel
theorem dM_toLong_88 : decode cM_toLong 88 = .ok (.lshl, 1) := by decide +kernel
theorem dM_toLong_89 : decode cM_toLong 89 = .ok (.aload_n 0, 1) := by decide +kernel
theorem dM_toLong_90 : decode cM_toLong 90 = .ok (.getfield 7, 3) := by decide +kernel
theorem dM_toLong_93 : decode cM_toLong 93 = .ok (.iconst 0, 1) := by decide +kernel
theorem dM_toLong_94 : decode cM_toLong 94 = .ok (.iload 7, 2) := by decide +kernel
theorem dM_toLong_96 : decode cM_toLong 96 = .ok (.iadd, 1) := by decide +kernel
theorem dM_toLong_97 : decode cM_toLong 97 = .ok (.iaload, 1) := by decide +kernel
theorem dM_toLong_98 : decode cM_toLong 98 = .ok (.i2l, 1) := by decide +kernel
theorem dM_toLong_99 : decode cM_toLong 99 = .ok (.lor, 1) := by decide +kernel
theorem dM_toLong_100 : decode cM_toLong 100 = .ok (.goto 5, 3) := by decide +kernel
theorem dM_toLong_103 : decode cM_toLong 103 = .ok (.lload 4, 2) := by decide +kernel
theorem dM_toLong_105 : decode cM_toLong 105 = .ok (.lstore 4, 2) := by decide +kernel
theorem dM_toLong_107 : decode cM_toLong 107 = .ok (.iinc 7 (-1), 3) := by decide +kernel
theorem dM_toLong_110 : decode cM_toLong 110 = .ok (.goto (-67), 3) := by decide +kernel
theorem dM_toLong_113 : decode cM_toLong 113 = .ok (.iload 6, 2) := by decide +kernel
theorem dM_toLong_115 : decode cM_toLong 115 = .ok (.ifCond .ne 7, 3) := by decide +kernel
theorem dM_toLong_118 : decode cM_toLong 118 = .ok (.lload_n 2, 1) := by decide +kernel
theorem dM_toLong_119 : decode cM_toLong 119 = .ok (.goto 19, 3) := by decide +kernel
theorem dM_toLong_122 : decode cM_toLong 122 = .ok (.aload_n 0, 1) := by decide +kernel
theorem dM_toLong_123 : decode cM_toLong 123 = .ok (.iload_n 1, 1) := by decide +kernel
theorem dM_toLong_124 : decode cM_toLong 124 = .ok (.invokevirtual 86, 3) := by decide +kernel
theorem dM_toLong_127 : decode cM_toLong 127 = .ok (.ifCond .eq 9, 3) := by decide +kernel
theorem dM_toLong_130 : decode cM_toLong 130 = .ok (.lload 4, 2) := by decide +kernel
theorem dM_toLong_132 : decode cM_toLong 132 = .ok (.lneg, 1) := by decide +kernel
theorem dM_toLong_133 : decode cM_toLong 133 = .ok (.goto 5, 3) := by decide +kernel
theorem dM_toLong_136 : decode cM_toLong 136 = .ok (.lload 4, 2) := by decide +kernel
theorem dM_toLong_138 : decode cM_toLong 138 = .ok (.lreturn, 1) := by decide +kernel
def yM_convert : MethodName := ⟨RM, "convert", "(II)I"⟩
abbrev cM_convert : ByteArray := prog_5_method_37_code
theorem dM_convert_0 : decode cM_convert 0 = .ok (.iload_n 2, 1) := by decide +kernel
theorem dM_convert_1 : decode cM_convert 1 = .ok (.invokestatic 16, 3) := by decide +kernel
theorem dM_convert_4 : decode cM_convert 4 = .ok (.istore_n 3, 1) := by decide +kernel
theorem dM_convert_5 : decode cM_convert 5 = .ok (.aload_n 0, 1) := by decide +kernel
theorem dM_convert_6 : decode cM_convert 6 = .ok (.iload_n 1, 1) := by decide +kernel
theorem dM_convert_7 : decode cM_convert 7 = .ok (.invokevirtual 80, 3) := by decide +kernel
theorem dM_convert_10 : decode cM_convert 10 = .ok (.ifCond .eq 8, 3) := by decide +kernel
theorem dM_convert_13 : decode cM_convert 13 = .ok (.iload_n 3, 1) := by decide +kernel
theorem dM_convert_14 : decode cM_convert 14 = .ok (.invokestatic 45, 3) := by decide +kernel
theorem dM_convert_17 : decode cM_convert 17 = .ok (.ireturn, 1) := by decide +kernel
theorem dM_convert_18 : decode cM_convert 18 = .ok (.aload_n 0, 1) := by decide +kernel
theorem dM_convert_19 : decode cM_convert 19 = .ok (.iconst 0, 1) := by decide +kernel
theorem dM_convert_20 : decode cM_convert 20 = .ok (.iload_n 1, 1) := by decide +kernel
theorem dM_convert_21 : decode cM_convert 21 = .ok (.bipush 124, 2) := by decide +kernel
theorem dM_convert_23 : decode cM_convert 23 = .ok (.invokevirtual 83, 3) := by decide +kernel
theorem dM_convert_26 : decode cM_convert 26 = .ok (.aload_n 0, 1) := by decide +kernel
theorem dM_convert_27 : decode cM_convert 27 = .ok (.iconst 0, 1) := by decide +kernel
theorem dM_convert_28 : decode cM_convert 28 = .ok (.invokevirtual 93, 3) := by decide +kernel
theorem dM_convert_31 : decode cM_convert 31 = .ok (.aload_n 0, 1) := by decide +kernel
theorem dM_convert_32 : decode cM_convert 32 = .ok (.aload_n 0, 1) := by decide +kernel
theorem dM_convert_33 : decode cM_convert 33 = .ok (.iload_n 1, 1) := by decide +kernel
theorem dM_convert_34 : decode cM_convert 34 = .ok (.invokevirtual 86, 3) := by decide +kernel
theorem dM_convert_37 : decode cM_convert 37 = .ok (.iload_n 3, 1) := by decide +kernel
theorem dM_convert_38 : decode cM_convert 38 = .ok (.invokevirtual 96, 3) := by decide +kernel
theorem dM_convert_41 : decode cM_convert 41 = .ok (.ireturn, 1) := by decide +kernel
def yM_isSum : MethodName := ⟨RM, "isSum", "(I)Z"⟩
abbrev cM_isSum : ByteArray := prog_5_method_38_code
theorem dM_isSum_0 : decode cM_isSum 0 = .ok (.iload_n 0, 1) := by decide +kernel
theorem dM_isSum_1 : decode cM_isSum 1 = .ok (.ifCond .eq 8, 3) := by decide +kernel
theorem dM_isSum_4 : decode cM_isSum 4 = .ok (.iload_n 0, 1) := by decide +kernel
theorem dM_isSum_5 : decode cM_isSum 5 = .ok (.iconst 1, 1) := by decide +kernel
theorem dM_isSum_6 : decode cM_isSum 6 = .ok (.if_icmp .ne 7, 3) := by decide +kernel
theorem dM_isSum_9 : decode cM_isSum 9 = .ok (.iconst 1, 1) := by decide +kernel
theorem dM_isSum_10 : decode cM_isSum 10 = .ok (.goto 4, 3) := by decide +kernel
theorem dM_isSum_13 : decode cM_isSum 13 = .ok (.iconst 0, 1) := by decide +kernel
theorem dM_isSum_14 : decode cM_isSum 14 = .ok (.ireturn, 1) := by decide +kernel
def yM_lost : MethodName := ⟨RM, "lost", "(I)Z"⟩
abbrev cM_lost : ByteArray := prog_5_method_39_code
theorem dM_lost_0 : decode cM_lost 0 = .ok (.aload_n 0, 1) := by decide +kernel
theorem dM_lost_1 : decode cM_lost 1 = .ok (.getfield 13, 3) := by decide +kernel
theorem dM_lost_4 : decode cM_lost 4 = .ok (.bipush 32, 2) := by decide +kernel
theorem dM_lost_6 : decode cM_lost 6 = .ok (.iload_n 1, 1) := by decide +kernel
theorem dM_lost_7 : decode cM_lost 7 = .ok (.imul, 1) := by decide +kernel
theorem dM_lost_8 : decode cM_lost 8 = .ok (.aload_n 0, 1) := by decide +kernel
theorem dM_lost_9 : decode cM_lost 9 = .ok (.getfield 20, 3) := by decide +kernel
theorem dM_lost_12 : decode cM_lost 12 = .ok (.iadd, 1) := by decide +kernel
theorem dM_lost_13 : decode cM_lost 13 = .ok (.iconst 1, 1) := by decide +kernel
theorem dM_lost_14 : decode cM_lost 14 = .ok (.isub, 1) := by decide +kernel
theorem dM_lost_15 : decode cM_lost 15 = .ok (.iaload, 1) := by decide +kernel
theorem dM_lost_16 : decode cM_lost 16 = .ok (.ldc 116, 2) := by decide +kernel
theorem dM_lost_18 : decode cM_lost 18 = .ok (.if_icmp .ne 7, 3) := by decide +kernel
theorem dM_lost_21 : decode cM_lost 21 = .ok (.iconst 1, 1) := by decide +kernel
theorem dM_lost_22 : decode cM_lost 22 = .ok (.goto 4, 3) := by decide +kernel
theorem dM_lost_25 : decode cM_lost 25 = .ok (.iconst 0, 1) := by decide +kernel
theorem dM_lost_26 : decode cM_lost 26 = .ok (.istore_n 2, 1) := by decide +kernel
theorem dM_lost_27 : decode cM_lost 27 = .ok (.iconst 0, 1) := by decide +kernel
theorem dM_lost_28 : decode cM_lost 28 = .ok (.istore_n 3, 1) := by decide +kernel
theorem dM_lost_29 : decode cM_lost 29 = .ok (.iload_n 3, 1) := by decide +kernel
theorem dM_lost_30 : decode cM_lost 30 = .ok (.aload_n 0, 1) := by decide +kernel
theorem dM_lost_31 : decode cM_lost 31 = .ok (.getfield 20, 3) := by decide +kernel
theorem dM_lost_34 : decode cM_lost 34 = .ok (.iconst 1, 1) := by decide +kernel
theorem dM_lost_35 : decode cM_lost 35 = .ok (.isub, 1) := by decide +kernel
theorem dM_lost_36 : decode cM_lost 36 = .ok (.if_icmp .ge 33, 3) := by decide +kernel
theorem dM_lost_39 : decode cM_lost 39 = .ok (.iload_n 2, 1) := by decide +kernel
theorem dM_lost_40 : decode cM_lost 40 = .ok (.ifCond .eq 21, 3) := by decide +kernel
theorem dM_lost_43 : decode cM_lost 43 = .ok (.aload_n 0, 1) := by decide +kernel
theorem dM_lost_44 : decode cM_lost 44 = .ok (.getfield 13, 3) := by decide +kernel
theorem dM_lost_47 : decode cM_lost 47 = .ok (.bipush 32, 2) := by decide +kernel
theorem dM_lost_49 : decode cM_lost 49 = .ok (.iload_n 1, 1) := by decide +kernel
theorem dM_lost_50 : decode cM_lost 50 = .ok (.imul, 1) := by decide +kernel
theorem dM_lost_51 : decode cM_lost 51 = .ok (.iload_n 3, 1) := by decide +kernel
theorem dM_lost_52 : decode cM_lost 52 = .ok (.iadd, 1) := by decide +kernel
theorem dM_lost_53 : decode cM_lost 53 = .ok (.iaload, 1) := by decide +kernel
theorem dM_lost_54 : decode cM_lost 54 = .ok (.ifCond .ne 7, 3) := by decide +kernel
theorem dM_lost_57 : decode cM_lost 57 = .ok (.iconst 1, 1) := by decide +kernel
theorem dM_lost_58 : decode cM_lost 58 = .ok (.goto 4, 3) := by decide +kernel
theorem dM_lost_61 : decode cM_lost 61 = .ok (.iconst 0, 1) := by decide +kernel
theorem dM_lost_62 : decode cM_lost 62 = .ok (.istore_n 2, 1) := by decide +kernel
theorem dM_lost_63 : decode cM_lost 63 = .ok (.iinc 3 1, 3) := by decide +kernel
theorem dM_lost_66 : decode cM_lost 66 = .ok (.goto (-37), 3) := by decide +kernel
theorem dM_lost_69 : decode cM_lost 69 = .ok (.iload_n 2, 1) := by decide +kernel
theorem dM_lost_70 : decode cM_lost 70 = .ok (.ireturn, 1) := by decide +kernel
def yM_lose : MethodName := ⟨RM, "lose", "(I)V"⟩
abbrev cM_lose : ByteArray := prog_5_method_40_code
theorem dM_lose_0 : decode cM_lose 0 = .ok (.iconst 0, 1) := by decide +kernel
theorem dM_lose_1 : decode cM_lose 1 = .ok (.istore_n 2, 1) := by decide +kernel
theorem dM_lose_2 : decode cM_lose 2 = .ok (.iload_n 2, 1) := by decide +kernel
theorem dM_lose_3 : decode cM_lose 3 = .ok (.aload_n 0, 1) := by decide +kernel
theorem dM_lose_4 : decode cM_lose 4 = .ok (.getfield 20, 3) := by decide +kernel
theorem dM_lose_7 : decode cM_lose 7 = .ok (.if_icmp .ge 36, 3) := by decide +kernel
theorem dM_lose_10 : decode cM_lose 10 = .ok (.aload_n 0, 1) := by decide +kernel
theorem dM_lose_11 : decode cM_lose 11 = .ok (.getfield 13, 3) := by decide +kernel
theorem dM_lose_14 : decode cM_lose 14 = .ok (.bipush 32, 2) := by decide +kernel
theorem dM_lose_16 : decode cM_lose 16 = .ok (.iload_n 1, 1) := by decide +kernel
theorem dM_lose_17 : decode cM_lose 17 = .ok (.imul, 1) := by decide +kernel
theorem dM_lose_18 : decode cM_lose 18 = .ok (.iload_n 2, 1) := by decide +kernel
theorem dM_lose_19 : decode cM_lose 19 = .ok (.iadd, 1) := by decide +kernel
theorem dM_lose_20 : decode cM_lose 20 = .ok (.iload_n 2, 1) := by decide +kernel
theorem dM_lose_21 : decode cM_lose 21 = .ok (.aload_n 0, 1) := by decide +kernel
theorem dM_lose_22 : decode cM_lose 22 = .ok (.getfield 20, 3) := by decide +kernel
theorem dM_lose_25 : decode cM_lose 25 = .ok (.iconst 1, 1) := by decide +kernel
theorem dM_lose_26 : decode cM_lose 26 = .ok (.isub, 1) := by decide +kernel
theorem dM_lose_27 : decode cM_lose 27 = .ok (.if_icmp .ne 8, 3) := by decide +kernel
theorem dM_lose_30 : decode cM_lose 30 = .ok (.ldc 116, 2) := by decide +kernel
theorem dM_lose_32 : decode cM_lose 32 = .ok (.goto 4, 3) := by decide +kernel
theorem dM_lose_35 : decode cM_lose 35 = .ok (.iconst 0, 1) := by decide +kernel
theorem dM_lose_36 : decode cM_lose 36 = .ok (.iastore, 1) := by decide +kernel
theorem dM_lose_37 : decode cM_lose 37 = .ok (.iinc 2 1, 3) := by decide +kernel
theorem dM_lose_40 : decode cM_lose 40 = .ok (.goto (-38), 3) := by decide +kernel
theorem dM_lose_43 : decode cM_lose 43 = .ok (.return_, 1) := by decide +kernel
def yM_clear : MethodName := ⟨RM, "clear", "(I)Z"⟩
abbrev cM_clear : ByteArray := prog_5_method_41_code
theorem dM_clear_0 : decode cM_clear 0 = .ok (.iload_n 1, 1) := by decide +kernel
theorem dM_clear_1 : decode cM_clear 1 = .ok (.invokestatic 117, 3) := by decide +kernel
theorem dM_clear_4 : decode cM_clear 4 = .ok (.ifCond .ne 5, 3) := by decide +kernel
theorem dM_clear_7 : decode cM_clear 7 = .ok (.iconst 0, 1) := by decide +kernel
theorem dM_clear_8 : decode cM_clear 8 = .ok (.ireturn, 1) := by decide +kernel
theorem dM_clear_9 : decode cM_clear 9 = .ok (.iconst 0, 1) := by decide +kernel
theorem dM_clear_10 : decode cM_clear 10 = .ok (.istore_n 2, 1) := by decide +kernel
theorem dM_clear_11 : decode cM_clear 11 = .ok (.iload_n 2, 1) := by decide +kernel
theorem dM_clear_12 : decode cM_clear 12 = .ok (.aload_n 0, 1) := by decide +kernel
theorem dM_clear_13 : decode cM_clear 13 = .ok (.getfield 20, 3) := by decide +kernel
theorem dM_clear_16 : decode cM_clear 16 = .ok (.if_icmp .ge 21, 3) := by decide +kernel
theorem dM_clear_19 : decode cM_clear 19 = .ok (.aload_n 0, 1) := by decide +kernel
theorem dM_clear_20 : decode cM_clear 20 = .ok (.getfield 13, 3) := by decide +kernel
theorem dM_clear_23 : decode cM_clear 23 = .ok (.bipush 32, 2) := by decide +kernel
theorem dM_clear_25 : decode cM_clear 25 = .ok (.iload_n 1, 1) := by decide +kernel
theorem dM_clear_26 : decode cM_clear 26 = .ok (.imul, 1) := by decide +kernel
theorem dM_clear_27 : decode cM_clear 27 = .ok (.iload_n 2, 1) := by decide +kernel
theorem dM_clear_28 : decode cM_clear 28 = .ok (.iadd, 1) := by decide +kernel
theorem dM_clear_29 : decode cM_clear 29 = .ok (.iconst 0, 1) := by decide +kernel
theorem dM_clear_30 : decode cM_clear 30 = .ok (.iastore, 1) := by decide +kernel
theorem dM_clear_31 : decode cM_clear 31 = .ok (.iinc 2 1, 3) := by decide +kernel
theorem dM_clear_34 : decode cM_clear 34 = .ok (.goto (-23), 3) := by decide +kernel
theorem dM_clear_37 : decode cM_clear 37 = .ok (.iconst 1, 1) := by decide +kernel
theorem dM_clear_38 : decode cM_clear 38 = .ok (.ireturn, 1) := by decide +kernel
def yM_pour : MethodName := ⟨RM, "pour", "(IIZ)V"⟩
abbrev cM_pour : ByteArray := prog_5_method_42_code
theorem dM_pour_0 : decode cM_pour 0 = .ok (.iconst 0, 1) := by decide +kernel
theorem dM_pour_1 : decode cM_pour 1 = .ok (.istore 4, 2) := by decide +kernel
theorem dM_pour_3 : decode cM_pour 3 = .ok (.iconst 0, 1) := by decide +kernel
theorem dM_pour_4 : decode cM_pour 4 = .ok (.istore 5, 2) := by decide +kernel
theorem dM_pour_6 : decode cM_pour 6 = .ok (.iload 5, 2) := by decide +kernel
theorem dM_pour_8 : decode cM_pour 8 = .ok (.aload_n 0, 1) := by decide +kernel
theorem dM_pour_9 : decode cM_pour 9 = .ok (.getfield 20, 3) := by decide +kernel
theorem dM_pour_12 : decode cM_pour 12 = .ok (.if_icmp .ge 83, 3) := by decide +kernel
theorem dM_pour_15 : decode cM_pour 15 = .ok (.aload_n 0, 1) := by decide +kernel
theorem dM_pour_16 : decode cM_pour 16 = .ok (.getfield 13, 3) := by decide +kernel
theorem dM_pour_19 : decode cM_pour 19 = .ok (.bipush 32, 2) := by decide +kernel
theorem dM_pour_21 : decode cM_pour 21 = .ok (.iload_n 1, 1) := by decide +kernel
theorem dM_pour_22 : decode cM_pour 22 = .ok (.imul, 1) := by decide +kernel
theorem dM_pour_23 : decode cM_pour 23 = .ok (.iload 5, 2) := by decide +kernel
theorem dM_pour_25 : decode cM_pour 25 = .ok (.iadd, 1) := by decide +kernel
theorem dM_pour_26 : decode cM_pour 26 = .ok (.iaload, 1) := by decide +kernel
theorem dM_pour_27 : decode cM_pour 27 = .ok (.iload_n 3, 1) := by decide +kernel
theorem dM_pour_28 : decode cM_pour 28 = .ok (.ifCond .eq 19, 3) := by decide +kernel
theorem dM_pour_31 : decode cM_pour 31 = .ok (.aload_n 0, 1) := by decide +kernel
theorem dM_pour_32 : decode cM_pour 32 = .ok (.getfield 7, 3) := by decide +kernel
theorem dM_pour_35 : decode cM_pour 35 = .ok (.bipush 40, 2) := by decide +kernel
theorem dM_pour_37 : decode cM_pour 37 = .ok (.iload_n 2, 1) := by decide +kernel
theorem dM_pour_38 : decode cM_pour 38 = .ok (.imul, 1) := by decide +kernel
theorem dM_pour_39 : decode cM_pour 39 = .ok (.iload 5, 2) := by decide +kernel
theorem dM_pour_41 : decode cM_pour 41 = .ok (.iadd, 1) := by decide +kernel
theorem dM_pour_42 : decode cM_pour 42 = .ok (.iaload, 1) := by decide +kernel
theorem dM_pour_43 : decode cM_pour 43 = .ok (.ineg, 1) := by decide +kernel
theorem dM_pour_44 : decode cM_pour 44 = .ok (.goto 15, 3) := by decide +kernel
theorem dM_pour_47 : decode cM_pour 47 = .ok (.aload_n 0, 1) := by decide +kernel
theorem dM_pour_48 : decode cM_pour 48 = .ok (.getfield 7, 3) := by decide +kernel
theorem dM_pour_51 : decode cM_pour 51 = .ok (.bipush 40, 2) := by decide +kernel
theorem dM_pour_53 : decode cM_pour 53 = .ok (.iload_n 2, 1) := by decide +kernel
theorem dM_pour_54 : decode cM_pour 54 = .ok (.imul, 1) := by decide +kernel
theorem dM_pour_55 : decode cM_pour 55 = .ok (.iload 5, 2) := by decide +kernel
theorem dM_pour_57 : decode cM_pour 57 = .ok (.iadd, 1) := by decide +kernel
theorem dM_pour_58 : decode cM_pour 58 = .ok (.iaload, 1) := by decide +kernel
theorem dM_pour_59 : decode cM_pour 59 = .ok (.iadd, 1) := by decide +kernel
theorem dM_pour_60 : decode cM_pour 60 = .ok (.iload 4, 2) := by decide +kernel
theorem dM_pour_62 : decode cM_pour 62 = .ok (.iadd, 1) := by decide +kernel
theorem dM_pour_63 : decode cM_pour 63 = .ok (.istore 6, 2) := by decide +kernel
theorem dM_pour_65 : decode cM_pour 65 = .ok (.aload_n 0, 1) := by decide +kernel
theorem dM_pour_66 : decode cM_pour 66 = .ok (.getfield 13, 3) := by decide +kernel
theorem dM_pour_69 : decode cM_pour 69 = .ok (.bipush 32, 2) := by decide +kernel
theorem dM_pour_71 : decode cM_pour 71 = .ok (.iload_n 1, 1) := by decide +kernel
theorem dM_pour_72 : decode cM_pour 72 = .ok (.imul, 1) := by decide +kernel
theorem dM_pour_73 : decode cM_pour 73 = .ok (.iload 5, 2) := by decide +kernel
theorem dM_pour_75 : decode cM_pour 75 = .ok (.iadd, 1) := by decide +kernel
theorem dM_pour_76 : decode cM_pour 76 = .ok (.iload 6, 2) := by decide +kernel
theorem dM_pour_78 : decode cM_pour 78 = .ok (.ldc 24, 2) := by decide +kernel
theorem dM_pour_80 : decode cM_pour 80 = .ok (.iand, 1) := by decide +kernel
theorem dM_pour_81 : decode cM_pour 81 = .ok (.iastore, 1) := by decide +kernel
theorem dM_pour_82 : decode cM_pour 82 = .ok (.iload 6, 2) := by decide +kernel
theorem dM_pour_84 : decode cM_pour 84 = .ok (.bipush 16, 2) := by decide +kernel
theorem dM_pour_86 : decode cM_pour 86 = .ok (.ishr, 1) := by decide +kernel
theorem dM_pour_87 : decode cM_pour 87 = .ok (.istore 4, 2) := by decide +kernel
theorem dM_pour_89 : decode cM_pour 89 = .ok (.iinc 5 1, 3) := by decide +kernel
theorem dM_pour_92 : decode cM_pour 92 = .ok (.goto (-86), 3) := by decide +kernel
theorem dM_pour_95 : decode cM_pour 95 = .ok (.return_, 1) := by decide +kernel
def yM_collect : MethodName := ⟨RM, "collect", "(IIIZ)Z"⟩
abbrev cM_collect : ByteArray := prog_5_method_43_code
theorem dM_collect_0 : decode cM_collect 0 = .ok (.iload_n 1, 1) := by decide +kernel
theorem dM_collect_1 : decode cM_collect 1 = .ok (.invokestatic 117, 3) := by decide +kernel
theorem dM_collect_4 : decode cM_collect 4 = .ok (.ifCond .ne 5, 3) := by decide +kernel
theorem dM_collect_7 : decode cM_collect 7 = .ok (.iconst 0, 1) := by decide +kernel
theorem dM_collect_8 : decode cM_collect 8 = .ok (.ireturn, 1) := by decide +kernel
theorem dM_collect_9 : decode cM_collect 9 = .ok (.aload_n 0, 1) := by decide +kernel
theorem dM_collect_10 : decode cM_collect 10 = .ok (.iload_n 2, 1) := by decide +kernel
theorem dM_collect_11 : decode cM_collect 11 = .ok (.invokevirtual 80, 3) := by decide +kernel
theorem dM_collect_14 : decode cM_collect 14 = .ok (.ifCond .ne 11, 3) := by decide +kernel
theorem dM_collect_17 : decode cM_collect 17 = .ok (.aload_n 0, 1) := by decide +kernel
theorem dM_collect_18 : decode cM_collect 18 = .ok (.iload_n 3, 1) := by decide +kernel
theorem dM_collect_19 : decode cM_collect 19 = .ok (.invokevirtual 80, 3) := by decide +kernel
theorem dM_collect_22 : decode cM_collect 22 = .ok (.ifCond .eq 8, 3) := by decide +kernel
theorem dM_collect_25 : decode cM_collect 25 = .ok (.aload_n 0, 1) := by decide +kernel
theorem dM_collect_26 : decode cM_collect 26 = .ok (.iload_n 1, 1) := by decide +kernel
theorem dM_collect_27 : decode cM_collect 27 = .ok (.invokevirtual 120, 3) := by decide +kernel
theorem dM_collect_30 : decode cM_collect 30 = .ok (.aload_n 0, 1) := by decide +kernel
theorem dM_collect_31 : decode cM_collect 31 = .ok (.iload_n 1, 1) := by decide +kernel
theorem dM_collect_32 : decode cM_collect 32 = .ok (.invokevirtual 123, 3) := by decide +kernel
theorem dM_collect_35 : decode cM_collect 35 = .ok (.ifCond .eq 5, 3) := by decide +kernel
theorem dM_collect_38 : decode cM_collect 38 = .ok (.iconst 1, 1) := by decide +kernel
theorem dM_collect_39 : decode cM_collect 39 = .ok (.ireturn, 1) := by decide +kernel
theorem dM_collect_40 : decode cM_collect 40 = .ok (.aload_n 0, 1) := by decide +kernel
theorem dM_collect_41 : decode cM_collect 41 = .ok (.iconst 1, 1) := by decide +kernel
theorem dM_collect_42 : decode cM_collect 42 = .ok (.iload_n 2, 1) := by decide +kernel
theorem dM_collect_43 : decode cM_collect 43 = .ok (.iconst 4, 1) := by decide +kernel
theorem dM_collect_44 : decode cM_collect 44 = .ok (.aload_n 0, 1) := by decide +kernel
theorem dM_collect_45 : decode cM_collect 45 = .ok (.getfield 20, 3) := by decide +kernel
theorem dM_collect_48 : decode cM_collect 48 = .ok (.imul, 1) := by decide +kernel
theorem dM_collect_49 : decode cM_collect 49 = .ok (.bipush 8, 2) := by decide +kernel
theorem dM_collect_51 : decode cM_collect 51 = .ok (.isub, 1) := by decide +kernel
theorem dM_collect_52 : decode cM_collect 52 = .ok (.invokevirtual 83, 3) := by decide +kernel
theorem dM_collect_55 : decode cM_collect 55 = .ok (.aload_n 0, 1) := by decide +kernel
theorem dM_collect_56 : decode cM_collect 56 = .ok (.iconst 2, 1) := by decide +kernel
theorem dM_collect_57 : decode cM_collect 57 = .ok (.iload_n 3, 1) := by decide +kernel
theorem dM_collect_58 : decode cM_collect 58 = .ok (.iconst 4, 1) := by decide +kernel
theorem dM_collect_59 : decode cM_collect 59 = .ok (.aload_n 0, 1) := by decide +kernel
theorem dM_collect_60 : decode cM_collect 60 = .ok (.getfield 20, 3) := by decide +kernel
theorem dM_collect_63 : decode cM_collect 63 = .ok (.imul, 1) := by decide +kernel
theorem dM_collect_64 : decode cM_collect 64 = .ok (.bipush 8, 2) := by decide +kernel
theorem dM_collect_66 : decode cM_collect 66 = .ok (.isub, 1) := by decide +kernel
theorem dM_collect_67 : decode cM_collect 67 = .ok (.invokevirtual 83, 3) := by decide +kernel
theorem dM_collect_70 : decode cM_collect 70 = .ok (.aload_n 0, 1) := by decide +kernel
theorem dM_collect_71 : decode cM_collect 71 = .ok (.iconst 1, 1) := by decide +kernel
theorem dM_collect_72 : decode cM_collect 72 = .ok (.iconst 2, 1) := by decide +kernel
theorem dM_collect_73 : decode cM_collect 73 = .ok (.iconst 0, 1) := by decide +kernel
theorem dM_collect_74 : decode cM_collect 74 = .ok (.invokevirtual 56, 3) := by decide +kernel
theorem dM_collect_77 : decode cM_collect 77 = .ok (.aload_n 0, 1) := by decide +kernel
theorem dM_collect_78 : decode cM_collect 78 = .ok (.iload_n 1, 1) := by decide +kernel
theorem dM_collect_79 : decode cM_collect 79 = .ok (.iconst 0, 1) := by decide +kernel
theorem dM_collect_80 : decode cM_collect 80 = .ok (.iload 4, 2) := by decide +kernel
theorem dM_collect_82 : decode cM_collect 82 = .ok (.aload_n 0, 1) := by decide +kernel
theorem dM_collect_83 : decode cM_collect 83 = .ok (.iload_n 2, 1) := by decide +kernel
theorem dM_collect_84 : decode cM_collect 84 = .ok (.invokevirtual 86, 3) := by decide +kernel
theorem dM_collect_87 : decode cM_collect 87 = .ok (.aload_n 0, 1) := by decide +kernel
theorem dM_collect_88 : decode cM_collect 88 = .ok (.iload_n 3, 1) := by decide +kernel
theorem dM_collect_89 : decode cM_collect 89 = .ok (.invokevirtual 86, 3) := by decide +kernel
theorem dM_collect_92 : decode cM_collect 92 = .ok (.if_icmp .eq 7, 3) := by decide +kernel
theorem dM_collect_95 : decode cM_collect 95 = .ok (.iconst 1, 1) := by decide +kernel
theorem dM_collect_96 : decode cM_collect 96 = .ok (.goto 4, 3) := by decide +kernel
theorem dM_collect_99 : decode cM_collect 99 = .ok (.iconst 0, 1) := by decide +kernel
theorem dM_collect_100 : decode cM_collect 100 = .ok (.if_icmp .eq 7, 3) := by decide +kernel
theorem dM_collect_103 : decode cM_collect 103 = .ok (.iconst 1, 1) := by decide +kernel
theorem dM_collect_104 : decode cM_collect 104 = .ok (.goto 4, 3) := by decide +kernel
theorem dM_collect_107 : decode cM_collect 107 = .ok (.iconst 0, 1) := by decide +kernel
theorem dM_collect_108 : decode cM_collect 108 = .ok (.invokevirtual 126, 3) := by decide +kernel
theorem dM_collect_111 : decode cM_collect 111 = .ok (.iconst 1, 1) := by decide +kernel
theorem dM_collect_112 : decode cM_collect 112 = .ok (.ireturn, 1) := by decide +kernel
def yM_draw : MethodName := ⟨RM, "draw", "(II)V"⟩
abbrev cM_draw : ByteArray := prog_5_method_44_code
theorem dM_draw_0 : decode cM_draw 0 = .ok (.aload_n 0, 1) := by decide +kernel
theorem dM_draw_1 : decode cM_draw 1 = .ok (.iload_n 2, 1) := by decide +kernel
theorem dM_draw_2 : decode cM_draw 2 = .ok (.invokevirtual 25, 3) := by decide +kernel
theorem dM_draw_5 : decode cM_draw 5 = .ok (.iconst 0, 1) := by decide +kernel
theorem dM_draw_6 : decode cM_draw 6 = .ok (.istore_n 3, 1) := by decide +kernel
theorem dM_draw_7 : decode cM_draw 7 = .ok (.iload_n 3, 1) := by decide +kernel
theorem dM_draw_8 : decode cM_draw 8 = .ok (.aload_n 0, 1) := by decide +kernel
theorem dM_draw_9 : decode cM_draw 9 = .ok (.getfield 20, 3) := by decide +kernel
theorem dM_draw_12 : decode cM_draw 12 = .ok (.if_icmp .ge 31, 3) := by decide +kernel
theorem dM_draw_15 : decode cM_draw 15 = .ok (.aload_n 0, 1) := by decide +kernel
theorem dM_draw_16 : decode cM_draw 16 = .ok (.getfield 7, 3) := by decide +kernel
theorem dM_draw_19 : decode cM_draw 19 = .ok (.bipush 40, 2) := by decide +kernel
theorem dM_draw_21 : decode cM_draw 21 = .ok (.iload_n 2, 1) := by decide +kernel
theorem dM_draw_22 : decode cM_draw 22 = .ok (.imul, 1) := by decide +kernel
theorem dM_draw_23 : decode cM_draw 23 = .ok (.iload_n 3, 1) := by decide +kernel
theorem dM_draw_24 : decode cM_draw 24 = .ok (.iadd, 1) := by decide +kernel
theorem dM_draw_25 : decode cM_draw 25 = .ok (.aload_n 0, 1) := by decide +kernel
theorem dM_draw_26 : decode cM_draw 26 = .ok (.getfield 13, 3) := by decide +kernel
theorem dM_draw_29 : decode cM_draw 29 = .ok (.bipush 32, 2) := by decide +kernel
theorem dM_draw_31 : decode cM_draw 31 = .ok (.iload_n 1, 1) := by decide +kernel
theorem dM_draw_32 : decode cM_draw 32 = .ok (.imul, 1) := by decide +kernel
theorem dM_draw_33 : decode cM_draw 33 = .ok (.iload_n 3, 1) := by decide +kernel
theorem dM_draw_34 : decode cM_draw 34 = .ok (.iadd, 1) := by decide +kernel
theorem dM_draw_35 : decode cM_draw 35 = .ok (.iaload, 1) := by decide +kernel
theorem dM_draw_36 : decode cM_draw 36 = .ok (.iastore, 1) := by decide +kernel
theorem dM_draw_37 : decode cM_draw 37 = .ok (.iinc 3 1, 3) := by decide +kernel
theorem dM_draw_40 : decode cM_draw 40 = .ok (.goto (-33), 3) := by decide +kernel
theorem dM_draw_43 : decode cM_draw 43 = .ok (.return_, 1) := by decide +kernel
def yM_merge : MethodName := ⟨RM, "merge", "(I)Z"⟩
abbrev cM_merge : ByteArray := prog_5_method_45_code
theorem dM_merge_0 : decode cM_merge 0 = .ok (.iload_n 1, 1) := by decide +kernel
theorem dM_merge_1 : decode cM_merge 1 = .ok (.invokestatic 117, 3) := by decide +kernel
theorem dM_merge_4 : decode cM_merge 4 = .ok (.ifCond .ne 5, 3) := by decide +kernel
theorem dM_merge_7 : decode cM_merge 7 = .ok (.iconst 0, 1) := by decide +kernel
theorem dM_merge_8 : decode cM_merge 8 = .ok (.ireturn, 1) := by decide +kernel
theorem dM_merge_9 : decode cM_merge 9 = .ok (.aload_n 0, 1) := by decide +kernel
theorem dM_merge_10 : decode cM_merge 10 = .ok (.iconst 1, 1) := by decide +kernel
theorem dM_merge_11 : decode cM_merge 11 = .ok (.iload_n 1, 1) := by decide +kernel
theorem dM_merge_12 : decode cM_merge 12 = .ok (.isub, 1) := by decide +kernel
theorem dM_merge_13 : decode cM_merge 13 = .ok (.invokevirtual 123, 3) := by decide +kernel
theorem dM_merge_16 : decode cM_merge 16 = .ok (.ifCond .eq 8, 3) := by decide +kernel
theorem dM_merge_19 : decode cM_merge 19 = .ok (.aload_n 0, 1) := by decide +kernel
theorem dM_merge_20 : decode cM_merge 20 = .ok (.iload_n 1, 1) := by decide +kernel
theorem dM_merge_21 : decode cM_merge 21 = .ok (.invokevirtual 120, 3) := by decide +kernel
theorem dM_merge_24 : decode cM_merge 24 = .ok (.aload_n 0, 1) := by decide +kernel
theorem dM_merge_25 : decode cM_merge 25 = .ok (.iload_n 1, 1) := by decide +kernel
theorem dM_merge_26 : decode cM_merge 26 = .ok (.invokevirtual 123, 3) := by decide +kernel
theorem dM_merge_29 : decode cM_merge 29 = .ok (.ifCond .eq 5, 3) := by decide +kernel
theorem dM_merge_32 : decode cM_merge 32 = .ok (.iconst 1, 1) := by decide +kernel
theorem dM_merge_33 : decode cM_merge 33 = .ok (.ireturn, 1) := by decide +kernel
theorem dM_merge_34 : decode cM_merge 34 = .ok (.aload_n 0, 1) := by decide +kernel
theorem dM_merge_35 : decode cM_merge 35 = .ok (.iconst 1, 1) := by decide +kernel
theorem dM_merge_36 : decode cM_merge 36 = .ok (.iload_n 1, 1) := by decide +kernel
theorem dM_merge_37 : decode cM_merge 37 = .ok (.isub, 1) := by decide +kernel
theorem dM_merge_38 : decode cM_merge 38 = .ok (.iconst 0, 1) := by decide +kernel
theorem dM_merge_39 : decode cM_merge 39 = .ok (.invokevirtual 130, 3) := by decide +kernel
theorem dM_merge_42 : decode cM_merge 42 = .ok (.aload_n 0, 1) := by decide +kernel
theorem dM_merge_43 : decode cM_merge 43 = .ok (.iload_n 1, 1) := by decide +kernel
theorem dM_merge_44 : decode cM_merge 44 = .ok (.iconst 0, 1) := by decide +kernel
theorem dM_merge_45 : decode cM_merge 45 = .ok (.iconst 0, 1) := by decide +kernel
theorem dM_merge_46 : decode cM_merge 46 = .ok (.invokevirtual 126, 3) := by decide +kernel
theorem dM_merge_49 : decode cM_merge 49 = .ok (.iconst 1, 1) := by decide +kernel
theorem dM_merge_50 : decode cM_merge 50 = .ok (.ireturn, 1) := by decide +kernel
def yM_negate : MethodName := ⟨RM, "negate", "(I)Z"⟩
abbrev cM_negate : ByteArray := prog_5_method_46_code
theorem dM_negate_0 : decode cM_negate 0 = .ok (.iload_n 1, 1) := by decide +kernel
theorem dM_negate_1 : decode cM_negate 1 = .ok (.invokestatic 117, 3) := by decide +kernel
theorem dM_negate_4 : decode cM_negate 4 = .ok (.ifCond .ne 5, 3) := by decide +kernel
theorem dM_negate_7 : decode cM_negate 7 = .ok (.iconst 0, 1) := by decide +kernel
theorem dM_negate_8 : decode cM_negate 8 = .ok (.ireturn, 1) := by decide +kernel
theorem dM_negate_9 : decode cM_negate 9 = .ok (.aload_n 0, 1) := by decide +kernel
theorem dM_negate_10 : decode cM_negate 10 = .ok (.iload_n 1, 1) := by decide +kernel
theorem dM_negate_11 : decode cM_negate 11 = .ok (.iconst 0, 1) := by decide +kernel
theorem dM_negate_12 : decode cM_negate 12 = .ok (.invokevirtual 130, 3) := by decide +kernel
theorem dM_negate_15 : decode cM_negate 15 = .ok (.aload_n 0, 1) := by decide +kernel
theorem dM_negate_16 : decode cM_negate 16 = .ok (.iload_n 1, 1) := by decide +kernel
theorem dM_negate_17 : decode cM_negate 17 = .ok (.iconst 0, 1) := by decide +kernel
theorem dM_negate_18 : decode cM_negate 18 = .ok (.iconst 1, 1) := by decide +kernel
theorem dM_negate_19 : decode cM_negate 19 = .ok (.invokevirtual 126, 3) := by decide +kernel
theorem dM_negate_22 : decode cM_negate 22 = .ok (.aload_n 0, 1) := by decide +kernel
theorem dM_negate_23 : decode cM_negate 23 = .ok (.iload_n 1, 1) := by decide +kernel
theorem dM_negate_24 : decode cM_negate 24 = .ok (.iconst 0, 1) := by decide +kernel
theorem dM_negate_25 : decode cM_negate 25 = .ok (.iconst 1, 1) := by decide +kernel
theorem dM_negate_26 : decode cM_negate 26 = .ok (.invokevirtual 126, 3) := by decide +kernel
theorem dM_negate_29 : decode cM_negate 29 = .ok (.iconst 1, 1) := by decide +kernel
theorem dM_negate_30 : decode cM_negate 30 = .ok (.ireturn, 1) := by decide +kernel
def yM_total : MethodName := ⟨RM, "total", "(I)I"⟩
abbrev cM_total : ByteArray := prog_5_method_47_code
theorem dM_total_0 : decode cM_total 0 = .ok (.iload_n 1, 1) := by decide +kernel
theorem dM_total_1 : decode cM_total 1 = .ok (.invokestatic 117, 3) := by decide +kernel
theorem dM_total_4 : decode cM_total 4 = .ok (.ifCond .eq 11, 3) := by decide +kernel
theorem dM_total_7 : decode cM_total 7 = .ok (.aload_n 0, 1) := by decide +kernel
theorem dM_total_8 : decode cM_total 8 = .ok (.iload_n 1, 1) := by decide +kernel
theorem dM_total_9 : decode cM_total 9 = .ok (.invokevirtual 123, 3) := by decide +kernel
theorem dM_total_12 : decode cM_total 12 = .ok (.ifCond .eq 11, 3) := by decide +kernel
theorem dM_total_15 : decode cM_total 15 = .ok (.aload_n 0, 1) := by decide +kernel
theorem dM_total_16 : decode cM_total 16 = .ok (.getfield 20, 3) := by decide +kernel
theorem dM_total_19 : decode cM_total 19 = .ok (.invokestatic 45, 3) := by decide +kernel
theorem dM_total_22 : decode cM_total 22 = .ok (.ireturn, 1) := by decide +kernel
theorem dM_total_23 : decode cM_total 23 = .ok (.aload_n 0, 1) := by decide +kernel
theorem dM_total_24 : decode cM_total 24 = .ok (.getfield 13, 3) := by decide +kernel
theorem dM_total_27 : decode cM_total 27 = .ok (.bipush 32, 2) := by decide +kernel
theorem dM_total_29 : decode cM_total 29 = .ok (.iload_n 1, 1) := by decide +kernel
theorem dM_total_30 : decode cM_total 30 = .ok (.imul, 1) := by decide +kernel
theorem dM_total_31 : decode cM_total 31 = .ok (.aload_n 0, 1) := by decide +kernel
theorem dM_total_32 : decode cM_total 32 = .ok (.getfield 20, 3) := by decide +kernel
theorem dM_total_35 : decode cM_total 35 = .ok (.iadd, 1) := by decide +kernel
theorem dM_total_36 : decode cM_total 36 = .ok (.iconst 1, 1) := by decide +kernel
theorem dM_total_37 : decode cM_total 37 = .ok (.isub, 1) := by decide +kernel
theorem dM_total_38 : decode cM_total 38 = .ok (.iaload, 1) := by decide +kernel
theorem dM_total_39 : decode cM_total 39 = .ok (.ldc 116, 2) := by decide +kernel
theorem dM_total_41 : decode cM_total 41 = .ok (.if_icmp .lt 7, 3) := by decide +kernel
theorem dM_total_44 : decode cM_total 44 = .ok (.iconst 1, 1) := by decide +kernel
theorem dM_total_45 : decode cM_total 45 = .ok (.goto 4, 3) := by decide +kernel
theorem dM_total_48 : decode cM_total 48 = .ok (.iconst 0, 1) := by decide +kernel
theorem dM_total_49 : decode cM_total 49 = .ok (.istore_n 2, 1) := by decide +kernel
theorem dM_total_50 : decode cM_total 50 = .ok (.iload_n 2, 1) := by decide +kernel
theorem dM_total_51 : decode cM_total 51 = .ok (.ifCond .eq 9, 3) := by decide +kernel
theorem dM_total_54 : decode cM_total 54 = .ok (.aload_n 0, 1) := by decide +kernel
theorem dM_total_55 : decode cM_total 55 = .ok (.iload_n 1, 1) := by decide +kernel
theorem dM_total_56 : decode cM_total 56 = .ok (.invokevirtual 133, 3) := by decide +kernel
theorem dM_total_59 : decode cM_total 59 = .ok (.pop, 1) := by decide +kernel
theorem dM_total_60 : decode cM_total 60 = .ok (.aload_n 0, 1) := by decide +kernel
theorem dM_total_61 : decode cM_total 61 = .ok (.iload_n 1, 1) := by decide +kernel
theorem dM_total_62 : decode cM_total 62 = .ok (.iconst 1, 1) := by decide +kernel
theorem dM_total_63 : decode cM_total 63 = .ok (.invokevirtual 130, 3) := by decide +kernel
theorem dM_total_66 : decode cM_total 66 = .ok (.iload_n 2, 1) := by decide +kernel
theorem dM_total_67 : decode cM_total 67 = .ok (.ifCond .eq 9, 3) := by decide +kernel
theorem dM_total_70 : decode cM_total 70 = .ok (.aload_n 0, 1) := by decide +kernel
theorem dM_total_71 : decode cM_total 71 = .ok (.iload_n 1, 1) := by decide +kernel
theorem dM_total_72 : decode cM_total 72 = .ok (.invokevirtual 133, 3) := by decide +kernel
theorem dM_total_75 : decode cM_total 75 = .ok (.pop, 1) := by decide +kernel
theorem dM_total_76 : decode cM_total 76 = .ok (.aload_n 0, 1) := by decide +kernel
theorem dM_total_77 : decode cM_total 77 = .ok (.iconst 1, 1) := by decide +kernel
theorem dM_total_78 : decode cM_total 78 = .ok (.iconst 0, 1) := by decide +kernel
theorem dM_total_79 : decode cM_total 79 = .ok (.invokevirtual 136, 3) := by decide +kernel
theorem dM_total_82 : decode cM_total 82 = .ok (.aload_n 0, 1) := by decide +kernel
theorem dM_total_83 : decode cM_total 83 = .ok (.iconst 0, 1) := by decide +kernel
theorem dM_total_84 : decode cM_total 84 = .ok (.sipush 264, 3) := by decide +kernel
theorem dM_total_87 : decode cM_total 87 = .ok (.bipush 8, 2) := by decide +kernel
theorem dM_total_89 : decode cM_total 89 = .ok (.aload_n 0, 1) := by decide +kernel
theorem dM_total_90 : decode cM_total 90 = .ok (.getfield 20, 3) := by decide +kernel
theorem dM_total_93 : decode cM_total 93 = .ok (.imul, 1) := by decide +kernel
theorem dM_total_94 : decode cM_total 94 = .ok (.isub, 1) := by decide +kernel
theorem dM_total_95 : decode cM_total 95 = .ok (.invokevirtual 35, 3) := by decide +kernel
theorem dM_total_98 : decode cM_total 98 = .ok (.aload_n 0, 1) := by decide +kernel
theorem dM_total_99 : decode cM_total 99 = .ok (.bipush 124, 2) := by decide +kernel
theorem dM_total_101 : decode cM_total 101 = .ok (.invokevirtual 93, 3) := by decide +kernel
theorem dM_total_104 : decode cM_total 104 = .ok (.aload_n 0, 1) := by decide +kernel
theorem dM_total_105 : decode cM_total 105 = .ok (.iload_n 2, 1) := by decide +kernel
theorem dM_total_106 : decode cM_total 106 = .ok (.aload_n 0, 1) := by decide +kernel
theorem dM_total_107 : decode cM_total 107 = .ok (.getfield 20, 3) := by decide +kernel
theorem dM_total_110 : decode cM_total 110 = .ok (.invokevirtual 96, 3) := by decide +kernel
theorem dM_total_113 : decode cM_total 113 = .ok (.ireturn, 1) := by decide +kernel
def yM_word : MethodName := ⟨RM, "word", "(II)J"⟩
abbrev cM_word : ByteArray := prog_5_method_48_code
theorem dM_word_0 : decode cM_word 0 = .ok (.iload_n 1, 1) := by decide +kernel
theorem dM_word_1 : decode cM_word 1 = .ok (.invokestatic 117, 3) := by decide +kernel
theorem dM_word_4 : decode cM_word 4 = .ok (.ifCond .eq 17, 3) := by decide +kernel
theorem dM_word_7 : decode cM_word 7 = .ok (.iload_n 2, 1) := by decide +kernel
theorem dM_word_8 : decode cM_word 8 = .ok (.ifCond .lt 13, 3) := by decide +kernel
theorem dM_word_11 : decode cM_word 11 = .ok (.iload_n 2, 1) := by decide +kernel
theorem dM_word_12 : decode cM_word 12 = .ok (.aload_n 0, 1) := by decide +kernel
theorem dM_word_13 : decode cM_word 13 = .ok (.getfield 20, 3) := by decide +kernel
theorem dM_word_16 : decode cM_word 16 = .ok (.iconst 4, 1) := by decide +kernel
theorem dM_word_17 : decode cM_word 17 = .ok (.idiv, 1) := by decide +kernel
theorem dM_word_18 : decode cM_word 18 = .ok (.if_icmp .lt 5, 3) := by decide +kernel
theorem dM_word_21 : decode cM_word 21 = .ok (.lconst 0, 1) := by decide +kernel
theorem dM_word_22 : decode cM_word 22 = .ok (.lreturn, 1) := by decide +kernel
theorem dM_word_23 : decode cM_word 23 = .ok (.lconst 0, 1) := by decide +kernel
theorem dM_word_24 : decode cM_word 24 = .ok (.lstore_n 3, 1) := by decide +kernel
theorem dM_word_25 : decode cM_word 25 = .ok (.iconst 3, 1) := by decide +kernel
theorem dM_word_26 : decode cM_word 26 = .ok (.istore 5, 2) := by decide +kernel
theorem dM_word_28 : decode cM_word 28 = .ok (.iload 5, 2) := by decide +kernel
theorem dM_word_30 : decode cM_word 30 = .ok (.ifCond .lt 32, 3) := by decide +kernel
theorem dM_word_33 : decode cM_word 33 = .ok (.lload_n 3, 1) := by decide +kernel
theorem dM_word_34 : decode cM_word 34 = .ok (.bipush 16, 2) := by decide +kernel
theorem dM_word_36 : decode cM_word 36 = .ok (.lshl, 1) := by decide +kernel
theorem dM_word_37 : decode cM_word 37 = .ok (.aload_n 0, 1) := by decide +kernel
theorem dM_word_38 : decode cM_word 38 = .ok (.getfield 13, 3) := by decide +kernel
theorem dM_word_41 : decode cM_word 41 = .ok (.bipush 32, 2) := by decide +kernel
theorem dM_word_43 : decode cM_word 43 = .ok (.iload_n 1, 1) := by decide +kernel
theorem dM_word_44 : decode cM_word 44 = .ok (.imul, 1) := by decide +kernel
theorem dM_word_45 : decode cM_word 45 = .ok (.iconst 4, 1) := by decide +kernel
theorem dM_word_46 : decode cM_word 46 = .ok (.iload_n 2, 1) := by decide +kernel
theorem dM_word_47 : decode cM_word 47 = .ok (.imul, 1) := by decide +kernel
theorem dM_word_48 : decode cM_word 48 = .ok (.iadd, 1) := by decide +kernel
theorem dM_word_49 : decode cM_word 49 = .ok (.iload 5, 2) := by decide +kernel
theorem dM_word_51 : decode cM_word 51 = .ok (.iadd, 1) := by decide +kernel
theorem dM_word_52 : decode cM_word 52 = .ok (.iaload, 1) := by decide +kernel
theorem dM_word_53 : decode cM_word 53 = .ok (.i2l, 1) := by decide +kernel
theorem dM_word_54 : decode cM_word 54 = .ok (.lor, 1) := by decide +kernel
theorem dM_word_55 : decode cM_word 55 = .ok (.lstore_n 3, 1) := by decide +kernel
theorem dM_word_56 : decode cM_word 56 = .ok (.iinc 5 (-1), 3) := by decide +kernel
theorem dM_word_59 : decode cM_word 59 = .ok (.goto (-31), 3) := by decide +kernel
theorem dM_word_62 : decode cM_word 62 = .ok (.lload_n 3, 1) := by decide +kernel
theorem dM_word_63 : decode cM_word 63 = .ok (.lreturn, 1) := by decide +kernel
def yM_compare : MethodName := ⟨RM, "compare", "(II)I"⟩
abbrev cM_compare : ByteArray := prog_5_method_49_code
theorem dM_compare_0 : decode cM_compare 0 = .ok (.aload_n 0, 1) := by decide +kernel
theorem dM_compare_1 : decode cM_compare 1 = .ok (.iload_n 1, 1) := by decide +kernel
theorem dM_compare_2 : decode cM_compare 2 = .ok (.invokevirtual 42, 3) := by decide +kernel
theorem dM_compare_5 : decode cM_compare 5 = .ok (.istore_n 3, 1) := by decide +kernel
theorem dM_compare_6 : decode cM_compare 6 = .ok (.aload_n 0, 1) := by decide +kernel
theorem dM_compare_7 : decode cM_compare 7 = .ok (.iload_n 2, 1) := by decide +kernel
theorem dM_compare_8 : decode cM_compare 8 = .ok (.invokevirtual 42, 3) := by decide +kernel
theorem dM_compare_11 : decode cM_compare 11 = .ok (.istore 4, 2) := by decide +kernel
theorem dM_compare_13 : decode cM_compare 13 = .ok (.iload_n 3, 1) := by decide +kernel
theorem dM_compare_14 : decode cM_compare 14 = .ok (.iload 4, 2) := by decide +kernel
theorem dM_compare_16 : decode cM_compare 16 = .ok (.if_icmp .ne 7, 3) := by decide +kernel
theorem dM_compare_19 : decode cM_compare 19 = .ok (.iconst 0, 1) := by decide +kernel
theorem dM_compare_20 : decode cM_compare 20 = .ok (.goto 14, 3) := by decide +kernel
theorem dM_compare_23 : decode cM_compare 23 = .ok (.iload_n 3, 1) := by decide +kernel
theorem dM_compare_24 : decode cM_compare 24 = .ok (.iload 4, 2) := by decide +kernel
theorem dM_compare_26 : decode cM_compare 26 = .ok (.if_icmp .ge 7, 3) := by decide +kernel
theorem dM_compare_29 : decode cM_compare 29 = .ok (.iconst (-1), 1) := by decide +kernel
theorem dM_compare_30 : decode cM_compare 30 = .ok (.goto 4, 3) := by decide +kernel
theorem dM_compare_33 : decode cM_compare 33 = .ok (.iconst 1, 1) := by decide +kernel
theorem dM_compare_34 : decode cM_compare 34 = .ok (.ireturn, 1) := by decide +kernel
