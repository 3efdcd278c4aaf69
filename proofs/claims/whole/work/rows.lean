section
-- ===== PART A: goes FIRST, ahead of the names: the tables' words, and 'selects' of the private methods out of them =====
/-- a private method of a class that the tables say can be made, by its rows of tables_1 -/
def lw_okq (q : MethodName × Nat) : Prop := (q.1.cls ≠ "java/lang/invoke/MethodHandle" ∧ q.1.cls ≠ "java/lang/invoke/VarHandle") ∧ Cond.instantiable q.1.cls q.2 ∈ tables_1 ∧ Cond.privateMethod q.1 ∈ tables_1 ∧ Cond.instanceMethod q.1 ∈ tables_1
theorem lw_p0 : lw_okq (⟨"TaperedQuire", "one", "()I"⟩, 6) := ⟨⟨by decide +kernel, by decide +kernel⟩, List.mem_of_getElem? (i := 9) (by decide +kernel), List.mem_of_getElem? (i := 91) (by decide +kernel), List.mem_of_getElem? (i := 92) (by decide +kernel)⟩
theorem lw_p1 : lw_okq (⟨"TaperedQuire", "setProduct", "(LTaperedQuire$Sum;II)V"⟩, 6) := ⟨⟨by decide +kernel, by decide +kernel⟩, List.mem_of_getElem? (i := 9) (by decide +kernel), List.mem_of_getElem? (i := 99) (by decide +kernel), List.mem_of_getElem? (i := 100) (by decide +kernel)⟩
theorem lw_p2 : lw_okq (⟨"TaperedQuire$Operand", "readBody", "(I)V"⟩, 4) := ⟨⟨by decide +kernel, by decide +kernel⟩, List.mem_of_getElem? (i := 37) (by decide +kernel), List.mem_of_getElem? (i := 116) (by decide +kernel), List.mem_of_getElem? (i := 117) (by decide +kernel)⟩
theorem lw_p3 : lw_okq (⟨"TaperedQuire$Sum", "setBits", "(JI)V"⟩, 2) := ⟨⟨by decide +kernel, by decide +kernel⟩, List.mem_of_getElem? (i := 21) (by decide +kernel), List.mem_of_getElem? (i := 145) (by decide +kernel), List.mem_of_getElem? (i := 146) (by decide +kernel)⟩
theorem lw_p4 : lw_okq (⟨"TaperedQuire", "roundedSum", "(LTaperedQuire$Sum;)I"⟩, 6) := ⟨⟨by decide +kernel, by decide +kernel⟩, List.mem_of_getElem? (i := 9) (by decide +kernel), List.mem_of_getElem? (i := 169) (by decide +kernel), List.mem_of_getElem? (i := 170) (by decide +kernel)⟩
theorem lw_p5 : lw_okq (⟨"TaperedQuireModel", "together", "(IIZ)I"⟩, 4) := ⟨⟨by decide +kernel, by decide +kernel⟩, List.mem_of_getElem? (i := 291) (by decide +kernel), List.mem_of_getElem? (i := 322) (by decide +kernel), List.mem_of_getElem? (i := 323) (by decide +kernel)⟩
theorem lw_p6 : lw_okq (⟨"TaperedQuireModel", "isNot", "(I)Z"⟩, 4) := ⟨⟨by decide +kernel, by decide +kernel⟩, List.mem_of_getElem? (i := 291) (by decide +kernel), List.mem_of_getElem? (i := 326) (by decide +kernel), List.mem_of_getElem? (i := 327) (by decide +kernel)⟩
theorem lw_p7 : lw_okq (⟨"TaperedQuireModel", "pattern", "(I)I"⟩, 4) := ⟨⟨by decide +kernel, by decide +kernel⟩, List.mem_of_getElem? (i := 291) (by decide +kernel), List.mem_of_getElem? (i := 330) (by decide +kernel), List.mem_of_getElem? (i := 331) (by decide +kernel)⟩
theorem lw_p8 : lw_okq (⟨"TaperedQuireModel", "load", "(III)V"⟩, 4) := ⟨⟨by decide +kernel, by decide +kernel⟩, List.mem_of_getElem? (i := 291) (by decide +kernel), List.mem_of_getElem? (i := 337) (by decide +kernel), List.mem_of_getElem? (i := 338) (by decide +kernel)⟩
theorem lw_p9 : lw_okq (⟨"TaperedQuireModel", "zero", "(I)V"⟩, 4) := ⟨⟨by decide +kernel, by decide +kernel⟩, List.mem_of_getElem? (i := 291) (by decide +kernel), List.mem_of_getElem? (i := 341) (by decide +kernel), List.mem_of_getElem? (i := 342) (by decide +kernel)⟩
theorem lw_p10 : lw_okq (⟨"TaperedQuireModel", "value", "(IJII)V"⟩, 4) := ⟨⟨by decide +kernel, by decide +kernel⟩, List.mem_of_getElem? (i := 291) (by decide +kernel), List.mem_of_getElem? (i := 345) (by decide +kernel), List.mem_of_getElem? (i := 346) (by decide +kernel)⟩
theorem lw_p11 : lw_okq (⟨"TaperedQuireModel", "setLong", "(IJ)V"⟩, 4) := ⟨⟨by decide +kernel, by decide +kernel⟩, List.mem_of_getElem? (i := 291) (by decide +kernel), List.mem_of_getElem? (i := 349) (by decide +kernel), List.mem_of_getElem? (i := 350) (by decide +kernel)⟩
theorem lw_p12 : lw_okq (⟨"TaperedQuireModel", "raise", "(II)V"⟩, 4) := ⟨⟨by decide +kernel, by decide +kernel⟩, List.mem_of_getElem? (i := 291) (by decide +kernel), List.mem_of_getElem? (i := 354) (by decide +kernel), List.mem_of_getElem? (i := 355) (by decide +kernel)⟩
theorem lw_p13 : lw_okq (⟨"TaperedQuireModel", "lower", "(II)V"⟩, 4) := ⟨⟨by decide +kernel, by decide +kernel⟩, List.mem_of_getElem? (i := 291) (by decide +kernel), List.mem_of_getElem? (i := 359) (by decide +kernel), List.mem_of_getElem? (i := 360) (by decide +kernel)⟩
theorem lw_p14 : lw_okq (⟨"TaperedQuireModel", "negative", "(I)Z"⟩, 4) := ⟨⟨by decide +kernel, by decide +kernel⟩, List.mem_of_getElem? (i := 291) (by decide +kernel), List.mem_of_getElem? (i := 363) (by decide +kernel), List.mem_of_getElem? (i := 364) (by decide +kernel)⟩
theorem lw_p15 : lw_okq (⟨"TaperedQuireModel", "joined", "(ZZ)Z"⟩, 4) := ⟨⟨by decide +kernel, by decide +kernel⟩, List.mem_of_getElem? (i := 291) (by decide +kernel), List.mem_of_getElem? (i := 367) (by decide +kernel), List.mem_of_getElem? (i := 368) (by decide +kernel)⟩
def lw_privs_1 : List (MethodName × Nat) := [(⟨"TaperedQuire", "one", "()I"⟩, 6), (⟨"TaperedQuire", "setProduct", "(LTaperedQuire$Sum;II)V"⟩, 6), (⟨"TaperedQuire$Operand", "readBody", "(I)V"⟩, 4), (⟨"TaperedQuire$Sum", "setBits", "(JI)V"⟩, 2), (⟨"TaperedQuire", "roundedSum", "(LTaperedQuire$Sum;)I"⟩, 6), (⟨"TaperedQuireModel", "together", "(IIZ)I"⟩, 4), (⟨"TaperedQuireModel", "isNot", "(I)Z"⟩, 4), (⟨"TaperedQuireModel", "pattern", "(I)I"⟩, 4), (⟨"TaperedQuireModel", "load", "(III)V"⟩, 4), (⟨"TaperedQuireModel", "zero", "(I)V"⟩, 4), (⟨"TaperedQuireModel", "value", "(IJII)V"⟩, 4), (⟨"TaperedQuireModel", "setLong", "(IJ)V"⟩, 4), (⟨"TaperedQuireModel", "raise", "(II)V"⟩, 4), (⟨"TaperedQuireModel", "lower", "(II)V"⟩, 4), (⟨"TaperedQuireModel", "negative", "(I)Z"⟩, 4), (⟨"TaperedQuireModel", "joined", "(ZZ)Z"⟩, 4)]
theorem lw_r1 : ∀ q ∈ lw_privs_1, lw_okq q := List.forall_mem_cons.mpr ⟨lw_p0, List.forall_mem_cons.mpr ⟨lw_p1, List.forall_mem_cons.mpr ⟨lw_p2, List.forall_mem_cons.mpr ⟨lw_p3, List.forall_mem_cons.mpr ⟨lw_p4, List.forall_mem_cons.mpr ⟨lw_p5, List.forall_mem_cons.mpr ⟨lw_p6, List.forall_mem_cons.mpr ⟨lw_p7, List.forall_mem_cons.mpr ⟨lw_p8, List.forall_mem_cons.mpr ⟨lw_p9, List.forall_mem_cons.mpr ⟨lw_p10, List.forall_mem_cons.mpr ⟨lw_p11, List.forall_mem_cons.mpr ⟨lw_p12, List.forall_mem_cons.mpr ⟨lw_p13, List.forall_mem_cons.mpr ⟨lw_p14, List.forall_mem_cons.mpr ⟨lw_p15, fun _ h => absurd h List.not_mem_nil⟩⟩⟩⟩⟩⟩⟩⟩⟩⟩⟩⟩⟩⟩⟩⟩
theorem lw_p16 : lw_okq (⟨"TaperedQuireModel", "plus", "(II)V"⟩, 4) := ⟨⟨by decide +kernel, by decide +kernel⟩, List.mem_of_getElem? (i := 291) (by decide +kernel), List.mem_of_getElem? (i := 371) (by decide +kernel), List.mem_of_getElem? (i := 372) (by decide +kernel)⟩
theorem lw_p17 : lw_okq (⟨"TaperedQuireModel", "order", "(II)I"⟩, 4) := ⟨⟨by decide +kernel, by decide +kernel⟩, List.mem_of_getElem? (i := 291) (by decide +kernel), List.mem_of_getElem? (i := 375) (by decide +kernel), List.mem_of_getElem? (i := 376) (by decide +kernel)⟩
theorem lw_p18 : lw_okq (⟨"TaperedQuireModel", "apart", "(III)V"⟩, 4) := ⟨⟨by decide +kernel, by decide +kernel⟩, List.mem_of_getElem? (i := 291) (by decide +kernel), List.mem_of_getElem? (i := 379) (by decide +kernel), List.mem_of_getElem? (i := 380) (by decide +kernel)⟩
theorem lw_p19 : lw_okq (⟨"TaperedQuireModel", "factor", "(I)V"⟩, 4) := ⟨⟨by decide +kernel, by decide +kernel⟩, List.mem_of_getElem? (i := 291) (by decide +kernel), List.mem_of_getElem? (i := 383) (by decide +kernel), List.mem_of_getElem? (i := 384) (by decide +kernel)⟩
theorem lw_p20 : lw_okq (⟨"TaperedQuireModel", "rounded", "(ZI)I"⟩, 4) := ⟨⟨by decide +kernel, by decide +kernel⟩, List.mem_of_getElem? (i := 291) (by decide +kernel), List.mem_of_getElem? (i := 387) (by decide +kernel), List.mem_of_getElem? (i := 388) (by decide +kernel)⟩
theorem lw_p21 : lw_okq (⟨"TaperedQuireModel", "isZero", "(I)Z"⟩, 4) := ⟨⟨by decide +kernel, by decide +kernel⟩, List.mem_of_getElem? (i := 291) (by decide +kernel), List.mem_of_getElem? (i := 391) (by decide +kernel), List.mem_of_getElem? (i := 392) (by decide +kernel)⟩
theorem lw_p22 : lw_okq (⟨"TaperedQuireModel", "against", "(JI)I"⟩, 4) := ⟨⟨by decide +kernel, by decide +kernel⟩, List.mem_of_getElem? (i := 291) (by decide +kernel), List.mem_of_getElem? (i := 395) (by decide +kernel), List.mem_of_getElem? (i := 396) (by decide +kernel)⟩
theorem lw_p23 : lw_okq (⟨"TaperedQuireModel", "times", "(III)V"⟩, 4) := ⟨⟨by decide +kernel, by decide +kernel⟩, List.mem_of_getElem? (i := 291) (by decide +kernel), List.mem_of_getElem? (i := 399) (by decide +kernel), List.mem_of_getElem? (i := 400) (by decide +kernel)⟩
theorem lw_p24 : lw_okq (⟨"TaperedQuireModel", "nearest", "(I)V"⟩, 4) := ⟨⟨by decide +kernel, by decide +kernel⟩, List.mem_of_getElem? (i := 291) (by decide +kernel), List.mem_of_getElem? (i := 429) (by decide +kernel), List.mem_of_getElem? (i := 430) (by decide +kernel)⟩
theorem lw_p25 : lw_okq (⟨"TaperedQuireModel", "bit", "(II)I"⟩, 4) := ⟨⟨by decide +kernel, by decide +kernel⟩, List.mem_of_getElem? (i := 291) (by decide +kernel), List.mem_of_getElem? (i := 433) (by decide +kernel), List.mem_of_getElem? (i := 434) (by decide +kernel)⟩
theorem lw_p26 : lw_okq (⟨"TaperedQuireModel", "lose", "(I)V"⟩, 4) := ⟨⟨by decide +kernel, by decide +kernel⟩, List.mem_of_getElem? (i := 291) (by decide +kernel), List.mem_of_getElem? (i := 465) (by decide +kernel), List.mem_of_getElem? (i := 466) (by decide +kernel)⟩
theorem lw_p27 : lw_okq (⟨"TaperedQuireModel", "lost", "(I)Z"⟩, 4) := ⟨⟨by decide +kernel, by decide +kernel⟩, List.mem_of_getElem? (i := 291) (by decide +kernel), List.mem_of_getElem? (i := 470) (by decide +kernel), List.mem_of_getElem? (i := 471) (by decide +kernel)⟩
theorem lw_p28 : lw_okq (⟨"TaperedQuireModel", "pour", "(IIZ)V"⟩, 4) := ⟨⟨by decide +kernel, by decide +kernel⟩, List.mem_of_getElem? (i := 291) (by decide +kernel), List.mem_of_getElem? (i := 474) (by decide +kernel), List.mem_of_getElem? (i := 475) (by decide +kernel)⟩
theorem lw_p29 : lw_okq (⟨"TaperedQuireModel", "draw", "(II)V"⟩, 4) := ⟨⟨by decide +kernel, by decide +kernel⟩, List.mem_of_getElem? (i := 291) (by decide +kernel), List.mem_of_getElem? (i := 482) (by decide +kernel), List.mem_of_getElem? (i := 483) (by decide +kernel)⟩
theorem lw_p30 : lw_okq (⟨"TaperedQuireModel", "move", "(II)V"⟩, 4) := ⟨⟨by decide +kernel, by decide +kernel⟩, List.mem_of_getElem? (i := 291) (by decide +kernel), List.mem_of_getElem? (i := 495) (by decide +kernel), List.mem_of_getElem? (i := 496) (by decide +kernel)⟩
def lw_privs_2 : List (MethodName × Nat) := [(⟨"TaperedQuireModel", "plus", "(II)V"⟩, 4), (⟨"TaperedQuireModel", "order", "(II)I"⟩, 4), (⟨"TaperedQuireModel", "apart", "(III)V"⟩, 4), (⟨"TaperedQuireModel", "factor", "(I)V"⟩, 4), (⟨"TaperedQuireModel", "rounded", "(ZI)I"⟩, 4), (⟨"TaperedQuireModel", "isZero", "(I)Z"⟩, 4), (⟨"TaperedQuireModel", "against", "(JI)I"⟩, 4), (⟨"TaperedQuireModel", "times", "(III)V"⟩, 4), (⟨"TaperedQuireModel", "nearest", "(I)V"⟩, 4), (⟨"TaperedQuireModel", "bit", "(II)I"⟩, 4), (⟨"TaperedQuireModel", "lose", "(I)V"⟩, 4), (⟨"TaperedQuireModel", "lost", "(I)Z"⟩, 4), (⟨"TaperedQuireModel", "pour", "(IIZ)V"⟩, 4), (⟨"TaperedQuireModel", "draw", "(II)V"⟩, 4), (⟨"TaperedQuireModel", "move", "(II)V"⟩, 4)]
theorem lw_r2 : ∀ q ∈ lw_privs_2, lw_okq q := List.forall_mem_cons.mpr ⟨lw_p16, List.forall_mem_cons.mpr ⟨lw_p17, List.forall_mem_cons.mpr ⟨lw_p18, List.forall_mem_cons.mpr ⟨lw_p19, List.forall_mem_cons.mpr ⟨lw_p20, List.forall_mem_cons.mpr ⟨lw_p21, List.forall_mem_cons.mpr ⟨lw_p22, List.forall_mem_cons.mpr ⟨lw_p23, List.forall_mem_cons.mpr ⟨lw_p24, List.forall_mem_cons.mpr ⟨lw_p25, List.forall_mem_cons.mpr ⟨lw_p26, List.forall_mem_cons.mpr ⟨lw_p27, List.forall_mem_cons.mpr ⟨lw_p28, List.forall_mem_cons.mpr ⟨lw_p29, List.forall_mem_cons.mpr ⟨lw_p30, fun _ h => absurd h List.not_mem_nil⟩⟩⟩⟩⟩⟩⟩⟩⟩⟩⟩⟩⟩⟩⟩
def lw_privs : List (MethodName × Nat) := lw_privs_1 ++ (lw_privs_2)
def lw_tbl : List Cond := k2_sels lw_privs ++ tables_1
theorem lw_privs_ok : ∀ q ∈ lw_privs, lw_okq q := by
  show ∀ q ∈ lw_privs_1 ++ (lw_privs_2), lw_okq q
  exact List.forall_mem_append.mpr ⟨lw_r1, lw_r2⟩
end
section
def RX0 : String := "TaperedQuire$Operand"
def TX0 : u_T := fun k => match k with
  | 0 => ("TaperedQuire$Operand", "not", "Z", false)
  | 1 => ("TaperedQuire$Operand", "negative", "Z", false)
  | 2 => ("TaperedQuire$Operand", "magnitude", "J", false)
  | _ => ("TaperedQuire$Operand", "exponent", "I", false)
def tyX0 : Nat → FieldType := fun k => match k with
  | 0 => .boolean
  | 1 => .boolean
  | 2 => .long
  | _ => .int
abbrev wsX00 : List Cond := u_ws RX0 TX0 4
theorem nmX0 : ∀ a, a < 4 → ∀ b, b < 4 → a ≠ b → (TX0 a).2.1 ≠ (TX0 b).2.1 := by decide +kernel
theorem tyX0_ok : ∀ k, k < 4 → parseFieldDescriptor (TX0 k).2.2.1 = some (tyX0 k) := by decide +kernel
abbrev cX0_init : ByteArray := prog_2_method_1_code
def yX0_init : MethodName := ⟨RX0, "<init>", "()V"⟩
abbrev cX0_read : ByteArray := prog_2_method_2_code
def yX0_read : MethodName := ⟨RX0, "read", "(II)V"⟩
abbrev cX0_readBody : ByteArray := prog_2_method_3_code
def yX0_readBody : MethodName := ⟨RX0, "readBody", "(I)V"⟩
def RX1 : String := "TaperedQuire$Sum"
def TX1 : u_T := fun k => match k with
  | 0 => ("TaperedQuire$Sum", "placeOfOne", "I", true)
  | _ => ("TaperedQuire$Sum", "words", "[J", true)
def tyX1 : Nat → FieldType := fun k => match k with
  | 0 => .int
  | _ => .array .long
abbrev wsX10 : List Cond := u_ws RX1 TX1 2
theorem nmX1 : ∀ a, a < 2 → ∀ b, b < 2 → a ≠ b → (TX1 a).2.1 ≠ (TX1 b).2.1 := by decide +kernel
theorem tyX1_ok : ∀ k, k < 2 → parseFieldDescriptor (TX1 k).2.2.1 = some (tyX1 k) := by decide +kernel
abbrev cX1_init : ByteArray := prog_3_method_1_code
def yX1_init : MethodName := ⟨RX1, "<init>", "(I)V"⟩
abbrev cX1_setZero : ByteArray := prog_3_method_2_code
def yX1_setZero : MethodName := ⟨RX1, "setZero", "()V"⟩
abbrev cX1_setNot : ByteArray := prog_3_method_3_code
def yX1_setNot : MethodName := ⟨RX1, "setNot", "()V"⟩
abbrev cX1_isNot : ByteArray := prog_3_method_4_code
def yX1_isNot : MethodName := ⟨RX1, "isNot", "()Z"⟩
abbrev cX1_isNegative : ByteArray := prog_3_method_5_code
def yX1_isNegative : MethodName := ⟨RX1, "isNegative", "()Z"⟩
abbrev cX1_copy : ByteArray := prog_3_method_6_code
def yX1_copy : MethodName := ⟨RX1, "copy", "(LTaperedQuire$Sum;)V"⟩
abbrev cX1_setProduct : ByteArray := prog_3_method_7_code
def yX1_setProduct : MethodName := ⟨RX1, "setProduct", "(LTaperedQuire$Operand;LTaperedQuire$Operand;)V"⟩
abbrev cX1_setBits : ByteArray := prog_3_method_8_code
def yX1_setBits : MethodName := ⟨RX1, "setBits", "(JI)V"⟩
abbrev cX1_flip : ByteArray := prog_3_method_9_code
def yX1_flip : MethodName := ⟨RX1, "flip", "()V"⟩
abbrev cX1_include : ByteArray := prog_3_method_10_code
def yX1_include : MethodName := ⟨RX1, "include", "(LTaperedQuire$Sum;)V"⟩
abbrev cX1_topBit : ByteArray := prog_3_method_11_code
def yX1_topBit : MethodName := ⟨RX1, "topBit", "()I"⟩
abbrev cX1_leadingBits : ByteArray := prog_3_method_12_code
def yX1_leadingBits : MethodName := ⟨RX1, "leadingBits", "(I)J"⟩
abbrev cX1_hasBitsBelow : ByteArray := prog_3_method_13_code
def yX1_hasBitsBelow : MethodName := ⟨RX1, "hasBitsBelow", "(I)Z"⟩
def RX2 : String := "TaperedQuire"
def TX2 : u_T := fun k => match k with
  | 0 => ("TaperedQuire", "size", "I", true)
  | 1 => ("TaperedQuire", "sums", "[LTaperedQuire$Sum;", true)
  | 2 => ("TaperedQuire", "exact", "LTaperedQuire$Sum;", true)
  | 3 => ("TaperedQuire", "term", "LTaperedQuire$Sum;", true)
  | 4 => ("TaperedQuire", "left", "LTaperedQuire$Operand;", true)
  | _ => ("TaperedQuire", "right", "LTaperedQuire$Operand;", true)
def tyX2 : Nat → FieldType := fun k => match k with
  | 0 => .int
  | 1 => .array (.object "TaperedQuire$Sum")
  | 2 => .object "TaperedQuire$Sum"
  | 3 => .object "TaperedQuire$Sum"
  | 4 => .object "TaperedQuire$Operand"
  | _ => .object "TaperedQuire$Operand"
abbrev wsX20 : List Cond := u_ws RX2 TX2 6
theorem nmX2 : ∀ a, a < 6 → ∀ b, b < 6 → a ≠ b → (TX2 a).2.1 ≠ (TX2 b).2.1 := by decide +kernel
theorem tyX2_ok : ∀ k, k < 6 → parseFieldDescriptor (TX2 k).2.2.1 = some (tyX2 k) := by decide +kernel
abbrev cX2_init : ByteArray := prog_1_method_1_code
def yX2_init : MethodName := ⟨RX2, "<init>", "(I)V"⟩
abbrev cX2_bits : ByteArray := prog_1_method_2_code
def yX2_bits : MethodName := ⟨RX2, "bits", "()I"⟩
abbrev cX2_add : ByteArray := prog_1_method_3_code
def yX2_add : MethodName := ⟨RX2, "add", "(II)I"⟩
abbrev cX2_subtract : ByteArray := prog_1_method_4_code
def yX2_subtract : MethodName := ⟨RX2, "subtract", "(II)I"⟩
abbrev cX2_multiply : ByteArray := prog_1_method_5_code
def yX2_multiply : MethodName := ⟨RX2, "multiply", "(II)I"⟩
abbrev cX2_divide : ByteArray := prog_1_method_6_code
def yX2_divide : MethodName := ⟨RX2, "divide", "(II)I"⟩
abbrev cX2_root : ByteArray := prog_1_method_7_code
def yX2_root : MethodName := ⟨RX2, "root", "(I)I"⟩
abbrev cX2_fused : ByteArray := prog_1_method_8_code
def yX2_fused : MethodName := ⟨RX2, "fused", "(III)I"⟩
abbrev cX2_whole : ByteArray := prog_1_method_9_code
def yX2_whole : MethodName := ⟨RX2, "whole", "(I)I"⟩
abbrev cX2_next : ByteArray := prog_1_method_10_code
def yX2_next : MethodName := ⟨RX2, "next", "(I)I"⟩
abbrev cX2_sizeOfWidth : ByteArray := prog_1_method_21_code
def yX2_sizeOfWidth : MethodName := ⟨RX2, "sizeOfWidth", "(I)I"⟩
abbrev cX2_patternOf : ByteArray := prog_1_method_22_code
def yX2_patternOf : MethodName := ⟨RX2, "patternOf", "(II)I"⟩
abbrev cX2_notOf : ByteArray := prog_1_method_23_code
def yX2_notOf : MethodName := ⟨RX2, "notOf", "(I)I"⟩
abbrev cX2_one : ByteArray := prog_1_method_24_code
def yX2_one : MethodName := ⟨RX2, "one", "()I"⟩
abbrev cX2_setProduct : ByteArray := prog_1_method_26_code
def yX2_setProduct : MethodName := ⟨RX2, "setProduct", "(LTaperedQuire$Sum;II)V"⟩
abbrev cX2_floorRoot : ByteArray := prog_1_method_27_code
def yX2_floorRoot : MethodName := ⟨RX2, "floorRoot", "(J)J"⟩
abbrev cX2_nearestWhole : ByteArray := prog_1_method_28_code
def yX2_nearestWhole : MethodName := ⟨RX2, "nearestWhole", "(LTaperedQuire$Operand;)J"⟩
abbrev cX2_roundedSum : ByteArray := prog_1_method_29_code
def yX2_roundedSum : MethodName := ⟨RX2, "roundedSum", "(LTaperedQuire$Sum;)I"⟩
abbrev cX2_rounded : ByteArray := prog_1_method_30_code
def yX2_rounded : MethodName := ⟨RX2, "rounded", "(IZJIZ)I"⟩
abbrev cX2_signedPattern : ByteArray := prog_1_method_31_code
def yX2_signedPattern : MethodName := ⟨RX2, "signedPattern", "(IZIJZ)I"⟩
abbrev cX2_positivePattern : ByteArray := prog_1_method_32_code
def yX2_positivePattern : MethodName := ⟨RX2, "positivePattern", "(IIJZ)I"⟩
def RJ6 : String := "java/lang/Integer"
abbrev cJ6_numberOfLeadingZeros_0f7a4 : ByteArray := prog_6_method_47_code
def yJ6_numberOfLeadingZeros_0f7a4 : MethodName := ⟨RJ6, "numberOfLeadingZeros", "(I)I"⟩
abbrev cJ6_numberOfTrailingZeros_0f7a4 : ByteArray := prog_6_method_48_code
def yJ6_numberOfTrailingZeros_0f7a4 : MethodName := ⟨RJ6, "numberOfTrailingZeros", "(I)I"⟩
def RJ13 : String := "java/lang/Long"
abbrev cJ13_numberOfLeadingZeros_95d88 : ByteArray := prog_7_method_48_code
def yJ13_numberOfLeadingZeros_95d88 : MethodName := ⟨RJ13, "numberOfLeadingZeros", "(J)I"⟩
abbrev cJ13_numberOfTrailingZeros_95d88 : ByteArray := prog_7_method_49_code
def yJ13_numberOfTrailingZeros_95d88 : MethodName := ⟨RJ13, "numberOfTrailingZeros", "(J)I"⟩
def RJ9 : String := "java/lang/Math"
abbrev cJ9_abs_0f7a4 : ByteArray := prog_8_method_59_code
def yJ9_abs_0f7a4 : MethodName := ⟨RJ9, "abs", "(I)I"⟩
abbrev cJ9_min_7cf53 : ByteArray := prog_8_method_69_code
def yJ9_min_7cf53 : MethodName := ⟨RJ9, "min", "(II)I"⟩
def RL : String := "TaperedQuireLaw"
abbrev cL_law : ByteArray := code
def yL_law : MethodName := ⟨RL, "law", "([I)Z"⟩
theorem dX0_init_0 : decode cX0_init 0 = .ok (.aload_n 0, 1) := by decide +kernel
theorem dX0_init_1 : decode cX0_init 1 = .ok (.invokespecial 1, 3) := by decide +kernel
theorem dX0_init_4 : decode cX0_init 4 = .ok (.return_, 1) := by decide +kernel
theorem dX0_read_0 : decode cX0_read 0 = .ok (.iload_n 1, 1) := by decide +kernel
theorem dX0_read_1 : decode cX0_read 1 = .ok (.iload_n 2, 1) := by decide +kernel
theorem dX0_read_2 : decode cX0_read 2 = .ok (.invokestatic 7, 3) := by decide +kernel
theorem dX0_read_5 : decode cX0_read 5 = .ok (.istore_n 3, 1) := by decide +kernel
theorem dX0_read_6 : decode cX0_read 6 = .ok (.aload_n 0, 1) := by decide +kernel
theorem dX0_read_7 : decode cX0_read 7 = .ok (.iload_n 3, 1) := by decide +kernel
theorem dX0_read_8 : decode cX0_read 8 = .ok (.iload_n 2, 1) := by decide +kernel
theorem dX0_read_9 : decode cX0_read 9 = .ok (.invokestatic 13, 3) := by decide +kernel
theorem dX0_read_12 : decode cX0_read 12 = .ok (.if_icmp .ne 7, 3) := by decide +kernel
theorem dX0_read_15 : decode cX0_read 15 = .ok (.iconst 1, 1) := by decide +kernel
theorem dX0_read_16 : decode cX0_read 16 = .ok (.goto 4, 3) := by decide +kernel
theorem dX0_read_19 : decode cX0_read 19 = .ok (.iconst 0, 1) := by decide +kernel
theorem dX0_read_20 : decode cX0_read 20 = .ok (.putfield 17, 3) := by decide +kernel
theorem dX0_read_23 : decode cX0_read 23 = .ok (.aload_n 0, 1) := by decide +kernel
theorem dX0_read_24 : decode cX0_read 24 = .ok (.iload_n 3, 1) := by decide +kernel
theorem dX0_read_25 : decode cX0_read 25 = .ok (.ifCond .ge 7, 3) := by decide +kernel
theorem dX0_read_28 : decode cX0_read 28 = .ok (.iconst 1, 1) := by decide +kernel
theorem dX0_read_29 : decode cX0_read 29 = .ok (.goto 4, 3) := by decide +kernel
theorem dX0_read_32 : decode cX0_read 32 = .ok (.iconst 0, 1) := by decide +kernel
theorem dX0_read_33 : decode cX0_read 33 = .ok (.putfield 23, 3) := by decide +kernel
theorem dX0_read_36 : decode cX0_read 36 = .ok (.aload_n 0, 1) := by decide +kernel
theorem dX0_read_37 : decode cX0_read 37 = .ok (.lconst 0, 1) := by decide +kernel
theorem dX0_read_38 : decode cX0_read 38 = .ok (.putfield 26, 3) := by decide +kernel
theorem dX0_read_41 : decode cX0_read 41 = .ok (.aload_n 0, 1) := by decide +kernel
theorem dX0_read_42 : decode cX0_read 42 = .ok (.iconst 0, 1) := by decide +kernel
theorem dX0_read_43 : decode cX0_read 43 = .ok (.putfield 30, 3) := by decide +kernel
theorem dX0_read_46 : decode cX0_read 46 = .ok (.iload_n 3, 1) := by decide +kernel
theorem dX0_read_47 : decode cX0_read 47 = .ok (.ifCond .eq 23, 3) := by decide +kernel
theorem dX0_read_50 : decode cX0_read 50 = .ok (.aload_n 0, 1) := by decide +kernel
theorem dX0_read_51 : decode cX0_read 51 = .ok (.getfield 17, 3) := by decide +kernel
theorem dX0_read_54 : decode cX0_read 54 = .ok (.ifCond .ne 16, 3) := by decide +kernel
theorem dX0_read_57 : decode cX0_read 57 = .ok (.aload_n 0, 1) := by decide +kernel
theorem dX0_read_58 : decode cX0_read 58 = .ok (.iload_n 3, 1) := by decide +kernel
theorem dX0_read_59 : decode cX0_read 59 = .ok (.invokestatic 34, 3) := by decide +kernel
theorem dX0_read_62 : decode cX0_read 62 = .ok (.bipush 33, 2) := by decide +kernel
theorem dX0_read_64 : decode cX0_read 64 = .ok (.iload_n 2, 1) := by decide +kernel
theorem dX0_read_65 : decode cX0_read 65 = .ok (.isub, 1) := by decide +kernel
theorem dX0_read_66 : decode cX0_read 66 = .ok (.ishl, 1) := by decide +kernel
theorem dX0_read_67 : decode cX0_read 67 = .ok (.invokevirtual 39, 3) := by decide +kernel
theorem dX0_read_70 : decode cX0_read 70 = .ok (.return_, 1) := by decide +kernel
theorem dX0_readBody_0 : decode cX0_readBody 0 = .ok (.iload_n 1, 1) := by decide +kernel
theorem dX0_readBody_1 : decode cX0_readBody 1 = .ok (.ifCond .ge 7, 3) := by decide +kernel
theorem dX0_readBody_4 : decode cX0_readBody 4 = .ok (.iconst 1, 1) := by decide +kernel
theorem dX0_readBody_5 : decode cX0_readBody 5 = .ok (.goto 4, 3) := by decide +kernel
theorem dX0_readBody_8 : decode cX0_readBody 8 = .ok (.iconst 0, 1) := by decide +kernel
theorem dX0_readBody_9 : decode cX0_readBody 9 = .ok (.istore_n 2, 1) := by decide +kernel
theorem dX0_readBody_10 : decode cX0_readBody 10 = .ok (.iload_n 2, 1) := by decide +kernel
theorem dX0_readBody_11 : decode cX0_readBody 11 = .ok (.ifCond .eq 9, 3) := by decide +kernel
theorem dX0_readBody_14 : decode cX0_readBody 14 = .ok (.iload_n 1, 1) := by decide +kernel
theorem dX0_readBody_15 : decode cX0_readBody 15 = .ok (.iconst (-1), 1) := by decide +kernel
theorem dX0_readBody_16 : decode cX0_readBody 16 = .ok (.ixor, 1) := by decide +kernel
theorem dX0_readBody_17 : decode cX0_readBody 17 = .ok (.goto 4, 3) := by decide +kernel
theorem dX0_readBody_20 : decode cX0_readBody 20 = .ok (.iload_n 1, 1) := by decide +kernel
theorem dX0_readBody_21 : decode cX0_readBody 21 = .ok (.invokestatic 43, 3) := by decide +kernel
theorem dX0_readBody_24 : decode cX0_readBody 24 = .ok (.istore_n 3, 1) := by decide +kernel
theorem dX0_readBody_25 : decode cX0_readBody 25 = .ok (.iload_n 2, 1) := by decide +kernel
theorem dX0_readBody_26 : decode cX0_readBody 26 = .ok (.ifCond .eq 9, 3) := by decide +kernel
theorem dX0_readBody_29 : decode cX0_readBody 29 = .ok (.iload_n 3, 1) := by decide +kernel
theorem dX0_readBody_30 : decode cX0_readBody 30 = .ok (.iconst 1, 1) := by decide +kernel
theorem dX0_readBody_31 : decode cX0_readBody 31 = .ok (.isub, 1) := by decide +kernel
theorem dX0_readBody_32 : decode cX0_readBody 32 = .ok (.goto 5, 3) := by decide +kernel
theorem dX0_readBody_35 : decode cX0_readBody 35 = .ok (.iload_n 3, 1) := by decide +kernel
theorem dX0_readBody_36 : decode cX0_readBody 36 = .ok (.ineg, 1) := by decide +kernel
theorem dX0_readBody_37 : decode cX0_readBody 37 = .ok (.istore 4, 2) := by decide +kernel
theorem dX0_readBody_39 : decode cX0_readBody 39 = .ok (.iload_n 1, 1) := by decide +kernel
theorem dX0_readBody_40 : decode cX0_readBody 40 = .ok (.iload_n 3, 1) := by decide +kernel
theorem dX0_readBody_41 : decode cX0_readBody 41 = .ok (.ishl, 1) := by decide +kernel
theorem dX0_readBody_42 : decode cX0_readBody 42 = .ok (.iconst 1, 1) := by decide +kernel
theorem dX0_readBody_43 : decode cX0_readBody 43 = .ok (.ishl, 1) := by decide +kernel
theorem dX0_readBody_44 : decode cX0_readBody 44 = .ok (.istore 5, 2) := by decide +kernel
theorem dX0_readBody_46 : decode cX0_readBody 46 = .ok (.iconst 4, 1) := by decide +kernel
theorem dX0_readBody_47 : decode cX0_readBody 47 = .ok (.iload 4, 2) := by decide +kernel
theorem dX0_readBody_49 : decode cX0_readBody 49 = .ok (.imul, 1) := by decide +kernel
theorem dX0_readBody_50 : decode cX0_readBody 50 = .ok (.iload 5, 2) := by decide +kernel
theorem dX0_readBody_52 : decode cX0_readBody 52 = .ok (.bipush 30, 2) := by decide +kernel
theorem dX0_readBody_54 : decode cX0_readBody 54 = .ok (.iushr, 1) := by decide +kernel
theorem dX0_readBody_55 : decode cX0_readBody 55 = .ok (.iadd, 1) := by decide +kernel
theorem dX0_readBody_56 : decode cX0_readBody 56 = .ok (.istore 6, 2) := by decide +kernel
theorem dX0_readBody_58 : decode cX0_readBody 58 = .ok (.iload 5, 2) := by decide +kernel
theorem dX0_readBody_60 : decode cX0_readBody 60 = .ok (.iconst 2, 1) := by decide +kernel
theorem dX0_readBody_61 : decode cX0_readBody 61 = .ok (.ishl, 1) := by decide +kernel
theorem dX0_readBody_62 : decode cX0_readBody 62 = .ok (.i2l, 1) := by decide +kernel
theorem dX0_readBody_63 : decode cX0_readBody 63 = .ok (.ldc2_w 48, 3) := by decide +kernel
theorem dX0_readBody_66 : decode cX0_readBody 66 = .ok (.land, 1) := by decide +kernel
theorem dX0_readBody_67 : decode cX0_readBody 67 = .ok (.lstore 7, 2) := by decide +kernel
theorem dX0_readBody_69 : decode cX0_readBody 69 = .ok (.ldc2_w 50, 3) := by decide +kernel
theorem dX0_readBody_72 : decode cX0_readBody 72 = .ok (.lload 7, 2) := by decide +kernel
theorem dX0_readBody_74 : decode cX0_readBody 74 = .ok (.lor, 1) := by decide +kernel
theorem dX0_readBody_75 : decode cX0_readBody 75 = .ok (.lstore 9, 2) := by decide +kernel
theorem dX0_readBody_77 : decode cX0_readBody 77 = .ok (.lload 9, 2) := by decide +kernel
theorem dX0_readBody_79 : decode cX0_readBody 79 = .ok (.invokestatic 52, 3) := by decide +kernel
theorem dX0_readBody_82 : decode cX0_readBody 82 = .ok (.istore 11, 2) := by decide +kernel
theorem dX0_readBody_84 : decode cX0_readBody 84 = .ok (.aload_n 0, 1) := by decide +kernel
theorem dX0_readBody_85 : decode cX0_readBody 85 = .ok (.lload 9, 2) := by decide +kernel
theorem dX0_readBody_87 : decode cX0_readBody 87 = .ok (.iload 11, 2) := by decide +kernel
theorem dX0_readBody_89 : decode cX0_readBody 89 = .ok (.lshr, 1) := by decide +kernel
theorem dX0_readBody_90 : decode cX0_readBody 90 = .ok (.putfield 26, 3) := by decide +kernel
theorem dX0_readBody_93 : decode cX0_readBody 93 = .ok (.aload_n 0, 1) := by decide +kernel
theorem dX0_readBody_94 : decode cX0_readBody 94 = .ok (.iload 6, 2) := by decide +kernel
theorem dX0_readBody_96 : decode cX0_readBody 96 = .ok (.bipush 32, 2) := by decide +kernel
theorem dX0_readBody_98 : decode cX0_readBody 98 = .ok (.isub, 1) := by decide +kernel
theorem dX0_readBody_99 : decode cX0_readBody 99 = .ok (.iload 11, 2) := by decide +kernel
theorem dX0_readBody_101 : decode cX0_readBody 101 = .ok (.iadd, 1) := by decide +kernel
theorem dX0_readBody_102 : decode cX0_readBody 102 = .ok (.putfield 30, 3) := by decide +kernel
theorem dX0_readBody_105 : decode cX0_readBody 105 = .ok (.return_, 1) := by decide +kernel
theorem dX1_init_0 : decode cX1_init 0 = .ok (.aload_n 0, 1) := by decide +kernel
theorem dX1_init_1 : decode cX1_init 1 = .ok (.invokespecial 1, 3) := by decide +kernel
theorem dX1_init_4 : decode cX1_init 4 = .ok (.aload_n 0, 1) := by decide +kernel
theorem dX1_init_5 : decode cX1_init 5 = .ok (.bipush 8, 2) := by decide +kernel
theorem dX1_init_7 : decode cX1_init 7 = .ok (.iload_n 1, 1) := by decide +kernel
theorem dX1_init_8 : decode cX1_init 8 = .ok (.imul, 1) := by decide +kernel
theorem dX1_init_9 : decode cX1_init 9 = .ok (.bipush 16, 2) := by decide +kernel
theorem dX1_init_11 : decode cX1_init 11 = .ok (.isub, 1) := by decide +kernel
theorem dX1_init_12 : decode cX1_init 12 = .ok (.putfield 7, 3) := by decide +kernel
theorem dX1_init_15 : decode cX1_init 15 = .ok (.aload_n 0, 1) := by decide +kernel
theorem dX1_init_16 : decode cX1_init 16 = .ok (.bipush 16, 2) := by decide +kernel
theorem dX1_init_18 : decode cX1_init 18 = .ok (.iload_n 1, 1) := by decide +kernel
theorem dX1_init_19 : decode cX1_init 19 = .ok (.imul, 1) := by decide +kernel
theorem dX1_init_20 : decode cX1_init 20 = .ok (.bipush 64, 2) := by decide +kernel
theorem dX1_init_22 : decode cX1_init 22 = .ok (.idiv, 1) := by decide +kernel
theorem dX1_init_23 : decode cX1_init 23 = .ok (.newarray .long, 2) := by decide +kernel
theorem dX1_init_25 : decode cX1_init 25 = .ok (.putfield 13, 3) := by decide +kernel
theorem dX1_init_28 : decode cX1_init 28 = .ok (.return_, 1) := by decide +kernel
theorem dX1_setZero_0 : decode cX1_setZero 0 = .ok (.iconst 0, 1) := by decide +kernel
theorem dX1_setZero_1 : decode cX1_setZero 1 = .ok (.istore_n 1, 1) := by decide +kernel
theorem dX1_setZero_2 : decode cX1_setZero 2 = .ok (.iload_n 1, 1) := by decide +kernel
theorem dX1_setZero_3 : decode cX1_setZero 3 = .ok (.aload_n 0, 1) := by decide +kernel
theorem dX1_setZero_4 : decode cX1_setZero 4 = .ok (.getfield 13, 3) := by decide +kernel
theorem dX1_setZero_7 : decode cX1_setZero 7 = .ok (.arraylength, 1) := by decide +kernel
theorem dX1_setZero_8 : decode cX1_setZero 8 = .ok (.if_icmp .ge 16, 3) := by decide +kernel
theorem dX1_setZero_11 : decode cX1_setZero 11 = .ok (.aload_n 0, 1) := by decide +kernel
theorem dX1_setZero_12 : decode cX1_setZero 12 = .ok (.getfield 13, 3) := by decide +kernel
theorem dX1_setZero_15 : decode cX1_setZero 15 = .ok (.iload_n 1, 1) := by decide +kernel
theorem dX1_setZero_16 : decode cX1_setZero 16 = .ok (.lconst 0, 1) := by decide +kernel
theorem dX1_setZero_17 : decode cX1_setZero 17 = .ok (.lastore, 1) := by decide +kernel
theorem dX1_setZero_18 : decode cX1_setZero 18 = .ok (.iinc 1 1, 3) := by decide +kernel
theorem dX1_setZero_21 : decode cX1_setZero 21 = .ok (.goto (-19), 3) := by decide +kernel
theorem dX1_setZero_24 : decode cX1_setZero 24 = .ok (.return_, 1) := by decide +kernel
theorem dX1_setNot_0 : decode cX1_setNot 0 = .ok (.aload_n 0, 1) := by decide +kernel
theorem dX1_setNot_1 : decode cX1_setNot 1 = .ok (.invokevirtual 17, 3) := by decide +kernel
theorem dX1_setNot_4 : decode cX1_setNot 4 = .ok (.aload_n 0, 1) := by decide +kernel
theorem dX1_setNot_5 : decode cX1_setNot 5 = .ok (.getfield 13, 3) := by decide +kernel
theorem dX1_setNot_8 : decode cX1_setNot 8 = .ok (.aload_n 0, 1) := by decide +kernel
theorem dX1_setNot_9 : decode cX1_setNot 9 = .ok (.getfield 13, 3) := by decide +kernel
theorem dX1_setNot_12 : decode cX1_setNot 12 = .ok (.arraylength, 1) := by decide +kernel
theorem dX1_setNot_13 : decode cX1_setNot 13 = .ok (.iconst 1, 1) := by decide +kernel
theorem dX1_setNot_14 : decode cX1_setNot 14 = .ok (.isub, 1) := by decide +kernel
theorem dX1_setNot_15 : decode cX1_setNot 15 = .ok (.ldc2_w 22, 3) := by decide +kernel
theorem dX1_setNot_18 : decode cX1_setNot 18 = .ok (.lastore, 1) := by decide +kernel
theorem dX1_setNot_19 : decode cX1_setNot 19 = .ok (.return_, 1) := by decide +kernel
theorem dX1_isNot_0 : decode cX1_isNot 0 = .ok (.aload_n 0, 1) := by decide +kernel
theorem dX1_isNot_1 : decode cX1_isNot 1 = .ok (.getfield 13, 3) := by decide +kernel
theorem dX1_isNot_4 : decode cX1_isNot 4 = .ok (.arraylength, 1) := by decide +kernel
theorem dX1_isNot_5 : decode cX1_isNot 5 = .ok (.iconst 1, 1) := by decide +kernel
theorem dX1_isNot_6 : decode cX1_isNot 6 = .ok (.isub, 1) := by decide +kernel
theorem dX1_isNot_7 : decode cX1_isNot 7 = .ok (.istore_n 1, 1) := by decide +kernel
theorem dX1_isNot_8 : decode cX1_isNot 8 = .ok (.aload_n 0, 1) := by decide +kernel
theorem dX1_isNot_9 : decode cX1_isNot 9 = .ok (.getfield 13, 3) := by decide +kernel
theorem dX1_isNot_12 : decode cX1_isNot 12 = .ok (.iload_n 1, 1) := by decide +kernel
theorem dX1_isNot_13 : decode cX1_isNot 13 = .ok (.laload, 1) := by decide +kernel
theorem dX1_isNot_14 : decode cX1_isNot 14 = .ok (.ldc2_w 22, 3) := by decide +kernel
theorem dX1_isNot_17 : decode cX1_isNot 17 = .ok (.lcmp, 1) := by decide +kernel
theorem dX1_isNot_18 : decode cX1_isNot 18 = .ok (.ifCond .ne 18, 3) := by decide +kernel
theorem dX1_isNot_21 : decode cX1_isNot 21 = .ok (.aload_n 0, 1) := by decide +kernel
theorem dX1_isNot_22 : decode cX1_isNot 22 = .ok (.bipush 64, 2) := by decide +kernel
theorem dX1_isNot_24 : decode cX1_isNot 24 = .ok (.iload_n 1, 1) := by decide +kernel
theorem dX1_isNot_25 : decode cX1_isNot 25 = .ok (.imul, 1) := by decide +kernel
theorem dX1_isNot_26 : decode cX1_isNot 26 = .ok (.invokevirtual 24, 3) := by decide +kernel
theorem dX1_isNot_29 : decode cX1_isNot 29 = .ok (.ifCond .ne 7, 3) := by decide +kernel
theorem dX1_isNot_32 : decode cX1_isNot 32 = .ok (.iconst 1, 1) := by decide +kernel
theorem dX1_isNot_33 : decode cX1_isNot 33 = .ok (.goto 4, 3) := by decide +kernel
theorem dX1_isNot_36 : decode cX1_isNot 36 = .ok (.iconst 0, 1) := by decide +kernel
theorem dX1_isNot_37 : decode cX1_isNot 37 = .ok (.ireturn, 1) := by decide +kernel
theorem dX1_isNegative_0 : decode cX1_isNegative 0 = .ok (.aload_n 0, 1) := by decide +kernel
theorem dX1_isNegative_1 : decode cX1_isNegative 1 = .ok (.getfield 13, 3) := by decide +kernel
theorem dX1_isNegative_4 : decode cX1_isNegative 4 = .ok (.aload_n 0, 1) := by decide +kernel
theorem dX1_isNegative_5 : decode cX1_isNegative 5 = .ok (.getfield 13, 3) := by decide +kernel
theorem dX1_isNegative_8 : decode cX1_isNegative 8 = .ok (.arraylength, 1) := by decide +kernel
theorem dX1_isNegative_9 : decode cX1_isNegative 9 = .ok (.iconst 1, 1) := by decide +kernel
theorem dX1_isNegative_10 : decode cX1_isNegative 10 = .ok (.isub, 1) := by decide +kernel
theorem dX1_isNegative_11 : decode cX1_isNegative 11 = .ok (.laload, 1) := by decide +kernel
theorem dX1_isNegative_12 : decode cX1_isNegative 12 = .ok (.lconst 0, 1) := by decide +kernel
theorem dX1_isNegative_13 : decode cX1_isNegative 13 = .ok (.lcmp, 1) := by decide +kernel
theorem dX1_isNegative_14 : decode cX1_isNegative 14 = .ok (.ifCond .ge 7, 3) := by decide +kernel
theorem dX1_isNegative_17 : decode cX1_isNegative 17 = .ok (.iconst 1, 1) := by decide +kernel
theorem dX1_isNegative_18 : decode cX1_isNegative 18 = .ok (.goto 4, 3) := by decide +kernel
theorem dX1_isNegative_21 : decode cX1_isNegative 21 = .ok (.iconst 0, 1) := by decide +kernel
theorem dX1_isNegative_22 : decode cX1_isNegative 22 = .ok (.ireturn, 1) := by decide +kernel
theorem dX1_copy_0 : decode cX1_copy 0 = .ok (.iconst 0, 1) := by decide +kernel
theorem dX1_copy_1 : decode cX1_copy 1 = .ok (.istore_n 2, 1) := by decide +kernel
theorem dX1_copy_2 : decode cX1_copy 2 = .ok (.iload_n 2, 1) := by decide +kernel
theorem dX1_copy_3 : decode cX1_copy 3 = .ok (.aload_n 0, 1) := by decide +kernel
theorem dX1_copy_4 : decode cX1_copy 4 = .ok (.getfield 13, 3) := by decide +kernel
theorem dX1_copy_7 : decode cX1_copy 7 = .ok (.arraylength, 1) := by decide +kernel
theorem dX1_copy_8 : decode cX1_copy 8 = .ok (.if_icmp .ge 30, 3) := by decide +kernel
theorem dX1_copy_11 : decode cX1_copy 11 = .ok (.iload_n 2, 1) := by decide +kernel
theorem dX1_copy_12 : decode cX1_copy 12 = .ok (.aload_n 1, 1) := by decide +kernel
theorem dX1_copy_13 : decode cX1_copy 13 = .ok (.getfield 13, 3) := by decide +kernel
theorem dX1_copy_16 : decode cX1_copy 16 = .ok (.arraylength, 1) := by decide +kernel
theorem dX1_copy_17 : decode cX1_copy 17 = .ok (.if_icmp .ge 21, 3) := by decide +kernel
theorem dX1_copy_20 : decode cX1_copy 20 = .ok (.aload_n 0, 1) := by decide +kernel
theorem dX1_copy_21 : decode cX1_copy 21 = .ok (.getfield 13, 3) := by decide +kernel
theorem dX1_copy_24 : decode cX1_copy 24 = .ok (.iload_n 2, 1) := by decide +kernel
theorem dX1_copy_25 : decode cX1_copy 25 = .ok (.aload_n 1, 1) := by decide +kernel
theorem dX1_copy_26 : decode cX1_copy 26 = .ok (.getfield 13, 3) := by decide +kernel
theorem dX1_copy_29 : decode cX1_copy 29 = .ok (.iload_n 2, 1) := by decide +kernel
theorem dX1_copy_30 : decode cX1_copy 30 = .ok (.laload, 1) := by decide +kernel
theorem dX1_copy_31 : decode cX1_copy 31 = .ok (.lastore, 1) := by decide +kernel
theorem dX1_copy_32 : decode cX1_copy 32 = .ok (.iinc 2 1, 3) := by decide +kernel
theorem dX1_copy_35 : decode cX1_copy 35 = .ok (.goto (-33), 3) := by decide +kernel
theorem dX1_copy_38 : decode cX1_copy 38 = .ok (.return_, 1) := by decide +kernel
theorem dX1_setProduct_0 : decode cX1_setProduct 0 = .ok (.aload_n 1, 1) := by decide +kernel
theorem dX1_setProduct_1 : decode cX1_setProduct 1 = .ok (.getfield 28, 3) := by decide +kernel
theorem dX1_setProduct_4 : decode cX1_setProduct 4 = .ok (.ifCond .ne 10, 3) := by decide +kernel
theorem dX1_setProduct_7 : decode cX1_setProduct 7 = .ok (.aload_n 2, 1) := by decide +kernel
theorem dX1_setProduct_8 : decode cX1_setProduct 8 = .ok (.getfield 28, 3) := by decide +kernel
theorem dX1_setProduct_11 : decode cX1_setProduct 11 = .ok (.ifCond .eq 8, 3) := by decide +kernel
theorem dX1_setProduct_14 : decode cX1_setProduct 14 = .ok (.aload_n 0, 1) := by decide +kernel
theorem dX1_setProduct_15 : decode cX1_setProduct 15 = .ok (.invokevirtual 34, 3) := by decide +kernel
theorem dX1_setProduct_18 : decode cX1_setProduct 18 = .ok (.return_, 1) := by decide +kernel
theorem dX1_setProduct_19 : decode cX1_setProduct 19 = .ok (.aload_n 0, 1) := by decide +kernel
theorem dX1_setProduct_20 : decode cX1_setProduct 20 = .ok (.invokevirtual 17, 3) := by decide +kernel
theorem dX1_setProduct_23 : decode cX1_setProduct 23 = .ok (.aload_n 0, 1) := by decide +kernel
theorem dX1_setProduct_24 : decode cX1_setProduct 24 = .ok (.aload_n 1, 1) := by decide +kernel
theorem dX1_setProduct_25 : decode cX1_setProduct 25 = .ok (.getfield 37, 3) := by decide +kernel
theorem dX1_setProduct_28 : decode cX1_setProduct 28 = .ok (.aload_n 2, 1) := by decide +kernel
theorem dX1_setProduct_29 : decode cX1_setProduct 29 = .ok (.getfield 37, 3) := by decide +kernel
theorem dX1_setProduct_32 : decode cX1_setProduct 32 = .ok (.lmul, 1) := by decide +kernel
theorem dX1_setProduct_33 : decode cX1_setProduct 33 = .ok (.aload_n 1, 1) := by decide +kernel
theorem dX1_setProduct_34 : decode cX1_setProduct 34 = .ok (.getfield 41, 3) := by decide +kernel
theorem dX1_setProduct_37 : decode cX1_setProduct 37 = .ok (.aload_n 2, 1) := by decide +kernel
theorem dX1_setProduct_38 : decode cX1_setProduct 38 = .ok (.getfield 41, 3) := by decide +kernel
theorem dX1_setProduct_41 : decode cX1_setProduct 41 = .ok (.iadd, 1) := by decide +kernel
theorem dX1_setProduct_42 : decode cX1_setProduct 42 = .ok (.aload_n 0, 1) := by decide +kernel
theorem dX1_setProduct_43 : decode cX1_setProduct 43 = .ok (.getfield 7, 3) := by decide +kernel
theorem dX1_setProduct_46 : decode cX1_setProduct 46 = .ok (.iadd, 1) := by decide +kernel
theorem dX1_setProduct_47 : decode cX1_setProduct 47 = .ok (.invokevirtual 44, 3) := by decide +kernel
theorem dX1_setProduct_50 : decode cX1_setProduct 50 = .ok (.aload_n 1, 1) := by decide +kernel
theorem dX1_setProduct_51 : decode cX1_setProduct 51 = .ok (.getfield 48, 3) := by decide +kernel
theorem dX1_setProduct_54 : decode cX1_setProduct 54 = .ok (.aload_n 2, 1) := by decide +kernel
theorem dX1_setProduct_55 : decode cX1_setProduct 55 = .ok (.getfield 48, 3) := by decide +kernel
theorem dX1_setProduct_58 : decode cX1_setProduct 58 = .ok (.if_icmp .eq 7, 3) := by decide +kernel
theorem dX1_setProduct_61 : decode cX1_setProduct 61 = .ok (.aload_n 0, 1) := by decide +kernel
theorem dX1_setProduct_62 : decode cX1_setProduct 62 = .ok (.invokevirtual 51, 3) := by decide +kernel
theorem dX1_setProduct_65 : decode cX1_setProduct 65 = .ok (.return_, 1) := by decide +kernel
theorem dX1_setBits_0 : decode cX1_setBits 0 = .ok (.iload_n 3, 1) := by decide +kernel
theorem dX1_setBits_1 : decode cX1_setBits 1 = .ok (.bipush 6, 2) := by decide +kernel
theorem dX1_setBits_3 : decode cX1_setBits 3 = .ok (.ishr, 1) := by decide +kernel
theorem dX1_setBits_4 : decode cX1_setBits 4 = .ok (.istore 4, 2) := by decide +kernel
theorem dX1_setBits_6 : decode cX1_setBits 6 = .ok (.iload_n 3, 1) := by decide +kernel
theorem dX1_setBits_7 : decode cX1_setBits 7 = .ok (.bipush 63, 2) := by decide +kernel
theorem dX1_setBits_9 : decode cX1_setBits 9 = .ok (.iand, 1) := by decide +kernel
theorem dX1_setBits_10 : decode cX1_setBits 10 = .ok (.istore 5, 2) := by decide +kernel
theorem dX1_setBits_12 : decode cX1_setBits 12 = .ok (.iload 4, 2) := by decide +kernel
theorem dX1_setBits_14 : decode cX1_setBits 14 = .ok (.ifCond .lt 24, 3) := by decide +kernel
theorem dX1_setBits_17 : decode cX1_setBits 17 = .ok (.iload 4, 2) := by decide +kernel
theorem dX1_setBits_19 : decode cX1_setBits 19 = .ok (.aload_n 0, 1) := by decide +kernel
theorem dX1_setBits_20 : decode cX1_setBits 20 = .ok (.getfield 13, 3) := by decide +kernel
theorem dX1_setBits_23 : decode cX1_setBits 23 = .ok (.arraylength, 1) := by decide +kernel
theorem dX1_setBits_24 : decode cX1_setBits 24 = .ok (.if_icmp .ge 14, 3) := by decide +kernel
theorem dX1_setBits_27 : decode cX1_setBits 27 = .ok (.aload_n 0, 1) := by decide +kernel
theorem dX1_setBits_28 : decode cX1_setBits 28 = .ok (.getfield 13, 3) := by decide +kernel
theorem dX1_setBits_31 : decode cX1_setBits 31 = .ok (.iload 4, 2) := by decide +kernel
theorem dX1_setBits_33 : decode cX1_setBits 33 = .ok (.lload_n 1, 1) := by decide +kernel
theorem dX1_setBits_34 : decode cX1_setBits 34 = .ok (.iload 5, 2) := by decide +kernel
theorem dX1_setBits_36 : decode cX1_setBits 36 = .ok (.lshl, 1) := by decide +kernel
theorem dX1_setBits_37 : decode cX1_setBits 37 = .ok (.lastore, 1) := by decide +kernel
theorem dX1_setBits_38 : decode cX1_setBits 38 = .ok (.iload 4, 2) := by decide +kernel
theorem dX1_setBits_40 : decode cX1_setBits 40 = .ok (.ifCond .lt 33, 3) := by decide +kernel
theorem dX1_setBits_43 : decode cX1_setBits 43 = .ok (.iload 4, 2) := by decide +kernel
theorem dX1_setBits_45 : decode cX1_setBits 45 = .ok (.iconst 1, 1) := by decide +kernel
theorem dX1_setBits_46 : decode cX1_setBits 46 = .ok (.iadd, 1) := by decide +kernel
theorem dX1_setBits_47 : decode cX1_setBits 47 = .ok (.aload_n 0, 1) := by decide +kernel
theorem dX1_setBits_48 : decode cX1_setBits 48 = .ok (.getfield 13, 3) := by decide +kernel
theorem dX1_setBits_51 : decode cX1_setBits 51 = .ok (.arraylength, 1) := by decide +kernel
theorem dX1_setBits_52 : decode cX1_setBits 52 = .ok (.if_icmp .ge 21, 3) := by decide +kernel
theorem dX1_setBits_55 : decode cX1_setBits 55 = .ok (.aload_n 0, 1) := by decide +kernel
theorem dX1_setBits_56 : decode cX1_setBits 56 = .ok (.getfield 13, 3) := by decide +kernel
theorem dX1_setBits_59 : decode cX1_setBits 59 = .ok (.iload 4, 2) := by decide +kernel
theorem dX1_setBits_61 : decode cX1_setBits 61 = .ok (.iconst 1, 1) := by decide +kernel
theorem dX1_setBits_62 : decode cX1_setBits 62 = .ok (.iadd, 1) := by decide +kernel
theorem dX1_setBits_63 : decode cX1_setBits 63 = .ok (.lload_n 1, 1) := by decide +kernel
theorem dX1_setBits_64 : decode cX1_setBits 64 = .ok (.iconst 1, 1) := by decide +kernel
theorem dX1_setBits_65 : decode cX1_setBits 65 = .ok (.lushr, 1) := by decide +kernel
theorem dX1_setBits_66 : decode cX1_setBits 66 = .ok (.bipush 63, 2) := by decide +kernel
theorem dX1_setBits_68 : decode cX1_setBits 68 = .ok (.iload 5, 2) := by decide +kernel
theorem dX1_setBits_70 : decode cX1_setBits 70 = .ok (.isub, 1) := by decide +kernel
theorem dX1_setBits_71 : decode cX1_setBits 71 = .ok (.lushr, 1) := by decide +kernel
theorem dX1_setBits_72 : decode cX1_setBits 72 = .ok (.lastore, 1) := by decide +kernel
theorem dX1_setBits_73 : decode cX1_setBits 73 = .ok (.return_, 1) := by decide +kernel
theorem dX1_flip_0 : decode cX1_flip 0 = .ok (.lconst 1, 1) := by decide +kernel
theorem dX1_flip_1 : decode cX1_flip 1 = .ok (.lstore_n 1, 1) := by decide +kernel
theorem dX1_flip_2 : decode cX1_flip 2 = .ok (.iconst 0, 1) := by decide +kernel
theorem dX1_flip_3 : decode cX1_flip 3 = .ok (.istore_n 3, 1) := by decide +kernel
theorem dX1_flip_4 : decode cX1_flip 4 = .ok (.iload_n 3, 1) := by decide +kernel
theorem dX1_flip_5 : decode cX1_flip 5 = .ok (.aload_n 0, 1) := by decide +kernel
theorem dX1_flip_6 : decode cX1_flip 6 = .ok (.getfield 13, 3) := by decide +kernel
theorem dX1_flip_9 : decode cX1_flip 9 = .ok (.arraylength, 1) := by decide +kernel
theorem dX1_flip_10 : decode cX1_flip 10 = .ok (.if_icmp .ge 50, 3) := by decide +kernel
theorem dX1_flip_13 : decode cX1_flip 13 = .ok (.aload_n 0, 1) := by decide +kernel
theorem dX1_flip_14 : decode cX1_flip 14 = .ok (.getfield 13, 3) := by decide +kernel
theorem dX1_flip_17 : decode cX1_flip 17 = .ok (.iload_n 3, 1) := by decide +kernel
theorem dX1_flip_18 : decode cX1_flip 18 = .ok (.aload_n 0, 1) := by decide +kernel
theorem dX1_flip_19 : decode cX1_flip 19 = .ok (.getfield 13, 3) := by decide +kernel
theorem dX1_flip_22 : decode cX1_flip 22 = .ok (.iload_n 3, 1) := by decide +kernel
theorem dX1_flip_23 : decode cX1_flip 23 = .ok (.laload, 1) := by decide +kernel
theorem dX1_flip_24 : decode cX1_flip 24 = .ok (.ldc2_w 54, 3) := by decide +kernel
theorem dX1_flip_27 : decode cX1_flip 27 = .ok (.lxor, 1) := by decide +kernel
theorem dX1_flip_28 : decode cX1_flip 28 = .ok (.lload_n 1, 1) := by decide +kernel
theorem dX1_flip_29 : decode cX1_flip 29 = .ok (.ladd, 1) := by decide +kernel
theorem dX1_flip_30 : decode cX1_flip 30 = .ok (.lastore, 1) := by decide +kernel
theorem dX1_flip_31 : decode cX1_flip 31 = .ok (.lload_n 1, 1) := by decide +kernel
theorem dX1_flip_32 : decode cX1_flip 32 = .ok (.lconst 1, 1) := by decide +kernel
theorem dX1_flip_33 : decode cX1_flip 33 = .ok (.lcmp, 1) := by decide +kernel
theorem dX1_flip_34 : decode cX1_flip 34 = .ok (.ifCond .ne 18, 3) := by decide +kernel
theorem dX1_flip_37 : decode cX1_flip 37 = .ok (.aload_n 0, 1) := by decide +kernel
theorem dX1_flip_38 : decode cX1_flip 38 = .ok (.getfield 13, 3) := by decide +kernel
theorem dX1_flip_41 : decode cX1_flip 41 = .ok (.iload_n 3, 1) := by decide +kernel
theorem dX1_flip_42 : decode cX1_flip 42 = .ok (.laload, 1) := by decide +kernel
theorem dX1_flip_43 : decode cX1_flip 43 = .ok (.lconst 0, 1) := by decide +kernel
theorem dX1_flip_44 : decode cX1_flip 44 = .ok (.lcmp, 1) := by decide +kernel
theorem dX1_flip_45 : decode cX1_flip 45 = .ok (.ifCond .ne 7, 3) := by decide +kernel
theorem dX1_flip_48 : decode cX1_flip 48 = .ok (.lconst 1, 1) := by decide +kernel
theorem dX1_flip_49 : decode cX1_flip 49 = .ok (.goto 4, 3) := by decide +kernel
theorem dX1_flip_52 : decode cX1_flip 52 = .ok (.lconst 0, 1) := by decide +kernel
theorem dX1_flip_53 : decode cX1_flip 53 = .ok (.lstore_n 1, 1) := by decide +kernel
theorem dX1_flip_54 : decode cX1_flip 54 = .ok (.iinc 3 1, 3) := by decide +kernel
theorem dX1_flip_57 : decode cX1_flip 57 = .ok (.goto (-53), 3) := by decide +kernel
theorem dX1_flip_60 : decode cX1_flip 60 = .ok (.return_, 1) := by decide +kernel
theorem dX1_include_0 : decode cX1_include 0 = .ok (.aload_n 0, 1) := by decide +kernel
theorem dX1_include_1 : decode cX1_include 1 = .ok (.invokevirtual 56, 3) := by decide +kernel
theorem dX1_include_4 : decode cX1_include 4 = .ok (.ifCond .ne 10, 3) := by decide +kernel
theorem dX1_include_7 : decode cX1_include 7 = .ok (.aload_n 1, 1) := by decide +kernel
theorem dX1_include_8 : decode cX1_include 8 = .ok (.invokevirtual 56, 3) := by decide +kernel
theorem dX1_include_11 : decode cX1_include 11 = .ok (.ifCond .eq 8, 3) := by decide +kernel
theorem dX1_include_14 : decode cX1_include 14 = .ok (.aload_n 0, 1) := by decide +kernel
theorem dX1_include_15 : decode cX1_include 15 = .ok (.invokevirtual 34, 3) := by decide +kernel
theorem dX1_include_18 : decode cX1_include 18 = .ok (.return_, 1) := by decide +kernel
theorem dX1_include_19 : decode cX1_include 19 = .ok (.lconst 0, 1) := by decide +kernel
theorem dX1_include_20 : decode cX1_include 20 = .ok (.lstore_n 2, 1) := by decide +kernel
theorem dX1_include_21 : decode cX1_include 21 = .ok (.iconst 0, 1) := by decide +kernel
theorem dX1_include_22 : decode cX1_include 22 = .ok (.istore 4, 2) := by decide +kernel
theorem dX1_include_24 : decode cX1_include 24 = .ok (.iload 4, 2) := by decide +kernel
theorem dX1_include_26 : decode cX1_include 26 = .ok (.aload_n 0, 1) := by decide +kernel
theorem dX1_include_27 : decode cX1_include 27 = .ok (.getfield 13, 3) := by decide +kernel
theorem dX1_include_30 : decode cX1_include 30 = .ok (.arraylength, 1) := by decide +kernel
theorem dX1_include_31 : decode cX1_include 31 = .ok (.if_icmp .ge 77, 3) := by decide +kernel
theorem dX1_include_34 : decode cX1_include 34 = .ok (.iload 4, 2) := by decide +kernel
theorem dX1_include_36 : decode cX1_include 36 = .ok (.aload_n 1, 1) := by decide +kernel
theorem dX1_include_37 : decode cX1_include 37 = .ok (.getfield 13, 3) := by decide +kernel
theorem dX1_include_40 : decode cX1_include 40 = .ok (.arraylength, 1) := by decide +kernel
theorem dX1_include_41 : decode cX1_include 41 = .ok (.if_icmp .ge 67, 3) := by decide +kernel
theorem dX1_include_44 : decode cX1_include 44 = .ok (.aload_n 0, 1) := by decide +kernel
theorem dX1_include_45 : decode cX1_include 45 = .ok (.getfield 13, 3) := by decide +kernel
theorem dX1_include_48 : decode cX1_include 48 = .ok (.iload 4, 2) := by decide +kernel
theorem dX1_include_50 : decode cX1_include 50 = .ok (.laload, 1) := by decide +kernel
theorem dX1_include_51 : decode cX1_include 51 = .ok (.lstore 5, 2) := by decide +kernel
theorem dX1_include_53 : decode cX1_include 53 = .ok (.aload_n 1, 1) := by decide +kernel
theorem dX1_include_54 : decode cX1_include 54 = .ok (.getfield 13, 3) := by decide +kernel
theorem dX1_include_57 : decode cX1_include 57 = .ok (.iload 4, 2) := by decide +kernel
theorem dX1_include_59 : decode cX1_include 59 = .ok (.laload, 1) := by decide +kernel
theorem dX1_include_60 : decode cX1_include 60 = .ok (.lstore 7, 2) := by decide +kernel
theorem dX1_include_62 : decode cX1_include 62 = .ok (.lload 5, 2) := by decide +kernel
theorem dX1_include_64 : decode cX1_include 64 = .ok (.lload 7, 2) := by decide +kernel
theorem dX1_include_66 : decode cX1_include 66 = .ok (.ladd, 1) := by decide +kernel
theorem dX1_include_67 : decode cX1_include 67 = .ok (.lload_n 2, 1) := by decide +kernel
theorem dX1_include_68 : decode cX1_include 68 = .ok (.ladd, 1) := by decide +kernel
theorem dX1_include_69 : decode cX1_include 69 = .ok (.lstore 9, 2) := by decide +kernel
theorem dX1_include_71 : decode cX1_include 71 = .ok (.lload 5, 2) := by decide +kernel
theorem dX1_include_73 : decode cX1_include 73 = .ok (.lload 7, 2) := by decide +kernel
theorem dX1_include_75 : decode cX1_include 75 = .ok (.land, 1) := by decide +kernel
theorem dX1_include_76 : decode cX1_include 76 = .ok (.lload 5, 2) := by decide +kernel
theorem dX1_include_78 : decode cX1_include 78 = .ok (.lload 7, 2) := by decide +kernel
theorem dX1_include_80 : decode cX1_include 80 = .ok (.lor, 1) := by decide +kernel
theorem dX1_include_81 : decode cX1_include 81 = .ok (.lload 9, 2) := by decide +kernel
theorem dX1_include_83 : decode cX1_include 83 = .ok (.ldc2_w 54, 3) := by decide +kernel
theorem dX1_include_86 : decode cX1_include 86 = .ok (.lxor, 1) := by decide +kernel
theorem dX1_include_87 : decode cX1_include 87 = .ok (.land, 1) := by decide +kernel
theorem dX1_include_88 : decode cX1_include 88 = .ok (.lor, 1) := by decide +kernel
theorem dX1_include_89 : decode cX1_include 89 = .ok (.bipush 63, 2) := by decide +kernel
theorem dX1_include_91 : decode cX1_include 91 = .ok (.lushr, 1) := by decide +kernel
theorem dX1_include_92 : decode cX1_include 92 = .ok (.lstore_n 2, 1) := by decide +kernel
theorem dX1_include_93 : decode cX1_include 93 = .ok (.aload_n 0, 1) := by decide +kernel
theorem dX1_include_94 : decode cX1_include 94 = .ok (.getfield 13, 3) := by decide +kernel
theorem dX1_include_97 : decode cX1_include 97 = .ok (.iload 4, 2) := by decide +kernel
theorem dX1_include_99 : decode cX1_include 99 = .ok (.lload 9, 2) := by decide +kernel
theorem dX1_include_101 : decode cX1_include 101 = .ok (.lastore, 1) := by decide +kernel
theorem dX1_include_102 : decode cX1_include 102 = .ok (.iinc 4 1, 3) := by decide +kernel
theorem dX1_include_105 : decode cX1_include 105 = .ok (.goto (-81), 3) := by decide +kernel
theorem dX1_include_108 : decode cX1_include 108 = .ok (.return_, 1) := by decide +kernel
theorem dX1_topBit_0 : decode cX1_topBit 0 = .ok (.aload_n 0, 1) := by decide +kernel
theorem dX1_topBit_1 : decode cX1_topBit 1 = .ok (.getfield 13, 3) := by decide +kernel
theorem dX1_topBit_4 : decode cX1_topBit 4 = .ok (.arraylength, 1) := by decide +kernel
theorem dX1_topBit_5 : decode cX1_topBit 5 = .ok (.iconst 1, 1) := by decide +kernel
theorem dX1_topBit_6 : decode cX1_topBit 6 = .ok (.isub, 1) := by decide +kernel
theorem dX1_topBit_7 : decode cX1_topBit 7 = .ok (.istore_n 1, 1) := by decide +kernel
theorem dX1_topBit_8 : decode cX1_topBit 8 = .ok (.iload_n 1, 1) := by decide +kernel
theorem dX1_topBit_9 : decode cX1_topBit 9 = .ok (.ifCond .lt 38, 3) := by decide +kernel
theorem dX1_topBit_12 : decode cX1_topBit 12 = .ok (.aload_n 0, 1) := by decide +kernel
theorem dX1_topBit_13 : decode cX1_topBit 13 = .ok (.getfield 13, 3) := by decide +kernel
theorem dX1_topBit_16 : decode cX1_topBit 16 = .ok (.iload_n 1, 1) := by decide +kernel
theorem dX1_topBit_17 : decode cX1_topBit 17 = .ok (.laload, 1) := by decide +kernel
theorem dX1_topBit_18 : decode cX1_topBit 18 = .ok (.lconst 0, 1) := by decide +kernel
theorem dX1_topBit_19 : decode cX1_topBit 19 = .ok (.lcmp, 1) := by decide +kernel
theorem dX1_topBit_20 : decode cX1_topBit 20 = .ok (.ifCond .eq 21, 3) := by decide +kernel
theorem dX1_topBit_23 : decode cX1_topBit 23 = .ok (.bipush 64, 2) := by decide +kernel
theorem dX1_topBit_25 : decode cX1_topBit 25 = .ok (.iload_n 1, 1) := by decide +kernel
theorem dX1_topBit_26 : decode cX1_topBit 26 = .ok (.imul, 1) := by decide +kernel
theorem dX1_topBit_27 : decode cX1_topBit 27 = .ok (.bipush 63, 2) := by decide +kernel
theorem dX1_topBit_29 : decode cX1_topBit 29 = .ok (.iadd, 1) := by decide +kernel
theorem dX1_topBit_30 : decode cX1_topBit 30 = .ok (.aload_n 0, 1) := by decide +kernel
theorem dX1_topBit_31 : decode cX1_topBit 31 = .ok (.getfield 13, 3) := by decide +kernel
theorem dX1_topBit_34 : decode cX1_topBit 34 = .ok (.iload_n 1, 1) := by decide +kernel
theorem dX1_topBit_35 : decode cX1_topBit 35 = .ok (.laload, 1) := by decide +kernel
theorem dX1_topBit_36 : decode cX1_topBit 36 = .ok (.invokestatic 60, 3) := by decide +kernel
theorem dX1_topBit_39 : decode cX1_topBit 39 = .ok (.isub, 1) := by decide +kernel
theorem dX1_topBit_40 : decode cX1_topBit 40 = .ok (.ireturn, 1) := by decide +kernel
theorem dX1_topBit_41 : decode cX1_topBit 41 = .ok (.iinc 1 (-1), 3) := by decide +kernel
theorem dX1_topBit_44 : decode cX1_topBit 44 = .ok (.goto (-36), 3) := by decide +kernel
theorem dX1_topBit_47 : decode cX1_topBit 47 = .ok (.iconst (-1), 1) := by decide +kernel
theorem dX1_topBit_48 : decode cX1_topBit 48 = .ok (.ireturn, 1) := by decide +kernel
theorem dX1_leadingBits_0 : decode cX1_leadingBits 0 = .ok (.iload_n 1, 1) := by decide +kernel
theorem dX1_leadingBits_1 : decode cX1_leadingBits 1 = .ok (.bipush 6, 2) := by decide +kernel
theorem dX1_leadingBits_3 : decode cX1_leadingBits 3 = .ok (.ishr, 1) := by decide +kernel
theorem dX1_leadingBits_4 : decode cX1_leadingBits 4 = .ok (.istore_n 2, 1) := by decide +kernel
theorem dX1_leadingBits_5 : decode cX1_leadingBits 5 = .ok (.iload_n 2, 1) := by decide +kernel
theorem dX1_leadingBits_6 : decode cX1_leadingBits 6 = .ok (.ifCond .lt 12, 3) := by decide +kernel
theorem dX1_leadingBits_9 : decode cX1_leadingBits 9 = .ok (.iload_n 2, 1) := by decide +kernel
theorem dX1_leadingBits_10 : decode cX1_leadingBits 10 = .ok (.aload_n 0, 1) := by decide +kernel
theorem dX1_leadingBits_11 : decode cX1_leadingBits 11 = .ok (.getfield 13, 3) := by decide +kernel
theorem dX1_leadingBits_14 : decode cX1_leadingBits 14 = .ok (.arraylength, 1) := by decide +kernel
theorem dX1_leadingBits_15 : decode cX1_leadingBits 15 = .ok (.if_icmp .lt 5, 3) := by decide +kernel
theorem dX1_leadingBits_18 : decode cX1_leadingBits 18 = .ok (.lconst 0, 1) := by decide +kernel
theorem dX1_leadingBits_19 : decode cX1_leadingBits 19 = .ok (.lreturn, 1) := by decide +kernel
theorem dX1_leadingBits_20 : decode cX1_leadingBits 20 = .ok (.bipush 63, 2) := by decide +kernel
theorem dX1_leadingBits_22 : decode cX1_leadingBits 22 = .ok (.iload_n 1, 1) := by decide +kernel
theorem dX1_leadingBits_23 : decode cX1_leadingBits 23 = .ok (.bipush 63, 2) := by decide +kernel
theorem dX1_leadingBits_25 : decode cX1_leadingBits 25 = .ok (.iand, 1) := by decide +kernel
theorem dX1_leadingBits_26 : decode cX1_leadingBits 26 = .ok (.isub, 1) := by decide +kernel
theorem dX1_leadingBits_27 : decode cX1_leadingBits 27 = .ok (.istore_n 3, 1) := by decide +kernel
theorem dX1_leadingBits_28 : decode cX1_leadingBits 28 = .ok (.iload_n 2, 1) := by decide +kernel
theorem dX1_leadingBits_29 : decode cX1_leadingBits 29 = .ok (.ifCond .le 14, 3) := by decide +kernel
theorem dX1_leadingBits_32 : decode cX1_leadingBits 32 = .ok (.aload_n 0, 1) := by decide +kernel
theorem dX1_leadingBits_33 : decode cX1_leadingBits 33 = .ok (.getfield 13, 3) := by decide +kernel
theorem dX1_leadingBits_36 : decode cX1_leadingBits 36 = .ok (.iload_n 2, 1) := by decide +kernel
theorem dX1_leadingBits_37 : decode cX1_leadingBits 37 = .ok (.iconst 1, 1) := by decide +kernel
theorem dX1_leadingBits_38 : decode cX1_leadingBits 38 = .ok (.isub, 1) := by decide +kernel
theorem dX1_leadingBits_39 : decode cX1_leadingBits 39 = .ok (.laload, 1) := by decide +kernel
theorem dX1_leadingBits_40 : decode cX1_leadingBits 40 = .ok (.goto 4, 3) := by decide +kernel
theorem dX1_leadingBits_43 : decode cX1_leadingBits 43 = .ok (.lconst 0, 1) := by decide +kernel
theorem dX1_leadingBits_44 : decode cX1_leadingBits 44 = .ok (.lstore 4, 2) := by decide +kernel
theorem dX1_leadingBits_46 : decode cX1_leadingBits 46 = .ok (.aload_n 0, 1) := by decide +kernel
theorem dX1_leadingBits_47 : decode cX1_leadingBits 47 = .ok (.getfield 13, 3) := by decide +kernel
theorem dX1_leadingBits_50 : decode cX1_leadingBits 50 = .ok (.iload_n 2, 1) := by decide +kernel
theorem dX1_leadingBits_51 : decode cX1_leadingBits 51 = .ok (.laload, 1) := by decide +kernel
theorem dX1_leadingBits_52 : decode cX1_leadingBits 52 = .ok (.iload_n 3, 1) := by decide +kernel
theorem dX1_leadingBits_53 : decode cX1_leadingBits 53 = .ok (.lshl, 1) := by decide +kernel
theorem dX1_leadingBits_54 : decode cX1_leadingBits 54 = .ok (.lload 4, 2) := by decide +kernel
theorem dX1_leadingBits_56 : decode cX1_leadingBits 56 = .ok (.iconst 1, 1) := by decide +kernel
theorem dX1_leadingBits_57 : decode cX1_leadingBits 57 = .ok (.lushr, 1) := by decide +kernel
theorem dX1_leadingBits_58 : decode cX1_leadingBits 58 = .ok (.bipush 63, 2) := by decide +kernel
theorem dX1_leadingBits_60 : decode cX1_leadingBits 60 = .ok (.iload_n 3, 1) := by decide +kernel
theorem dX1_leadingBits_61 : decode cX1_leadingBits 61 = .ok (.isub, 1) := by decide +kernel
theorem dX1_leadingBits_62 : decode cX1_leadingBits 62 = .ok (.lushr, 1) := by decide +kernel
theorem dX1_leadingBits_63 : decode cX1_leadingBits 63 = .ok (.lor, 1) := by decide +kernel
theorem dX1_leadingBits_64 : decode cX1_leadingBits 64 = .ok (.lreturn, 1) := by decide +kernel
theorem dX1_hasBitsBelow_0 : decode cX1_hasBitsBelow 0 = .ok (.iconst 0, 1) := by decide +kernel
theorem dX1_hasBitsBelow_1 : decode cX1_hasBitsBelow 1 = .ok (.istore_n 2, 1) := by decide +kernel
theorem dX1_hasBitsBelow_2 : decode cX1_hasBitsBelow 2 = .ok (.iload_n 2, 1) := by decide +kernel
theorem dX1_hasBitsBelow_3 : decode cX1_hasBitsBelow 3 = .ok (.aload_n 0, 1) := by decide +kernel
theorem dX1_hasBitsBelow_4 : decode cX1_hasBitsBelow 4 = .ok (.getfield 13, 3) := by decide +kernel
theorem dX1_hasBitsBelow_7 : decode cX1_hasBitsBelow 7 = .ok (.arraylength, 1) := by decide +kernel
theorem dX1_hasBitsBelow_8 : decode cX1_hasBitsBelow 8 = .ok (.if_icmp .ge 47, 3) := by decide +kernel
theorem dX1_hasBitsBelow_11 : decode cX1_hasBitsBelow 11 = .ok (.bipush 64, 2) := by decide +kernel
theorem dX1_hasBitsBelow_13 : decode cX1_hasBitsBelow 13 = .ok (.iload_n 2, 1) := by decide +kernel
theorem dX1_hasBitsBelow_14 : decode cX1_hasBitsBelow 14 = .ok (.imul, 1) := by decide +kernel
theorem dX1_hasBitsBelow_15 : decode cX1_hasBitsBelow 15 = .ok (.iload_n 1, 1) := by decide +kernel
theorem dX1_hasBitsBelow_16 : decode cX1_hasBitsBelow 16 = .ok (.if_icmp .ge 39, 3) := by decide +kernel
theorem dX1_hasBitsBelow_19 : decode cX1_hasBitsBelow 19 = .ok (.bipush 64, 2) := by decide +kernel
theorem dX1_hasBitsBelow_21 : decode cX1_hasBitsBelow 21 = .ok (.iload_n 1, 1) := by decide +kernel
theorem dX1_hasBitsBelow_22 : decode cX1_hasBitsBelow 22 = .ok (.bipush 64, 2) := by decide +kernel
theorem dX1_hasBitsBelow_24 : decode cX1_hasBitsBelow 24 = .ok (.iload_n 2, 1) := by decide +kernel
theorem dX1_hasBitsBelow_25 : decode cX1_hasBitsBelow 25 = .ok (.imul, 1) := by decide +kernel
theorem dX1_hasBitsBelow_26 : decode cX1_hasBitsBelow 26 = .ok (.isub, 1) := by decide +kernel
theorem dX1_hasBitsBelow_27 : decode cX1_hasBitsBelow 27 = .ok (.invokestatic 64, 3) := by decide +kernel
theorem dX1_hasBitsBelow_30 : decode cX1_hasBitsBelow 30 = .ok (.istore_n 3, 1) := by decide +kernel
theorem dX1_hasBitsBelow_31 : decode cX1_hasBitsBelow 31 = .ok (.aload_n 0, 1) := by decide +kernel
theorem dX1_hasBitsBelow_32 : decode cX1_hasBitsBelow 32 = .ok (.getfield 13, 3) := by decide +kernel
theorem dX1_hasBitsBelow_35 : decode cX1_hasBitsBelow 35 = .ok (.iload_n 2, 1) := by decide +kernel
theorem dX1_hasBitsBelow_36 : decode cX1_hasBitsBelow 36 = .ok (.laload, 1) := by decide +kernel
theorem dX1_hasBitsBelow_37 : decode cX1_hasBitsBelow 37 = .ok (.bipush 64, 2) := by decide +kernel
theorem dX1_hasBitsBelow_39 : decode cX1_hasBitsBelow 39 = .ok (.iload_n 3, 1) := by decide +kernel
theorem dX1_hasBitsBelow_40 : decode cX1_hasBitsBelow 40 = .ok (.isub, 1) := by decide +kernel
theorem dX1_hasBitsBelow_41 : decode cX1_hasBitsBelow 41 = .ok (.lshl, 1) := by decide +kernel
theorem dX1_hasBitsBelow_42 : decode cX1_hasBitsBelow 42 = .ok (.lconst 0, 1) := by decide +kernel
theorem dX1_hasBitsBelow_43 : decode cX1_hasBitsBelow 43 = .ok (.lcmp, 1) := by decide +kernel
theorem dX1_hasBitsBelow_44 : decode cX1_hasBitsBelow 44 = .ok (.ifCond .eq 5, 3) := by decide +kernel
theorem dX1_hasBitsBelow_47 : decode cX1_hasBitsBelow 47 = .ok (.iconst 1, 1) := by decide +kernel
theorem dX1_hasBitsBelow_48 : decode cX1_hasBitsBelow 48 = .ok (.ireturn, 1) := by decide +kernel
theorem dX1_hasBitsBelow_49 : decode cX1_hasBitsBelow 49 = .ok (.iinc 2 1, 3) := by decide +kernel
theorem dX1_hasBitsBelow_52 : decode cX1_hasBitsBelow 52 = .ok (.goto (-50), 3) := by decide +kernel
theorem dX1_hasBitsBelow_55 : decode cX1_hasBitsBelow 55 = .ok (.iconst 0, 1) := by decide +kernel
theorem dX1_hasBitsBelow_56 : decode cX1_hasBitsBelow 56 = .ok (.ireturn, 1) := by decide +kernel
theorem dX2_init_0 : decode cX2_init 0 = .ok (.aload_n 0, 1) := by decide +kernel
theorem dX2_init_1 : decode cX2_init 1 = .ok (.invokespecial 1, 3) := by decide +kernel
theorem dX2_init_4 : decode cX2_init 4 = .ok (.aload_n 0, 1) := by decide +kernel
theorem dX2_init_5 : decode cX2_init 5 = .ok (.iload_n 1, 1) := by decide +kernel
theorem dX2_init_6 : decode cX2_init 6 = .ok (.invokestatic 7, 3) := by decide +kernel
theorem dX2_init_9 : decode cX2_init 9 = .ok (.putfield 13, 3) := by decide +kernel
theorem dX2_init_12 : decode cX2_init 12 = .ok (.aload_n 0, 1) := by decide +kernel
theorem dX2_init_13 : decode cX2_init 13 = .ok (.iconst 2, 1) := by decide +kernel
theorem dX2_init_14 : decode cX2_init 14 = .ok (.anewarray 17, 3) := by decide +kernel
theorem dX2_init_17 : decode cX2_init 17 = .ok (.dup, 1) := by decide +kernel
theorem dX2_init_18 : decode cX2_init 18 = .ok (.iconst 0, 1) := by decide +kernel
theorem dX2_init_19 : decode cX2_init 19 = .ok (.new 17, 3) := by decide +kernel
theorem dX2_init_22 : decode cX2_init 22 = .ok (.dup, 1) := by decide +kernel
theorem dX2_init_23 : decode cX2_init 23 = .ok (.aload_n 0, 1) := by decide +kernel
theorem dX2_init_24 : decode cX2_init 24 = .ok (.getfield 13, 3) := by decide +kernel
theorem dX2_init_27 : decode cX2_init 27 = .ok (.invokespecial 19, 3) := by decide +kernel
theorem dX2_init_30 : decode cX2_init 30 = .ok (.aastore, 1) := by decide +kernel
theorem dX2_init_31 : decode cX2_init 31 = .ok (.dup, 1) := by decide +kernel
theorem dX2_init_32 : decode cX2_init 32 = .ok (.iconst 1, 1) := by decide +kernel
theorem dX2_init_33 : decode cX2_init 33 = .ok (.new 17, 3) := by decide +kernel
theorem dX2_init_36 : decode cX2_init 36 = .ok (.dup, 1) := by decide +kernel
theorem dX2_init_37 : decode cX2_init 37 = .ok (.aload_n 0, 1) := by decide +kernel
theorem dX2_init_38 : decode cX2_init 38 = .ok (.getfield 13, 3) := by decide +kernel
theorem dX2_init_41 : decode cX2_init 41 = .ok (.invokespecial 19, 3) := by decide +kernel
theorem dX2_init_44 : decode cX2_init 44 = .ok (.aastore, 1) := by decide +kernel
theorem dX2_init_45 : decode cX2_init 45 = .ok (.putfield 22, 3) := by decide +kernel
theorem dX2_init_48 : decode cX2_init 48 = .ok (.aload_n 0, 1) := by decide +kernel
theorem dX2_init_49 : decode cX2_init 49 = .ok (.new 17, 3) := by decide +kernel
theorem dX2_init_52 : decode cX2_init 52 = .ok (.dup, 1) := by decide +kernel
theorem dX2_init_53 : decode cX2_init 53 = .ok (.aload_n 0, 1) := by decide +kernel
theorem dX2_init_54 : decode cX2_init 54 = .ok (.getfield 13, 3) := by decide +kernel
theorem dX2_init_57 : decode cX2_init 57 = .ok (.invokespecial 19, 3) := by decide +kernel
theorem dX2_init_60 : decode cX2_init 60 = .ok (.putfield 26, 3) := by decide +kernel
theorem dX2_init_63 : decode cX2_init 63 = .ok (.aload_n 0, 1) := by decide +kernel
theorem dX2_init_64 : decode cX2_init 64 = .ok (.new 17, 3) := by decide +kernel
theorem dX2_init_67 : decode cX2_init 67 = .ok (.dup, 1) := by decide +kernel
theorem dX2_init_68 : decode cX2_init 68 = .ok (.aload_n 0, 1) := by decide +kernel
theorem dX2_init_69 : decode cX2_init 69 = .ok (.getfield 13, 3) := by decide +kernel
theorem dX2_init_72 : decode cX2_init 72 = .ok (.invokespecial 19, 3) := by decide +kernel
theorem dX2_init_75 : decode cX2_init 75 = .ok (.putfield 30, 3) := by decide +kernel
theorem dX2_init_78 : decode cX2_init 78 = .ok (.aload_n 0, 1) := by decide +kernel
theorem dX2_init_79 : decode cX2_init 79 = .ok (.new 33, 3) := by decide +kernel
theorem dX2_init_82 : decode cX2_init 82 = .ok (.dup, 1) := by decide +kernel
theorem dX2_init_83 : decode cX2_init 83 = .ok (.invokespecial 35, 3) := by decide +kernel
theorem dX2_init_86 : decode cX2_init 86 = .ok (.putfield 36, 3) := by decide +kernel
theorem dX2_init_89 : decode cX2_init 89 = .ok (.aload_n 0, 1) := by decide +kernel
theorem dX2_init_90 : decode cX2_init 90 = .ok (.new 33, 3) := by decide +kernel
theorem dX2_init_93 : decode cX2_init 93 = .ok (.dup, 1) := by decide +kernel
theorem dX2_init_94 : decode cX2_init 94 = .ok (.invokespecial 35, 3) := by decide +kernel
theorem dX2_init_97 : decode cX2_init 97 = .ok (.putfield 40, 3) := by decide +kernel
theorem dX2_init_100 : decode cX2_init 100 = .ok (.return_, 1) := by decide +kernel
theorem dX2_bits_0 : decode cX2_bits 0 = .ok (.aload_n 0, 1) := by decide +kernel
theorem dX2_bits_1 : decode cX2_bits 1 = .ok (.getfield 13, 3) := by decide +kernel
theorem dX2_bits_4 : decode cX2_bits 4 = .ok (.ireturn, 1) := by decide +kernel
theorem dX2_add_0 : decode cX2_add 0 = .ok (.aload_n 0, 1) := by decide +kernel
theorem dX2_add_1 : decode cX2_add 1 = .ok (.iload_n 1, 1) := by decide +kernel
theorem dX2_add_2 : decode cX2_add 2 = .ok (.aload_n 0, 1) := by decide +kernel
theorem dX2_add_3 : decode cX2_add 3 = .ok (.invokevirtual 43, 3) := by decide +kernel
theorem dX2_add_6 : decode cX2_add 6 = .ok (.iload_n 2, 1) := by decide +kernel
theorem dX2_add_7 : decode cX2_add 7 = .ok (.invokevirtual 47, 3) := by decide +kernel
theorem dX2_add_10 : decode cX2_add 10 = .ok (.ireturn, 1) := by decide +kernel
theorem dX2_subtract_0 : decode cX2_subtract 0 = .ok (.aload_n 0, 1) := by decide +kernel
theorem dX2_subtract_1 : decode cX2_subtract 1 = .ok (.iload_n 1, 1) := by decide +kernel
theorem dX2_subtract_2 : decode cX2_subtract 2 = .ok (.aload_n 0, 1) := by decide +kernel
theorem dX2_subtract_3 : decode cX2_subtract 3 = .ok (.invokevirtual 43, 3) := by decide +kernel
theorem dX2_subtract_6 : decode cX2_subtract 6 = .ok (.iload_n 2, 1) := by decide +kernel
theorem dX2_subtract_7 : decode cX2_subtract 7 = .ok (.ineg, 1) := by decide +kernel
theorem dX2_subtract_8 : decode cX2_subtract 8 = .ok (.invokevirtual 47, 3) := by decide +kernel
theorem dX2_subtract_11 : decode cX2_subtract 11 = .ok (.ireturn, 1) := by decide +kernel
theorem dX2_multiply_0 : decode cX2_multiply 0 = .ok (.aload_n 0, 1) := by decide +kernel
theorem dX2_multiply_1 : decode cX2_multiply 1 = .ok (.iload_n 1, 1) := by decide +kernel
theorem dX2_multiply_2 : decode cX2_multiply 2 = .ok (.iload_n 2, 1) := by decide +kernel
theorem dX2_multiply_3 : decode cX2_multiply 3 = .ok (.iconst 0, 1) := by decide +kernel
theorem dX2_multiply_4 : decode cX2_multiply 4 = .ok (.invokevirtual 47, 3) := by decide +kernel
theorem dX2_multiply_7 : decode cX2_multiply 7 = .ok (.ireturn, 1) := by decide +kernel
theorem dX2_divide_0 : decode cX2_divide 0 = .ok (.aload_n 0, 1) := by decide +kernel
theorem dX2_divide_1 : decode cX2_divide 1 = .ok (.getfield 36, 3) := by decide +kernel
theorem dX2_divide_4 : decode cX2_divide 4 = .ok (.iload_n 1, 1) := by decide +kernel
theorem dX2_divide_5 : decode cX2_divide 5 = .ok (.aload_n 0, 1) := by decide +kernel
theorem dX2_divide_6 : decode cX2_divide 6 = .ok (.getfield 13, 3) := by decide +kernel
theorem dX2_divide_9 : decode cX2_divide 9 = .ok (.invokevirtual 51, 3) := by decide +kernel
theorem dX2_divide_12 : decode cX2_divide 12 = .ok (.aload_n 0, 1) := by decide +kernel
theorem dX2_divide_13 : decode cX2_divide 13 = .ok (.getfield 40, 3) := by decide +kernel
theorem dX2_divide_16 : decode cX2_divide 16 = .ok (.iload_n 2, 1) := by decide +kernel
theorem dX2_divide_17 : decode cX2_divide 17 = .ok (.aload_n 0, 1) := by decide +kernel
theorem dX2_divide_18 : decode cX2_divide 18 = .ok (.getfield 13, 3) := by decide +kernel
theorem dX2_divide_21 : decode cX2_divide 21 = .ok (.invokevirtual 51, 3) := by decide +kernel
theorem dX2_divide_24 : decode cX2_divide 24 = .ok (.aload_n 0, 1) := by decide +kernel
theorem dX2_divide_25 : decode cX2_divide 25 = .ok (.getfield 36, 3) := by decide +kernel
theorem dX2_divide_28 : decode cX2_divide 28 = .ok (.getfield 55, 3) := by decide +kernel
theorem dX2_divide_31 : decode cX2_divide 31 = .ok (.ifCond .ne 25, 3) := by decide +kernel
theorem dX2_divide_34 : decode cX2_divide 34 = .ok (.aload_n 0, 1) := by decide +kernel
theorem dX2_divide_35 : decode cX2_divide 35 = .ok (.getfield 40, 3) := by decide +kernel
theorem dX2_divide_38 : decode cX2_divide 38 = .ok (.getfield 55, 3) := by decide +kernel
theorem dX2_divide_41 : decode cX2_divide 41 = .ok (.ifCond .ne 15, 3) := by decide +kernel
theorem dX2_divide_44 : decode cX2_divide 44 = .ok (.aload_n 0, 1) := by decide +kernel
theorem dX2_divide_45 : decode cX2_divide 45 = .ok (.getfield 40, 3) := by decide +kernel
theorem dX2_divide_48 : decode cX2_divide 48 = .ok (.getfield 59, 3) := by decide +kernel
theorem dX2_divide_51 : decode cX2_divide 51 = .ok (.lconst 0, 1) := by decide +kernel
theorem dX2_divide_52 : decode cX2_divide 52 = .ok (.lcmp, 1) := by decide +kernel
theorem dX2_divide_53 : decode cX2_divide 53 = .ok (.ifCond .ne 11, 3) := by decide +kernel
theorem dX2_divide_56 : decode cX2_divide 56 = .ok (.aload_n 0, 1) := by decide +kernel
theorem dX2_divide_57 : decode cX2_divide 57 = .ok (.getfield 13, 3) := by decide +kernel
theorem dX2_divide_60 : decode cX2_divide 60 = .ok (.invokestatic 63, 3) := by decide +kernel
theorem dX2_divide_63 : decode cX2_divide 63 = .ok (.ireturn, 1) := by decide +kernel
theorem dX2_divide_64 : decode cX2_divide 64 = .ok (.aload_n 0, 1) := by decide +kernel
theorem dX2_divide_65 : decode cX2_divide 65 = .ok (.getfield 36, 3) := by decide +kernel
theorem dX2_divide_68 : decode cX2_divide 68 = .ok (.getfield 59, 3) := by decide +kernel
theorem dX2_divide_71 : decode cX2_divide 71 = .ok (.invokestatic 66, 3) := by decide +kernel
theorem dX2_divide_74 : decode cX2_divide 74 = .ok (.iconst 1, 1) := by decide +kernel
theorem dX2_divide_75 : decode cX2_divide 75 = .ok (.isub, 1) := by decide +kernel
theorem dX2_divide_76 : decode cX2_divide 76 = .ok (.istore_n 3, 1) := by decide +kernel
theorem dX2_divide_77 : decode cX2_divide 77 = .ok (.aload_n 0, 1) := by decide +kernel
theorem dX2_divide_78 : decode cX2_divide 78 = .ok (.getfield 36, 3) := by decide +kernel
theorem dX2_divide_81 : decode cX2_divide 81 = .ok (.getfield 59, 3) := by decide +kernel
theorem dX2_divide_84 : decode cX2_divide 84 = .ok (.iload_n 3, 1) := by decide +kernel
theorem dX2_divide_85 : decode cX2_divide 85 = .ok (.lshl, 1) := by decide +kernel
theorem dX2_divide_86 : decode cX2_divide 86 = .ok (.lstore 4, 2) := by decide +kernel
theorem dX2_divide_88 : decode cX2_divide 88 = .ok (.lload 4, 2) := by decide +kernel
theorem dX2_divide_90 : decode cX2_divide 90 = .ok (.aload_n 0, 1) := by decide +kernel
theorem dX2_divide_91 : decode cX2_divide 91 = .ok (.getfield 40, 3) := by decide +kernel
theorem dX2_divide_94 : decode cX2_divide 94 = .ok (.getfield 59, 3) := by decide +kernel
theorem dX2_divide_97 : decode cX2_divide 97 = .ok (.ldiv, 1) := by decide +kernel
theorem dX2_divide_98 : decode cX2_divide 98 = .ok (.lstore 6, 2) := by decide +kernel
theorem dX2_divide_100 : decode cX2_divide 100 = .ok (.lload 6, 2) := by decide +kernel
theorem dX2_divide_102 : decode cX2_divide 102 = .ok (.aload_n 0, 1) := by decide +kernel
theorem dX2_divide_103 : decode cX2_divide 103 = .ok (.getfield 40, 3) := by decide +kernel
theorem dX2_divide_106 : decode cX2_divide 106 = .ok (.getfield 59, 3) := by decide +kernel
theorem dX2_divide_109 : decode cX2_divide 109 = .ok (.lmul, 1) := by decide +kernel
theorem dX2_divide_110 : decode cX2_divide 110 = .ok (.lload 4, 2) := by decide +kernel
theorem dX2_divide_112 : decode cX2_divide 112 = .ok (.lcmp, 1) := by decide +kernel
theorem dX2_divide_113 : decode cX2_divide 113 = .ok (.ifCond .eq 7, 3) := by decide +kernel
theorem dX2_divide_116 : decode cX2_divide 116 = .ok (.iconst 1, 1) := by decide +kernel
theorem dX2_divide_117 : decode cX2_divide 117 = .ok (.goto 4, 3) := by decide +kernel
theorem dX2_divide_120 : decode cX2_divide 120 = .ok (.iconst 0, 1) := by decide +kernel
theorem dX2_divide_121 : decode cX2_divide 121 = .ok (.istore 8, 2) := by decide +kernel
theorem dX2_divide_123 : decode cX2_divide 123 = .ok (.aload_n 0, 1) := by decide +kernel
theorem dX2_divide_124 : decode cX2_divide 124 = .ok (.getfield 36, 3) := by decide +kernel
theorem dX2_divide_127 : decode cX2_divide 127 = .ok (.getfield 72, 3) := by decide +kernel
theorem dX2_divide_130 : decode cX2_divide 130 = .ok (.iload_n 3, 1) := by decide +kernel
theorem dX2_divide_131 : decode cX2_divide 131 = .ok (.isub, 1) := by decide +kernel
theorem dX2_divide_132 : decode cX2_divide 132 = .ok (.aload_n 0, 1) := by decide +kernel
theorem dX2_divide_133 : decode cX2_divide 133 = .ok (.getfield 40, 3) := by decide +kernel
theorem dX2_divide_136 : decode cX2_divide 136 = .ok (.getfield 72, 3) := by decide +kernel
theorem dX2_divide_139 : decode cX2_divide 139 = .ok (.isub, 1) := by decide +kernel
theorem dX2_divide_140 : decode cX2_divide 140 = .ok (.istore 9, 2) := by decide +kernel
theorem dX2_divide_142 : decode cX2_divide 142 = .ok (.aload_n 0, 1) := by decide +kernel
theorem dX2_divide_143 : decode cX2_divide 143 = .ok (.getfield 13, 3) := by decide +kernel
theorem dX2_divide_146 : decode cX2_divide 146 = .ok (.aload_n 0, 1) := by decide +kernel
theorem dX2_divide_147 : decode cX2_divide 147 = .ok (.getfield 36, 3) := by decide +kernel
theorem dX2_divide_150 : decode cX2_divide 150 = .ok (.getfield 75, 3) := by decide +kernel
theorem dX2_divide_153 : decode cX2_divide 153 = .ok (.aload_n 0, 1) := by decide +kernel
theorem dX2_divide_154 : decode cX2_divide 154 = .ok (.getfield 40, 3) := by decide +kernel
theorem dX2_divide_157 : decode cX2_divide 157 = .ok (.getfield 75, 3) := by decide +kernel
theorem dX2_divide_160 : decode cX2_divide 160 = .ok (.if_icmp .eq 7, 3) := by decide +kernel
theorem dX2_divide_163 : decode cX2_divide 163 = .ok (.iconst 1, 1) := by decide +kernel
theorem dX2_divide_164 : decode cX2_divide 164 = .ok (.goto 4, 3) := by decide +kernel
theorem dX2_divide_167 : decode cX2_divide 167 = .ok (.iconst 0, 1) := by decide +kernel
theorem dX2_divide_168 : decode cX2_divide 168 = .ok (.lload 6, 2) := by decide +kernel
theorem dX2_divide_170 : decode cX2_divide 170 = .ok (.iload 9, 2) := by decide +kernel
theorem dX2_divide_172 : decode cX2_divide 172 = .ok (.iload 8, 2) := by decide +kernel
theorem dX2_divide_174 : decode cX2_divide 174 = .ok (.invokestatic 78, 3) := by decide +kernel
theorem dX2_divide_177 : decode cX2_divide 177 = .ok (.ireturn, 1) := by decide +kernel
theorem dX2_root_0 : decode cX2_root 0 = .ok (.aload_n 0, 1) := by decide +kernel
theorem dX2_root_1 : decode cX2_root 1 = .ok (.getfield 36, 3) := by decide +kernel
theorem dX2_root_4 : decode cX2_root 4 = .ok (.iload_n 1, 1) := by decide +kernel
theorem dX2_root_5 : decode cX2_root 5 = .ok (.aload_n 0, 1) := by decide +kernel
theorem dX2_root_6 : decode cX2_root 6 = .ok (.getfield 13, 3) := by decide +kernel
theorem dX2_root_9 : decode cX2_root 9 = .ok (.invokevirtual 51, 3) := by decide +kernel
theorem dX2_root_12 : decode cX2_root 12 = .ok (.aload_n 0, 1) := by decide +kernel
theorem dX2_root_13 : decode cX2_root 13 = .ok (.getfield 36, 3) := by decide +kernel
theorem dX2_root_16 : decode cX2_root 16 = .ok (.getfield 55, 3) := by decide +kernel
theorem dX2_root_19 : decode cX2_root 19 = .ok (.ifCond .ne 13, 3) := by decide +kernel
theorem dX2_root_22 : decode cX2_root 22 = .ok (.aload_n 0, 1) := by decide +kernel
theorem dX2_root_23 : decode cX2_root 23 = .ok (.getfield 36, 3) := by decide +kernel
theorem dX2_root_26 : decode cX2_root 26 = .ok (.getfield 75, 3) := by decide +kernel
theorem dX2_root_29 : decode cX2_root 29 = .ok (.ifCond .eq 11, 3) := by decide +kernel
theorem dX2_root_32 : decode cX2_root 32 = .ok (.aload_n 0, 1) := by decide +kernel
theorem dX2_root_33 : decode cX2_root 33 = .ok (.getfield 13, 3) := by decide +kernel
theorem dX2_root_36 : decode cX2_root 36 = .ok (.invokestatic 63, 3) := by decide +kernel
theorem dX2_root_39 : decode cX2_root 39 = .ok (.ireturn, 1) := by decide +kernel
theorem dX2_root_40 : decode cX2_root 40 = .ok (.aload_n 0, 1) := by decide +kernel
theorem dX2_root_41 : decode cX2_root 41 = .ok (.getfield 36, 3) := by decide +kernel
theorem dX2_root_44 : decode cX2_root 44 = .ok (.getfield 59, 3) := by decide +kernel
theorem dX2_root_47 : decode cX2_root 47 = .ok (.lconst 0, 1) := by decide +kernel
theorem dX2_root_48 : decode cX2_root 48 = .ok (.lcmp, 1) := by decide +kernel
theorem dX2_root_49 : decode cX2_root 49 = .ok (.ifCond .ne 5, 3) := by decide +kernel
theorem dX2_root_52 : decode cX2_root 52 = .ok (.iconst 0, 1) := by decide +kernel
theorem dX2_root_53 : decode cX2_root 53 = .ok (.ireturn, 1) := by decide +kernel
theorem dX2_root_54 : decode cX2_root 54 = .ok (.aload_n 0, 1) := by decide +kernel
theorem dX2_root_55 : decode cX2_root 55 = .ok (.getfield 36, 3) := by decide +kernel
theorem dX2_root_58 : decode cX2_root 58 = .ok (.getfield 59, 3) := by decide +kernel
theorem dX2_root_61 : decode cX2_root 61 = .ok (.invokestatic 66, 3) := by decide +kernel
theorem dX2_root_64 : decode cX2_root 64 = .ok (.iconst 2, 1) := by decide +kernel
theorem dX2_root_65 : decode cX2_root 65 = .ok (.isub, 1) := by decide +kernel
theorem dX2_root_66 : decode cX2_root 66 = .ok (.istore_n 2, 1) := by decide +kernel
theorem dX2_root_67 : decode cX2_root 67 = .ok (.aload_n 0, 1) := by decide +kernel
theorem dX2_root_68 : decode cX2_root 68 = .ok (.getfield 36, 3) := by decide +kernel
theorem dX2_root_71 : decode cX2_root 71 = .ok (.getfield 72, 3) := by decide +kernel
theorem dX2_root_74 : decode cX2_root 74 = .ok (.iload_n 2, 1) := by decide +kernel
theorem dX2_root_75 : decode cX2_root 75 = .ok (.isub, 1) := by decide +kernel
theorem dX2_root_76 : decode cX2_root 76 = .ok (.iconst 1, 1) := by decide +kernel
theorem dX2_root_77 : decode cX2_root 77 = .ok (.iand, 1) := by decide +kernel
theorem dX2_root_78 : decode cX2_root 78 = .ok (.ifCond .eq 6, 3) := by decide +kernel
theorem dX2_root_81 : decode cX2_root 81 = .ok (.iinc 2 (-1), 3) := by decide +kernel
theorem dX2_root_84 : decode cX2_root 84 = .ok (.aload_n 0, 1) := by decide +kernel
theorem dX2_root_85 : decode cX2_root 85 = .ok (.getfield 36, 3) := by decide +kernel
theorem dX2_root_88 : decode cX2_root 88 = .ok (.getfield 59, 3) := by decide +kernel
theorem dX2_root_91 : decode cX2_root 91 = .ok (.iload_n 2, 1) := by decide +kernel
theorem dX2_root_92 : decode cX2_root 92 = .ok (.lshl, 1) := by decide +kernel
theorem dX2_root_93 : decode cX2_root 93 = .ok (.lstore_n 3, 1) := by decide +kernel
theorem dX2_root_94 : decode cX2_root 94 = .ok (.lload_n 3, 1) := by decide +kernel
theorem dX2_root_95 : decode cX2_root 95 = .ok (.invokestatic 82, 3) := by decide +kernel
theorem dX2_root_98 : decode cX2_root 98 = .ok (.lstore 5, 2) := by decide +kernel
theorem dX2_root_100 : decode cX2_root 100 = .ok (.lload 5, 2) := by decide +kernel
theorem dX2_root_102 : decode cX2_root 102 = .ok (.lload 5, 2) := by decide +kernel
theorem dX2_root_104 : decode cX2_root 104 = .ok (.lmul, 1) := by decide +kernel
theorem dX2_root_105 : decode cX2_root 105 = .ok (.lload_n 3, 1) := by decide +kernel
theorem dX2_root_106 : decode cX2_root 106 = .ok (.lcmp, 1) := by decide +kernel
theorem dX2_root_107 : decode cX2_root 107 = .ok (.ifCond .eq 7, 3) := by decide +kernel
theorem dX2_root_110 : decode cX2_root 110 = .ok (.iconst 1, 1) := by decide +kernel
theorem dX2_root_111 : decode cX2_root 111 = .ok (.goto 4, 3) := by decide +kernel
theorem dX2_root_114 : decode cX2_root 114 = .ok (.iconst 0, 1) := by decide +kernel
theorem dX2_root_115 : decode cX2_root 115 = .ok (.istore 7, 2) := by decide +kernel
theorem dX2_root_117 : decode cX2_root 117 = .ok (.aload_n 0, 1) := by decide +kernel
theorem dX2_root_118 : decode cX2_root 118 = .ok (.getfield 13, 3) := by decide +kernel
theorem dX2_root_121 : decode cX2_root 121 = .ok (.iconst 0, 1) := by decide +kernel
theorem dX2_root_122 : decode cX2_root 122 = .ok (.lload 5, 2) := by decide +kernel
theorem dX2_root_124 : decode cX2_root 124 = .ok (.aload_n 0, 1) := by decide +kernel
theorem dX2_root_125 : decode cX2_root 125 = .ok (.getfield 36, 3) := by decide +kernel
theorem dX2_root_128 : decode cX2_root 128 = .ok (.getfield 72, 3) := by decide +kernel
theorem dX2_root_131 : decode cX2_root 131 = .ok (.iload_n 2, 1) := by decide +kernel
theorem dX2_root_132 : decode cX2_root 132 = .ok (.isub, 1) := by decide +kernel
theorem dX2_root_133 : decode cX2_root 133 = .ok (.iconst 1, 1) := by decide +kernel
theorem dX2_root_134 : decode cX2_root 134 = .ok (.ishr, 1) := by decide +kernel
theorem dX2_root_135 : decode cX2_root 135 = .ok (.iload 7, 2) := by decide +kernel
theorem dX2_root_137 : decode cX2_root 137 = .ok (.invokestatic 78, 3) := by decide +kernel
theorem dX2_root_140 : decode cX2_root 140 = .ok (.ireturn, 1) := by decide +kernel
theorem dX2_fused_0 : decode cX2_fused 0 = .ok (.aload_n 0, 1) := by decide +kernel
theorem dX2_fused_1 : decode cX2_fused 1 = .ok (.aload_n 0, 1) := by decide +kernel
theorem dX2_fused_2 : decode cX2_fused 2 = .ok (.getfield 26, 3) := by decide +kernel
theorem dX2_fused_5 : decode cX2_fused 5 = .ok (.iload_n 1, 1) := by decide +kernel
theorem dX2_fused_6 : decode cX2_fused 6 = .ok (.iload_n 2, 1) := by decide +kernel
theorem dX2_fused_7 : decode cX2_fused 7 = .ok (.invokevirtual 86, 3) := by decide +kernel
theorem dX2_fused_10 : decode cX2_fused 10 = .ok (.aload_n 0, 1) := by decide +kernel
theorem dX2_fused_11 : decode cX2_fused 11 = .ok (.aload_n 0, 1) := by decide +kernel
theorem dX2_fused_12 : decode cX2_fused 12 = .ok (.getfield 30, 3) := by decide +kernel
theorem dX2_fused_15 : decode cX2_fused 15 = .ok (.iload_n 3, 1) := by decide +kernel
theorem dX2_fused_16 : decode cX2_fused 16 = .ok (.aload_n 0, 1) := by decide +kernel
theorem dX2_fused_17 : decode cX2_fused 17 = .ok (.invokevirtual 43, 3) := by decide +kernel
theorem dX2_fused_20 : decode cX2_fused 20 = .ok (.invokevirtual 86, 3) := by decide +kernel
theorem dX2_fused_23 : decode cX2_fused 23 = .ok (.aload_n 0, 1) := by decide +kernel
theorem dX2_fused_24 : decode cX2_fused 24 = .ok (.getfield 26, 3) := by decide +kernel
theorem dX2_fused_27 : decode cX2_fused 27 = .ok (.aload_n 0, 1) := by decide +kernel
theorem dX2_fused_28 : decode cX2_fused 28 = .ok (.getfield 30, 3) := by decide +kernel
theorem dX2_fused_31 : decode cX2_fused 31 = .ok (.invokevirtual 90, 3) := by decide +kernel
theorem dX2_fused_34 : decode cX2_fused 34 = .ok (.aload_n 0, 1) := by decide +kernel
theorem dX2_fused_35 : decode cX2_fused 35 = .ok (.aload_n 0, 1) := by decide +kernel
theorem dX2_fused_36 : decode cX2_fused 36 = .ok (.getfield 26, 3) := by decide +kernel
theorem dX2_fused_39 : decode cX2_fused 39 = .ok (.invokevirtual 94, 3) := by decide +kernel
theorem dX2_fused_42 : decode cX2_fused 42 = .ok (.ireturn, 1) := by decide +kernel
theorem dX2_whole_0 : decode cX2_whole 0 = .ok (.aload_n 0, 1) := by decide +kernel
theorem dX2_whole_1 : decode cX2_whole 1 = .ok (.getfield 36, 3) := by decide +kernel
theorem dX2_whole_4 : decode cX2_whole 4 = .ok (.iload_n 1, 1) := by decide +kernel
theorem dX2_whole_5 : decode cX2_whole 5 = .ok (.aload_n 0, 1) := by decide +kernel
theorem dX2_whole_6 : decode cX2_whole 6 = .ok (.getfield 13, 3) := by decide +kernel
theorem dX2_whole_9 : decode cX2_whole 9 = .ok (.invokevirtual 51, 3) := by decide +kernel
theorem dX2_whole_12 : decode cX2_whole 12 = .ok (.aload_n 0, 1) := by decide +kernel
theorem dX2_whole_13 : decode cX2_whole 13 = .ok (.getfield 36, 3) := by decide +kernel
theorem dX2_whole_16 : decode cX2_whole 16 = .ok (.getfield 55, 3) := by decide +kernel
theorem dX2_whole_19 : decode cX2_whole 19 = .ok (.ifCond .ne 13, 3) := by decide +kernel
theorem dX2_whole_22 : decode cX2_whole 22 = .ok (.aload_n 0, 1) := by decide +kernel
theorem dX2_whole_23 : decode cX2_whole 23 = .ok (.getfield 36, 3) := by decide +kernel
theorem dX2_whole_26 : decode cX2_whole 26 = .ok (.getfield 72, 3) := by decide +kernel
theorem dX2_whole_29 : decode cX2_whole 29 = .ok (.ifCond .lt 12, 3) := by decide +kernel
theorem dX2_whole_32 : decode cX2_whole 32 = .ok (.iload_n 1, 1) := by decide +kernel
theorem dX2_whole_33 : decode cX2_whole 33 = .ok (.aload_n 0, 1) := by decide +kernel
theorem dX2_whole_34 : decode cX2_whole 34 = .ok (.getfield 13, 3) := by decide +kernel
theorem dX2_whole_37 : decode cX2_whole 37 = .ok (.invokestatic 98, 3) := by decide +kernel
theorem dX2_whole_40 : decode cX2_whole 40 = .ok (.ireturn, 1) := by decide +kernel
theorem dX2_whole_41 : decode cX2_whole 41 = .ok (.aload_n 0, 1) := by decide +kernel
theorem dX2_whole_42 : decode cX2_whole 42 = .ok (.getfield 13, 3) := by decide +kernel
theorem dX2_whole_45 : decode cX2_whole 45 = .ok (.aload_n 0, 1) := by decide +kernel
theorem dX2_whole_46 : decode cX2_whole 46 = .ok (.getfield 36, 3) := by decide +kernel
theorem dX2_whole_49 : decode cX2_whole 49 = .ok (.getfield 75, 3) := by decide +kernel
theorem dX2_whole_52 : decode cX2_whole 52 = .ok (.aload_n 0, 1) := by decide +kernel
theorem dX2_whole_53 : decode cX2_whole 53 = .ok (.getfield 36, 3) := by decide +kernel
theorem dX2_whole_56 : decode cX2_whole 56 = .ok (.invokestatic 102, 3) := by decide +kernel
theorem dX2_whole_59 : decode cX2_whole 59 = .ok (.iconst 0, 1) := by decide +kernel
theorem dX2_whole_60 : decode cX2_whole 60 = .ok (.iconst 0, 1) := by decide +kernel
theorem dX2_whole_61 : decode cX2_whole 61 = .ok (.invokestatic 78, 3) := by decide +kernel
theorem dX2_whole_64 : decode cX2_whole 64 = .ok (.ireturn, 1) := by decide +kernel
theorem dX2_next_0 : decode cX2_next 0 = .ok (.iload_n 1, 1) := by decide +kernel
theorem dX2_next_1 : decode cX2_next 1 = .ok (.iconst 1, 1) := by decide +kernel
theorem dX2_next_2 : decode cX2_next 2 = .ok (.iadd, 1) := by decide +kernel
theorem dX2_next_3 : decode cX2_next 3 = .ok (.aload_n 0, 1) := by decide +kernel
theorem dX2_next_4 : decode cX2_next 4 = .ok (.getfield 13, 3) := by decide +kernel
theorem dX2_next_7 : decode cX2_next 7 = .ok (.invokestatic 98, 3) := by decide +kernel
theorem dX2_next_10 : decode cX2_next 10 = .ok (.ireturn, 1) := by decide +kernel
theorem dX2_sizeOfWidth_0 : decode cX2_sizeOfWidth 0 = .ok (.iload_n 0, 1) := by decide +kernel
theorem dX2_sizeOfWidth_1 : decode cX2_sizeOfWidth 1 = .ok (.ifCond .ne 6, 3) := by decide +kernel
theorem dX2_sizeOfWidth_4 : decode cX2_sizeOfWidth 4 = .ok (.bipush 8, 2) := by decide +kernel
theorem dX2_sizeOfWidth_6 : decode cX2_sizeOfWidth 6 = .ok (.ireturn, 1) := by decide +kernel
theorem dX2_sizeOfWidth_7 : decode cX2_sizeOfWidth 7 = .ok (.iload_n 0, 1) := by decide +kernel
theorem dX2_sizeOfWidth_8 : decode cX2_sizeOfWidth 8 = .ok (.iconst 1, 1) := by decide +kernel
theorem dX2_sizeOfWidth_9 : decode cX2_sizeOfWidth 9 = .ok (.if_icmp .ne 8, 3) := by decide +kernel
theorem dX2_sizeOfWidth_12 : decode cX2_sizeOfWidth 12 = .ok (.bipush 16, 2) := by decide +kernel
theorem dX2_sizeOfWidth_14 : decode cX2_sizeOfWidth 14 = .ok (.goto 5, 3) := by decide +kernel
theorem dX2_sizeOfWidth_17 : decode cX2_sizeOfWidth 17 = .ok (.bipush 32, 2) := by decide +kernel
theorem dX2_sizeOfWidth_19 : decode cX2_sizeOfWidth 19 = .ok (.ireturn, 1) := by decide +kernel
theorem dX2_patternOf_0 : decode cX2_patternOf 0 = .ok (.iload_n 0, 1) := by decide +kernel
theorem dX2_patternOf_1 : decode cX2_patternOf 1 = .ok (.bipush 32, 2) := by decide +kernel
theorem dX2_patternOf_3 : decode cX2_patternOf 3 = .ok (.iload_n 1, 1) := by decide +kernel
theorem dX2_patternOf_4 : decode cX2_patternOf 4 = .ok (.isub, 1) := by decide +kernel
theorem dX2_patternOf_5 : decode cX2_patternOf 5 = .ok (.ishl, 1) := by decide +kernel
theorem dX2_patternOf_6 : decode cX2_patternOf 6 = .ok (.bipush 32, 2) := by decide +kernel
theorem dX2_patternOf_8 : decode cX2_patternOf 8 = .ok (.iload_n 1, 1) := by decide +kernel
theorem dX2_patternOf_9 : decode cX2_patternOf 9 = .ok (.isub, 1) := by decide +kernel
theorem dX2_patternOf_10 : decode cX2_patternOf 10 = .ok (.ishr, 1) := by decide +kernel
theorem dX2_patternOf_11 : decode cX2_patternOf 11 = .ok (.ireturn, 1) := by decide +kernel
theorem dX2_notOf_0 : decode cX2_notOf 0 = .ok (.iconst (-1), 1) := by decide +kernel
theorem dX2_notOf_1 : decode cX2_notOf 1 = .ok (.iload_n 0, 1) := by decide +kernel
theorem dX2_notOf_2 : decode cX2_notOf 2 = .ok (.iconst 1, 1) := by decide +kernel
theorem dX2_notOf_3 : decode cX2_notOf 3 = .ok (.isub, 1) := by decide +kernel
theorem dX2_notOf_4 : decode cX2_notOf 4 = .ok (.ishl, 1) := by decide +kernel
theorem dX2_notOf_5 : decode cX2_notOf 5 = .ok (.ireturn, 1) := by decide +kernel
theorem dX2_one_0 : decode cX2_one 0 = .ok (.iconst 1, 1) := by decide +kernel
theorem dX2_one_1 : decode cX2_one 1 = .ok (.aload_n 0, 1) := by decide +kernel
theorem dX2_one_2 : decode cX2_one 2 = .ok (.getfield 13, 3) := by decide +kernel
theorem dX2_one_5 : decode cX2_one 5 = .ok (.iconst 2, 1) := by decide +kernel
theorem dX2_one_6 : decode cX2_one 6 = .ok (.isub, 1) := by decide +kernel
theorem dX2_one_7 : decode cX2_one 7 = .ok (.ishl, 1) := by decide +kernel
theorem dX2_one_8 : decode cX2_one 8 = .ok (.ireturn, 1) := by decide +kernel
theorem dX2_setProduct_0 : decode cX2_setProduct 0 = .ok (.aload_n 0, 1) := by decide +kernel
theorem dX2_setProduct_1 : decode cX2_setProduct 1 = .ok (.getfield 36, 3) := by decide +kernel
theorem dX2_setProduct_4 : decode cX2_setProduct 4 = .ok (.iload_n 2, 1) := by decide +kernel
theorem dX2_setProduct_5 : decode cX2_setProduct 5 = .ok (.aload_n 0, 1) := by decide +kernel
theorem dX2_setProduct_6 : decode cX2_setProduct 6 = .ok (.getfield 13, 3) := by decide +kernel
theorem dX2_setProduct_9 : decode cX2_setProduct 9 = .ok (.invokevirtual 51, 3) := by decide +kernel
theorem dX2_setProduct_12 : decode cX2_setProduct 12 = .ok (.aload_n 0, 1) := by decide +kernel
theorem dX2_setProduct_13 : decode cX2_setProduct 13 = .ok (.getfield 40, 3) := by decide +kernel
theorem dX2_setProduct_16 : decode cX2_setProduct 16 = .ok (.iload_n 3, 1) := by decide +kernel
theorem dX2_setProduct_17 : decode cX2_setProduct 17 = .ok (.aload_n 0, 1) := by decide +kernel
theorem dX2_setProduct_18 : decode cX2_setProduct 18 = .ok (.getfield 13, 3) := by decide +kernel
theorem dX2_setProduct_21 : decode cX2_setProduct 21 = .ok (.invokevirtual 51, 3) := by decide +kernel
theorem dX2_setProduct_24 : decode cX2_setProduct 24 = .ok (.aload_n 1, 1) := by decide +kernel
theorem dX2_setProduct_25 : decode cX2_setProduct 25 = .ok (.aload_n 0, 1) := by decide +kernel
theorem dX2_setProduct_26 : decode cX2_setProduct 26 = .ok (.getfield 36, 3) := by decide +kernel
theorem dX2_setProduct_29 : decode cX2_setProduct 29 = .ok (.aload_n 0, 1) := by decide +kernel
theorem dX2_setProduct_30 : decode cX2_setProduct 30 = .ok (.getfield 40, 3) := by decide +kernel
theorem dX2_setProduct_33 : decode cX2_setProduct 33 = .ok (.invokevirtual 127, 3) := by decide +kernel
theorem dX2_setProduct_36 : decode cX2_setProduct 36 = .ok (.return_, 1) := by decide +kernel
theorem dX2_floorRoot_0 : decode cX2_floorRoot 0 = .ok (.lconst 0, 1) := by decide +kernel
theorem dX2_floorRoot_1 : decode cX2_floorRoot 1 = .ok (.lstore_n 2, 1) := by decide +kernel
theorem dX2_floorRoot_2 : decode cX2_floorRoot 2 = .ok (.bipush 30, 2) := by decide +kernel
theorem dX2_floorRoot_4 : decode cX2_floorRoot 4 = .ok (.istore 4, 2) := by decide +kernel
theorem dX2_floorRoot_6 : decode cX2_floorRoot 6 = .ok (.iload 4, 2) := by decide +kernel
theorem dX2_floorRoot_8 : decode cX2_floorRoot 8 = .ok (.ifCond .lt 30, 3) := by decide +kernel
theorem dX2_floorRoot_11 : decode cX2_floorRoot 11 = .ok (.lload_n 2, 1) := by decide +kernel
theorem dX2_floorRoot_12 : decode cX2_floorRoot 12 = .ok (.lconst 1, 1) := by decide +kernel
theorem dX2_floorRoot_13 : decode cX2_floorRoot 13 = .ok (.iload 4, 2) := by decide +kernel
theorem dX2_floorRoot_15 : decode cX2_floorRoot 15 = .ok (.lshl, 1) := by decide +kernel
theorem dX2_floorRoot_16 : decode cX2_floorRoot 16 = .ok (.lor, 1) := by decide +kernel
theorem dX2_floorRoot_17 : decode cX2_floorRoot 17 = .ok (.lstore 5, 2) := by decide +kernel
theorem dX2_floorRoot_19 : decode cX2_floorRoot 19 = .ok (.lload 5, 2) := by decide +kernel
theorem dX2_floorRoot_21 : decode cX2_floorRoot 21 = .ok (.lload 5, 2) := by decide +kernel
theorem dX2_floorRoot_23 : decode cX2_floorRoot 23 = .ok (.lmul, 1) := by decide +kernel
theorem dX2_floorRoot_24 : decode cX2_floorRoot 24 = .ok (.lload_n 0, 1) := by decide +kernel
theorem dX2_floorRoot_25 : decode cX2_floorRoot 25 = .ok (.lcmp, 1) := by decide +kernel
theorem dX2_floorRoot_26 : decode cX2_floorRoot 26 = .ok (.ifCond .gt 6, 3) := by decide +kernel
theorem dX2_floorRoot_29 : decode cX2_floorRoot 29 = .ok (.lload 5, 2) := by decide +kernel
theorem dX2_floorRoot_31 : decode cX2_floorRoot 31 = .ok (.lstore_n 2, 1) := by decide +kernel
theorem dX2_floorRoot_32 : decode cX2_floorRoot 32 = .ok (.iinc 4 (-1), 3) := by decide +kernel
theorem dX2_floorRoot_35 : decode cX2_floorRoot 35 = .ok (.goto (-29), 3) := by decide +kernel
theorem dX2_floorRoot_38 : decode cX2_floorRoot 38 = .ok (.lload_n 2, 1) := by decide +kernel
theorem dX2_floorRoot_39 : decode cX2_floorRoot 39 = .ok (.lreturn, 1) := by decide +kernel
theorem dX2_nearestWhole_0 : decode cX2_nearestWhole 0 = .ok (.aload_n 0, 1) := by decide +kernel
theorem dX2_nearestWhole_1 : decode cX2_nearestWhole 1 = .ok (.getfield 72, 3) := by decide +kernel
theorem dX2_nearestWhole_4 : decode cX2_nearestWhole 4 = .ok (.ifCond .lt 13, 3) := by decide +kernel
theorem dX2_nearestWhole_7 : decode cX2_nearestWhole 7 = .ok (.aload_n 0, 1) := by decide +kernel
theorem dX2_nearestWhole_8 : decode cX2_nearestWhole 8 = .ok (.getfield 59, 3) := by decide +kernel
theorem dX2_nearestWhole_11 : decode cX2_nearestWhole 11 = .ok (.aload_n 0, 1) := by decide +kernel
theorem dX2_nearestWhole_12 : decode cX2_nearestWhole 12 = .ok (.getfield 72, 3) := by decide +kernel
theorem dX2_nearestWhole_15 : decode cX2_nearestWhole 15 = .ok (.lshl, 1) := by decide +kernel
theorem dX2_nearestWhole_16 : decode cX2_nearestWhole 16 = .ok (.lreturn, 1) := by decide +kernel
theorem dX2_nearestWhole_17 : decode cX2_nearestWhole 17 = .ok (.aload_n 0, 1) := by decide +kernel
theorem dX2_nearestWhole_18 : decode cX2_nearestWhole 18 = .ok (.getfield 72, 3) := by decide +kernel
theorem dX2_nearestWhole_21 : decode cX2_nearestWhole 21 = .ok (.ineg, 1) := by decide +kernel
theorem dX2_nearestWhole_22 : decode cX2_nearestWhole 22 = .ok (.istore_n 1, 1) := by decide +kernel
theorem dX2_nearestWhole_23 : decode cX2_nearestWhole 23 = .ok (.iload_n 1, 1) := by decide +kernel
theorem dX2_nearestWhole_24 : decode cX2_nearestWhole 24 = .ok (.bipush 60, 2) := by decide +kernel
theorem dX2_nearestWhole_26 : decode cX2_nearestWhole 26 = .ok (.if_icmp .le 5, 3) := by decide +kernel
theorem dX2_nearestWhole_29 : decode cX2_nearestWhole 29 = .ok (.lconst 0, 1) := by decide +kernel
theorem dX2_nearestWhole_30 : decode cX2_nearestWhole 30 = .ok (.lreturn, 1) := by decide +kernel
theorem dX2_nearestWhole_31 : decode cX2_nearestWhole 31 = .ok (.aload_n 0, 1) := by decide +kernel
theorem dX2_nearestWhole_32 : decode cX2_nearestWhole 32 = .ok (.getfield 59, 3) := by decide +kernel
theorem dX2_nearestWhole_35 : decode cX2_nearestWhole 35 = .ok (.iload_n 1, 1) := by decide +kernel
theorem dX2_nearestWhole_36 : decode cX2_nearestWhole 36 = .ok (.lshr, 1) := by decide +kernel
theorem dX2_nearestWhole_37 : decode cX2_nearestWhole 37 = .ok (.lstore_n 2, 1) := by decide +kernel
theorem dX2_nearestWhole_38 : decode cX2_nearestWhole 38 = .ok (.aload_n 0, 1) := by decide +kernel
theorem dX2_nearestWhole_39 : decode cX2_nearestWhole 39 = .ok (.getfield 59, 3) := by decide +kernel
theorem dX2_nearestWhole_42 : decode cX2_nearestWhole 42 = .ok (.lload_n 2, 1) := by decide +kernel
theorem dX2_nearestWhole_43 : decode cX2_nearestWhole 43 = .ok (.iload_n 1, 1) := by decide +kernel
theorem dX2_nearestWhole_44 : decode cX2_nearestWhole 44 = .ok (.lshl, 1) := by decide +kernel
theorem dX2_nearestWhole_45 : decode cX2_nearestWhole 45 = .ok (.lsub, 1) := by decide +kernel
theorem dX2_nearestWhole_46 : decode cX2_nearestWhole 46 = .ok (.lstore 4, 2) := by decide +kernel
theorem dX2_nearestWhole_48 : decode cX2_nearestWhole 48 = .ok (.lconst 1, 1) := by decide +kernel
theorem dX2_nearestWhole_49 : decode cX2_nearestWhole 49 = .ok (.iload_n 1, 1) := by decide +kernel
theorem dX2_nearestWhole_50 : decode cX2_nearestWhole 50 = .ok (.iconst 1, 1) := by decide +kernel
theorem dX2_nearestWhole_51 : decode cX2_nearestWhole 51 = .ok (.isub, 1) := by decide +kernel
theorem dX2_nearestWhole_52 : decode cX2_nearestWhole 52 = .ok (.lshl, 1) := by decide +kernel
theorem dX2_nearestWhole_53 : decode cX2_nearestWhole 53 = .ok (.lstore 6, 2) := by decide +kernel
theorem dX2_nearestWhole_55 : decode cX2_nearestWhole 55 = .ok (.lload 4, 2) := by decide +kernel
theorem dX2_nearestWhole_57 : decode cX2_nearestWhole 57 = .ok (.lload 6, 2) := by decide +kernel
theorem dX2_nearestWhole_59 : decode cX2_nearestWhole 59 = .ok (.lcmp, 1) := by decide +kernel
theorem dX2_nearestWhole_60 : decode cX2_nearestWhole 60 = .ok (.ifCond .gt 19, 3) := by decide +kernel
theorem dX2_nearestWhole_63 : decode cX2_nearestWhole 63 = .ok (.lload 4, 2) := by decide +kernel
theorem dX2_nearestWhole_65 : decode cX2_nearestWhole 65 = .ok (.lload 6, 2) := by decide +kernel
theorem dX2_nearestWhole_67 : decode cX2_nearestWhole 67 = .ok (.lcmp, 1) := by decide +kernel
theorem dX2_nearestWhole_68 : decode cX2_nearestWhole 68 = .ok (.ifCond .ne 15, 3) := by decide +kernel
theorem dX2_nearestWhole_71 : decode cX2_nearestWhole 71 = .ok (.lload_n 2, 1) := by decide +kernel
theorem dX2_nearestWhole_72 : decode cX2_nearestWhole 72 = .ok (.lconst 1, 1) := by decide +kernel
theorem dX2_nearestWhole_73 : decode cX2_nearestWhole 73 = .ok (.land, 1) := by decide +kernel
theorem dX2_nearestWhole_74 : decode cX2_nearestWhole 74 = .ok (.lconst 1, 1) := by decide +kernel
theorem dX2_nearestWhole_75 : decode cX2_nearestWhole 75 = .ok (.lcmp, 1) := by decide +kernel
theorem dX2_nearestWhole_76 : decode cX2_nearestWhole 76 = .ok (.ifCond .ne 7, 3) := by decide +kernel
theorem dX2_nearestWhole_79 : decode cX2_nearestWhole 79 = .ok (.iconst 1, 1) := by decide +kernel
theorem dX2_nearestWhole_80 : decode cX2_nearestWhole 80 = .ok (.goto 4, 3) := by decide +kernel
theorem dX2_nearestWhole_83 : decode cX2_nearestWhole 83 = .ok (.iconst 0, 1) := by decide +kernel
theorem dX2_nearestWhole_84 : decode cX2_nearestWhole 84 = .ok (.istore 8, 2) := by decide +kernel
theorem dX2_nearestWhole_86 : decode cX2_nearestWhole 86 = .ok (.iload 8, 2) := by decide +kernel
theorem dX2_nearestWhole_88 : decode cX2_nearestWhole 88 = .ok (.ifCond .eq 9, 3) := by decide +kernel
theorem dX2_nearestWhole_91 : decode cX2_nearestWhole 91 = .ok (.lload_n 2, 1) := by decide +kernel
theorem dX2_nearestWhole_92 : decode cX2_nearestWhole 92 = .ok (.lconst 1, 1) := by decide +kernel
theorem dX2_nearestWhole_93 : decode cX2_nearestWhole 93 = .ok (.ladd, 1) := by decide +kernel
theorem dX2_nearestWhole_94 : decode cX2_nearestWhole 94 = .ok (.goto 4, 3) := by decide +kernel
theorem dX2_nearestWhole_97 : decode cX2_nearestWhole 97 = .ok (.lload_n 2, 1) := by decide +kernel
theorem dX2_nearestWhole_98 : decode cX2_nearestWhole 98 = .ok (.lreturn, 1) := by decide +kernel
theorem dX2_roundedSum_0 : decode cX2_roundedSum 0 = .ok (.aload_n 1, 1) := by decide +kernel
theorem dX2_roundedSum_1 : decode cX2_roundedSum 1 = .ok (.invokevirtual 130, 3) := by decide +kernel
theorem dX2_roundedSum_4 : decode cX2_roundedSum 4 = .ok (.ifCond .eq 11, 3) := by decide +kernel
theorem dX2_roundedSum_7 : decode cX2_roundedSum 7 = .ok (.aload_n 0, 1) := by decide +kernel
theorem dX2_roundedSum_8 : decode cX2_roundedSum 8 = .ok (.getfield 13, 3) := by decide +kernel
theorem dX2_roundedSum_11 : decode cX2_roundedSum 11 = .ok (.invokestatic 63, 3) := by decide +kernel
theorem dX2_roundedSum_14 : decode cX2_roundedSum 14 = .ok (.ireturn, 1) := by decide +kernel
theorem dX2_roundedSum_15 : decode cX2_roundedSum 15 = .ok (.aload_n 1, 1) := by decide +kernel
theorem dX2_roundedSum_16 : decode cX2_roundedSum 16 = .ok (.invokevirtual 134, 3) := by decide +kernel
theorem dX2_roundedSum_19 : decode cX2_roundedSum 19 = .ok (.istore_n 2, 1) := by decide +kernel
theorem dX2_roundedSum_20 : decode cX2_roundedSum 20 = .ok (.aload_n 0, 1) := by decide +kernel
theorem dX2_roundedSum_21 : decode cX2_roundedSum 21 = .ok (.getfield 30, 3) := by decide +kernel
theorem dX2_roundedSum_24 : decode cX2_roundedSum 24 = .ok (.aload_n 1, 1) := by decide +kernel
theorem dX2_roundedSum_25 : decode cX2_roundedSum 25 = .ok (.invokevirtual 137, 3) := by decide +kernel
theorem dX2_roundedSum_28 : decode cX2_roundedSum 28 = .ok (.iload_n 2, 1) := by decide +kernel
theorem dX2_roundedSum_29 : decode cX2_roundedSum 29 = .ok (.ifCond .eq 10, 3) := by decide +kernel
theorem dX2_roundedSum_32 : decode cX2_roundedSum 32 = .ok (.aload_n 0, 1) := by decide +kernel
theorem dX2_roundedSum_33 : decode cX2_roundedSum 33 = .ok (.getfield 30, 3) := by decide +kernel
theorem dX2_roundedSum_36 : decode cX2_roundedSum 36 = .ok (.invokevirtual 120, 3) := by decide +kernel
theorem dX2_roundedSum_39 : decode cX2_roundedSum 39 = .ok (.aload_n 0, 1) := by decide +kernel
theorem dX2_roundedSum_40 : decode cX2_roundedSum 40 = .ok (.getfield 30, 3) := by decide +kernel
theorem dX2_roundedSum_43 : decode cX2_roundedSum 43 = .ok (.invokevirtual 140, 3) := by decide +kernel
theorem dX2_roundedSum_46 : decode cX2_roundedSum 46 = .ok (.istore_n 3, 1) := by decide +kernel
theorem dX2_roundedSum_47 : decode cX2_roundedSum 47 = .ok (.iload_n 3, 1) := by decide +kernel
theorem dX2_roundedSum_48 : decode cX2_roundedSum 48 = .ok (.ifCond .ge 5, 3) := by decide +kernel
theorem dX2_roundedSum_51 : decode cX2_roundedSum 51 = .ok (.iconst 0, 1) := by decide +kernel
theorem dX2_roundedSum_52 : decode cX2_roundedSum 52 = .ok (.ireturn, 1) := by decide +kernel
theorem dX2_roundedSum_53 : decode cX2_roundedSum 53 = .ok (.aload_n 0, 1) := by decide +kernel
theorem dX2_roundedSum_54 : decode cX2_roundedSum 54 = .ok (.getfield 30, 3) := by decide +kernel
theorem dX2_roundedSum_57 : decode cX2_roundedSum 57 = .ok (.iload_n 3, 1) := by decide +kernel
theorem dX2_roundedSum_58 : decode cX2_roundedSum 58 = .ok (.bipush 63, 2) := by decide +kernel
theorem dX2_roundedSum_60 : decode cX2_roundedSum 60 = .ok (.isub, 1) := by decide +kernel
theorem dX2_roundedSum_61 : decode cX2_roundedSum 61 = .ok (.invokevirtual 143, 3) := by decide +kernel
theorem dX2_roundedSum_64 : decode cX2_roundedSum 64 = .ok (.istore 4, 2) := by decide +kernel
theorem dX2_roundedSum_66 : decode cX2_roundedSum 66 = .ok (.aload_n 0, 1) := by decide +kernel
theorem dX2_roundedSum_67 : decode cX2_roundedSum 67 = .ok (.getfield 13, 3) := by decide +kernel
theorem dX2_roundedSum_70 : decode cX2_roundedSum 70 = .ok (.iload_n 2, 1) := by decide +kernel
theorem dX2_roundedSum_71 : decode cX2_roundedSum 71 = .ok (.iload_n 3, 1) := by decide +kernel
theorem dX2_roundedSum_72 : decode cX2_roundedSum 72 = .ok (.aload_n 0, 1) := by decide +kernel
theorem dX2_roundedSum_73 : decode cX2_roundedSum 73 = .ok (.getfield 30, 3) := by decide +kernel
theorem dX2_roundedSum_76 : decode cX2_roundedSum 76 = .ok (.getfield 146, 3) := by decide +kernel
theorem dX2_roundedSum_79 : decode cX2_roundedSum 79 = .ok (.isub, 1) := by decide +kernel
theorem dX2_roundedSum_80 : decode cX2_roundedSum 80 = .ok (.aload_n 0, 1) := by decide +kernel
theorem dX2_roundedSum_81 : decode cX2_roundedSum 81 = .ok (.getfield 30, 3) := by decide +kernel
theorem dX2_roundedSum_84 : decode cX2_roundedSum 84 = .ok (.iload_n 3, 1) := by decide +kernel
theorem dX2_roundedSum_85 : decode cX2_roundedSum 85 = .ok (.invokevirtual 149, 3) := by decide +kernel
theorem dX2_roundedSum_88 : decode cX2_roundedSum 88 = .ok (.iload 4, 2) := by decide +kernel
theorem dX2_roundedSum_90 : decode cX2_roundedSum 90 = .ok (.invokestatic 153, 3) := by decide +kernel
theorem dX2_roundedSum_93 : decode cX2_roundedSum 93 = .ok (.ireturn, 1) := by decide +kernel
theorem dX2_rounded_0 : decode cX2_rounded 0 = .ok (.lload_n 2, 1) := by decide +kernel
theorem dX2_rounded_1 : decode cX2_rounded 1 = .ok (.lconst 0, 1) := by decide +kernel
theorem dX2_rounded_2 : decode cX2_rounded 2 = .ok (.lcmp, 1) := by decide +kernel
theorem dX2_rounded_3 : decode cX2_rounded 3 = .ok (.ifCond .ne 5, 3) := by decide +kernel
theorem dX2_rounded_6 : decode cX2_rounded 6 = .ok (.iconst 0, 1) := by decide +kernel
theorem dX2_rounded_7 : decode cX2_rounded 7 = .ok (.ireturn, 1) := by decide +kernel
theorem dX2_rounded_8 : decode cX2_rounded 8 = .ok (.lload_n 2, 1) := by decide +kernel
theorem dX2_rounded_9 : decode cX2_rounded 9 = .ok (.invokestatic 66, 3) := by decide +kernel
theorem dX2_rounded_12 : decode cX2_rounded 12 = .ok (.istore 6, 2) := by decide +kernel
theorem dX2_rounded_14 : decode cX2_rounded 14 = .ok (.iload_n 0, 1) := by decide +kernel
theorem dX2_rounded_15 : decode cX2_rounded 15 = .ok (.iload_n 1, 1) := by decide +kernel
theorem dX2_rounded_16 : decode cX2_rounded 16 = .ok (.iload 4, 2) := by decide +kernel
theorem dX2_rounded_18 : decode cX2_rounded 18 = .ok (.bipush 63, 2) := by decide +kernel
theorem dX2_rounded_20 : decode cX2_rounded 20 = .ok (.iadd, 1) := by decide +kernel
theorem dX2_rounded_21 : decode cX2_rounded 21 = .ok (.iload 6, 2) := by decide +kernel
theorem dX2_rounded_23 : decode cX2_rounded 23 = .ok (.isub, 1) := by decide +kernel
theorem dX2_rounded_24 : decode cX2_rounded 24 = .ok (.lload_n 2, 1) := by decide +kernel
theorem dX2_rounded_25 : decode cX2_rounded 25 = .ok (.iload 6, 2) := by decide +kernel
theorem dX2_rounded_27 : decode cX2_rounded 27 = .ok (.lshl, 1) := by decide +kernel
theorem dX2_rounded_28 : decode cX2_rounded 28 = .ok (.iload 5, 2) := by decide +kernel
theorem dX2_rounded_30 : decode cX2_rounded 30 = .ok (.invokestatic 153, 3) := by decide +kernel
theorem dX2_rounded_33 : decode cX2_rounded 33 = .ok (.ireturn, 1) := by decide +kernel
theorem dX2_signedPattern_0 : decode cX2_signedPattern 0 = .ok (.iload_n 0, 1) := by decide +kernel
theorem dX2_signedPattern_1 : decode cX2_signedPattern 1 = .ok (.iload_n 2, 1) := by decide +kernel
theorem dX2_signedPattern_2 : decode cX2_signedPattern 2 = .ok (.lload_n 3, 1) := by decide +kernel
theorem dX2_signedPattern_3 : decode cX2_signedPattern 3 = .ok (.iload 5, 2) := by decide +kernel
theorem dX2_signedPattern_5 : decode cX2_signedPattern 5 = .ok (.invokestatic 157, 3) := by decide +kernel
theorem dX2_signedPattern_8 : decode cX2_signedPattern 8 = .ok (.istore 6, 2) := by decide +kernel
theorem dX2_signedPattern_10 : decode cX2_signedPattern 10 = .ok (.iload_n 1, 1) := by decide +kernel
theorem dX2_signedPattern_11 : decode cX2_signedPattern 11 = .ok (.ifCond .eq 9, 3) := by decide +kernel
theorem dX2_signedPattern_14 : decode cX2_signedPattern 14 = .ok (.iload 6, 2) := by decide +kernel
theorem dX2_signedPattern_16 : decode cX2_signedPattern 16 = .ok (.ineg, 1) := by decide +kernel
theorem dX2_signedPattern_17 : decode cX2_signedPattern 17 = .ok (.goto 5, 3) := by decide +kernel
theorem dX2_signedPattern_20 : decode cX2_signedPattern 20 = .ok (.iload 6, 2) := by decide +kernel
theorem dX2_signedPattern_22 : decode cX2_signedPattern 22 = .ok (.ireturn, 1) := by decide +kernel
theorem dX2_positivePattern_0 : decode cX2_positivePattern 0 = .ok (.iconst 4, 1) := by decide +kernel
theorem dX2_positivePattern_1 : decode cX2_positivePattern 1 = .ok (.iload_n 0, 1) := by decide +kernel
theorem dX2_positivePattern_2 : decode cX2_positivePattern 2 = .ok (.imul, 1) := by decide +kernel
theorem dX2_positivePattern_3 : decode cX2_positivePattern 3 = .ok (.bipush 8, 2) := by decide +kernel
theorem dX2_positivePattern_5 : decode cX2_positivePattern 5 = .ok (.isub, 1) := by decide +kernel
theorem dX2_positivePattern_6 : decode cX2_positivePattern 6 = .ok (.istore 5, 2) := by decide +kernel
theorem dX2_positivePattern_8 : decode cX2_positivePattern 8 = .ok (.iload_n 1, 1) := by decide +kernel
theorem dX2_positivePattern_9 : decode cX2_positivePattern 9 = .ok (.iload 5, 2) := by decide +kernel
theorem dX2_positivePattern_11 : decode cX2_positivePattern 11 = .ok (.if_icmp .lt 11, 3) := by decide +kernel
theorem dX2_positivePattern_14 : decode cX2_positivePattern 14 = .ok (.iconst 1, 1) := by decide +kernel
theorem dX2_positivePattern_15 : decode cX2_positivePattern 15 = .ok (.iload_n 0, 1) := by decide +kernel
theorem dX2_positivePattern_16 : decode cX2_positivePattern 16 = .ok (.iconst 1, 1) := by decide +kernel
theorem dX2_positivePattern_17 : decode cX2_positivePattern 17 = .ok (.isub, 1) := by decide +kernel
theorem dX2_positivePattern_18 : decode cX2_positivePattern 18 = .ok (.ishl, 1) := by decide +kernel
theorem dX2_positivePattern_19 : decode cX2_positivePattern 19 = .ok (.iconst 1, 1) := by decide +kernel
theorem dX2_positivePattern_20 : decode cX2_positivePattern 20 = .ok (.isub, 1) := by decide +kernel
theorem dX2_positivePattern_21 : decode cX2_positivePattern 21 = .ok (.ireturn, 1) := by decide +kernel
theorem dX2_positivePattern_22 : decode cX2_positivePattern 22 = .ok (.iload_n 1, 1) := by decide +kernel
theorem dX2_positivePattern_23 : decode cX2_positivePattern 23 = .ok (.iload 5, 2) := by decide +kernel
theorem dX2_positivePattern_25 : decode cX2_positivePattern 25 = .ok (.ineg, 1) := by decide +kernel
theorem dX2_positivePattern_26 : decode cX2_positivePattern 26 = .ok (.if_icmp .ge 5, 3) := by decide +kernel
theorem dX2_positivePattern_29 : decode cX2_positivePattern 29 = .ok (.iconst 1, 1) := by decide +kernel
theorem dX2_positivePattern_30 : decode cX2_positivePattern 30 = .ok (.ireturn, 1) := by decide +kernel
theorem dX2_positivePattern_31 : decode cX2_positivePattern 31 = .ok (.iload_n 1, 1) := by decide +kernel
theorem dX2_positivePattern_32 : decode cX2_positivePattern 32 = .ok (.iconst 2, 1) := by decide +kernel
theorem dX2_positivePattern_33 : decode cX2_positivePattern 33 = .ok (.ishr, 1) := by decide +kernel
theorem dX2_positivePattern_34 : decode cX2_positivePattern 34 = .ok (.istore 6, 2) := by decide +kernel
theorem dX2_positivePattern_36 : decode cX2_positivePattern 36 = .ok (.iload 6, 2) := by decide +kernel
theorem dX2_positivePattern_38 : decode cX2_positivePattern 38 = .ok (.ifCond .lt 10, 3) := by decide +kernel
theorem dX2_positivePattern_41 : decode cX2_positivePattern 41 = .ok (.iload 6, 2) := by decide +kernel
theorem dX2_positivePattern_43 : decode cX2_positivePattern 43 = .ok (.iconst 2, 1) := by decide +kernel
theorem dX2_positivePattern_44 : decode cX2_positivePattern 44 = .ok (.iadd, 1) := by decide +kernel
theorem dX2_positivePattern_45 : decode cX2_positivePattern 45 = .ok (.goto 7, 3) := by decide +kernel
theorem dX2_positivePattern_48 : decode cX2_positivePattern 48 = .ok (.iconst 1, 1) := by decide +kernel
theorem dX2_positivePattern_49 : decode cX2_positivePattern 49 = .ok (.iload 6, 2) := by decide +kernel
theorem dX2_positivePattern_51 : decode cX2_positivePattern 51 = .ok (.isub, 1) := by decide +kernel
theorem dX2_positivePattern_52 : decode cX2_positivePattern 52 = .ok (.istore 7, 2) := by decide +kernel
theorem dX2_positivePattern_54 : decode cX2_positivePattern 54 = .ok (.iload 6, 2) := by decide +kernel
theorem dX2_positivePattern_56 : decode cX2_positivePattern 56 = .ok (.ifCond .lt 12, 3) := by decide +kernel
theorem dX2_positivePattern_59 : decode cX2_positivePattern 59 = .ok (.iconst 1, 1) := by decide +kernel
theorem dX2_positivePattern_60 : decode cX2_positivePattern 60 = .ok (.iload 7, 2) := by decide +kernel
theorem dX2_positivePattern_62 : decode cX2_positivePattern 62 = .ok (.ishl, 1) := by decide +kernel
theorem dX2_positivePattern_63 : decode cX2_positivePattern 63 = .ok (.iconst 2, 1) := by decide +kernel
theorem dX2_positivePattern_64 : decode cX2_positivePattern 64 = .ok (.isub, 1) := by decide +kernel
theorem dX2_positivePattern_65 : decode cX2_positivePattern 65 = .ok (.goto 4, 3) := by decide +kernel
theorem dX2_positivePattern_68 : decode cX2_positivePattern 68 = .ok (.iconst 1, 1) := by decide +kernel
theorem dX2_positivePattern_69 : decode cX2_positivePattern 69 = .ok (.istore 8, 2) := by decide +kernel
theorem dX2_positivePattern_71 : decode cX2_positivePattern 71 = .ok (.iload_n 1, 1) := by decide +kernel
theorem dX2_positivePattern_72 : decode cX2_positivePattern 72 = .ok (.iconst 3, 1) := by decide +kernel
theorem dX2_positivePattern_73 : decode cX2_positivePattern 73 = .ok (.iand, 1) := by decide +kernel
theorem dX2_positivePattern_74 : decode cX2_positivePattern 74 = .ok (.i2l, 1) := by decide +kernel
theorem dX2_positivePattern_75 : decode cX2_positivePattern 75 = .ok (.bipush 62, 2) := by decide +kernel
theorem dX2_positivePattern_77 : decode cX2_positivePattern 77 = .ok (.lshl, 1) := by decide +kernel
theorem dX2_positivePattern_78 : decode cX2_positivePattern 78 = .ok (.lload_n 2, 1) := by decide +kernel
theorem dX2_positivePattern_79 : decode cX2_positivePattern 79 = .ok (.ldc2_w 161, 3) := by decide +kernel
theorem dX2_positivePattern_82 : decode cX2_positivePattern 82 = .ok (.land, 1) := by decide +kernel
theorem dX2_positivePattern_83 : decode cX2_positivePattern 83 = .ok (.iconst 1, 1) := by decide +kernel
theorem dX2_positivePattern_84 : decode cX2_positivePattern 84 = .ok (.lushr, 1) := by decide +kernel
theorem dX2_positivePattern_85 : decode cX2_positivePattern 85 = .ok (.lor, 1) := by decide +kernel
theorem dX2_positivePattern_86 : decode cX2_positivePattern 86 = .ok (.lstore 9, 2) := by decide +kernel
theorem dX2_positivePattern_88 : decode cX2_positivePattern 88 = .ok (.iload 4, 2) := by decide +kernel
theorem dX2_positivePattern_90 : decode cX2_positivePattern 90 = .ok (.ifCond .ne 11, 3) := by decide +kernel
theorem dX2_positivePattern_93 : decode cX2_positivePattern 93 = .ok (.lload_n 2, 1) := by decide +kernel
theorem dX2_positivePattern_94 : decode cX2_positivePattern 94 = .ok (.lconst 1, 1) := by decide +kernel
theorem dX2_positivePattern_95 : decode cX2_positivePattern 95 = .ok (.land, 1) := by decide +kernel
theorem dX2_positivePattern_96 : decode cX2_positivePattern 96 = .ok (.lconst 0, 1) := by decide +kernel
theorem dX2_positivePattern_97 : decode cX2_positivePattern 97 = .ok (.lcmp, 1) := by decide +kernel
theorem dX2_positivePattern_98 : decode cX2_positivePattern 98 = .ok (.ifCond .eq 7, 3) := by decide +kernel
theorem dX2_positivePattern_101 : decode cX2_positivePattern 101 = .ok (.iconst 1, 1) := by decide +kernel
theorem dX2_positivePattern_102 : decode cX2_positivePattern 102 = .ok (.goto 4, 3) := by decide +kernel
theorem dX2_positivePattern_105 : decode cX2_positivePattern 105 = .ok (.iconst 0, 1) := by decide +kernel
theorem dX2_positivePattern_106 : decode cX2_positivePattern 106 = .ok (.istore 11, 2) := by decide +kernel
theorem dX2_positivePattern_108 : decode cX2_positivePattern 108 = .ok (.iload_n 0, 1) := by decide +kernel
theorem dX2_positivePattern_109 : decode cX2_positivePattern 109 = .ok (.iconst 1, 1) := by decide +kernel
theorem dX2_positivePattern_110 : decode cX2_positivePattern 110 = .ok (.isub, 1) := by decide +kernel
theorem dX2_positivePattern_111 : decode cX2_positivePattern 111 = .ok (.iload 7, 2) := by decide +kernel
theorem dX2_positivePattern_113 : decode cX2_positivePattern 113 = .ok (.isub, 1) := by decide +kernel
theorem dX2_positivePattern_114 : decode cX2_positivePattern 114 = .ok (.istore 12, 2) := by decide +kernel
theorem dX2_positivePattern_116 : decode cX2_positivePattern 116 = .ok (.iload 8, 2) := by decide +kernel
theorem dX2_positivePattern_118 : decode cX2_positivePattern 118 = .ok (.iload 12, 2) := by decide +kernel
theorem dX2_positivePattern_120 : decode cX2_positivePattern 120 = .ok (.ishl, 1) := by decide +kernel
theorem dX2_positivePattern_121 : decode cX2_positivePattern 121 = .ok (.lload 9, 2) := by decide +kernel
theorem dX2_positivePattern_123 : decode cX2_positivePattern 123 = .ok (.iconst 1, 1) := by decide +kernel
theorem dX2_positivePattern_124 : decode cX2_positivePattern 124 = .ok (.lushr, 1) := by decide +kernel
theorem dX2_positivePattern_125 : decode cX2_positivePattern 125 = .ok (.bipush 63, 2) := by decide +kernel
theorem dX2_positivePattern_127 : decode cX2_positivePattern 127 = .ok (.iload 12, 2) := by decide +kernel
theorem dX2_positivePattern_129 : decode cX2_positivePattern 129 = .ok (.isub, 1) := by decide +kernel
theorem dX2_positivePattern_130 : decode cX2_positivePattern 130 = .ok (.lushr, 1) := by decide +kernel
theorem dX2_positivePattern_131 : decode cX2_positivePattern 131 = .ok (.l2i, 1) := by decide +kernel
theorem dX2_positivePattern_132 : decode cX2_positivePattern 132 = .ok (.ior, 1) := by decide +kernel
theorem dX2_positivePattern_133 : decode cX2_positivePattern 133 = .ok (.istore 13, 2) := by decide +kernel
theorem dX2_positivePattern_135 : decode cX2_positivePattern 135 = .ok (.lload 9, 2) := by decide +kernel
theorem dX2_positivePattern_137 : decode cX2_positivePattern 137 = .ok (.iload 12, 2) := by decide +kernel
theorem dX2_positivePattern_139 : decode cX2_positivePattern 139 = .ok (.lshl, 1) := by decide +kernel
theorem dX2_positivePattern_140 : decode cX2_positivePattern 140 = .ok (.lstore 14, 2) := by decide +kernel
theorem dX2_positivePattern_142 : decode cX2_positivePattern 142 = .ok (.lload 14, 2) := by decide +kernel
theorem dX2_positivePattern_144 : decode cX2_positivePattern 144 = .ok (.lconst 0, 1) := by decide +kernel
theorem dX2_positivePattern_145 : decode cX2_positivePattern 145 = .ok (.lcmp, 1) := by decide +kernel
theorem dX2_positivePattern_146 : decode cX2_positivePattern 146 = .ok (.ifCond .ge 7, 3) := by decide +kernel
theorem dX2_positivePattern_149 : decode cX2_positivePattern 149 = .ok (.iconst 1, 1) := by decide +kernel
theorem dX2_positivePattern_150 : decode cX2_positivePattern 150 = .ok (.goto 4, 3) := by decide +kernel
theorem dX2_positivePattern_153 : decode cX2_positivePattern 153 = .ok (.iconst 0, 1) := by decide +kernel
theorem dX2_positivePattern_154 : decode cX2_positivePattern 154 = .ok (.istore 16, 2) := by decide +kernel
theorem dX2_positivePattern_156 : decode cX2_positivePattern 156 = .ok (.lload 14, 2) := by decide +kernel
theorem dX2_positivePattern_158 : decode cX2_positivePattern 158 = .ok (.iconst 1, 1) := by decide +kernel
theorem dX2_positivePattern_159 : decode cX2_positivePattern 159 = .ok (.lshl, 1) := by decide +kernel
theorem dX2_positivePattern_160 : decode cX2_positivePattern 160 = .ok (.lconst 0, 1) := by decide +kernel
theorem dX2_positivePattern_161 : decode cX2_positivePattern 161 = .ok (.lcmp, 1) := by decide +kernel
theorem dX2_positivePattern_162 : decode cX2_positivePattern 162 = .ok (.ifCond .ne 8, 3) := by decide +kernel
theorem dX2_positivePattern_165 : decode cX2_positivePattern 165 = .ok (.iload 11, 2) := by decide +kernel
theorem dX2_positivePattern_167 : decode cX2_positivePattern 167 = .ok (.ifCond .eq 7, 3) := by decide +kernel
theorem dX2_positivePattern_170 : decode cX2_positivePattern 170 = .ok (.iconst 1, 1) := by decide +kernel
theorem dX2_positivePattern_171 : decode cX2_positivePattern 171 = .ok (.goto 4, 3) := by decide +kernel
theorem dX2_positivePattern_174 : decode cX2_positivePattern 174 = .ok (.iconst 0, 1) := by decide +kernel
theorem dX2_positivePattern_175 : decode cX2_positivePattern 175 = .ok (.istore 17, 2) := by decide +kernel
theorem dX2_positivePattern_177 : decode cX2_positivePattern 177 = .ok (.iload 16, 2) := by decide +kernel
theorem dX2_positivePattern_179 : decode cX2_positivePattern 179 = .ok (.ifCond .eq 20, 3) := by decide +kernel
theorem dX2_positivePattern_182 : decode cX2_positivePattern 182 = .ok (.iload 17, 2) := by decide +kernel
theorem dX2_positivePattern_184 : decode cX2_positivePattern 184 = .ok (.ifCond .ne 11, 3) := by decide +kernel
theorem dX2_positivePattern_187 : decode cX2_positivePattern 187 = .ok (.iload 13, 2) := by decide +kernel
theorem dX2_positivePattern_189 : decode cX2_positivePattern 189 = .ok (.iconst 1, 1) := by decide +kernel
theorem dX2_positivePattern_190 : decode cX2_positivePattern 190 = .ok (.iand, 1) := by decide +kernel
theorem dX2_positivePattern_191 : decode cX2_positivePattern 191 = .ok (.iconst 1, 1) := by decide +kernel
theorem dX2_positivePattern_192 : decode cX2_positivePattern 192 = .ok (.if_icmp .ne 7, 3) := by decide +kernel
theorem dX2_positivePattern_195 : decode cX2_positivePattern 195 = .ok (.iconst 1, 1) := by decide +kernel
theorem dX2_positivePattern_196 : decode cX2_positivePattern 196 = .ok (.goto 4, 3) := by decide +kernel
theorem dX2_positivePattern_199 : decode cX2_positivePattern 199 = .ok (.iconst 0, 1) := by decide +kernel
theorem dX2_positivePattern_200 : decode cX2_positivePattern 200 = .ok (.istore 18, 2) := by decide +kernel
theorem dX2_positivePattern_202 : decode cX2_positivePattern 202 = .ok (.iload 18, 2) := by decide +kernel
theorem dX2_positivePattern_204 : decode cX2_positivePattern 204 = .ok (.ifCond .eq 10, 3) := by decide +kernel
theorem dX2_positivePattern_207 : decode cX2_positivePattern 207 = .ok (.iload 13, 2) := by decide +kernel
theorem dX2_positivePattern_209 : decode cX2_positivePattern 209 = .ok (.iconst 1, 1) := by decide +kernel
theorem dX2_positivePattern_210 : decode cX2_positivePattern 210 = .ok (.iadd, 1) := by decide +kernel
theorem dX2_positivePattern_211 : decode cX2_positivePattern 211 = .ok (.goto 5, 3) := by decide +kernel
theorem dX2_positivePattern_214 : decode cX2_positivePattern 214 = .ok (.iload 13, 2) := by decide +kernel
theorem dX2_positivePattern_216 : decode cX2_positivePattern 216 = .ok (.ireturn, 1) := by decide +kernel
theorem dJ6_numberOfLeadingZeros_0f7a4_0 : decode cJ6_numberOfLeadingZeros_0f7a4 0 = .ok (.iload_n 0, 1) := by decide +kernel
theorem dJ6_numberOfLeadingZeros_0f7a4_1 : decode cJ6_numberOfLeadingZeros_0f7a4 1 = .ok (.ifCond .gt 14, 3) := by decide +kernel
theorem dJ6_numberOfLeadingZeros_0f7a4_4 : decode cJ6_numberOfLeadingZeros_0f7a4 4 = .ok (.iload_n 0, 1) := by decide +kernel
theorem dJ6_numberOfLeadingZeros_0f7a4_5 : decode cJ6_numberOfLeadingZeros_0f7a4 5 = .ok (.ifCond .ne 8, 3) := by decide +kernel
theorem dJ6_numberOfLeadingZeros_0f7a4_8 : decode cJ6_numberOfLeadingZeros_0f7a4 8 = .ok (.bipush 32, 2) := by decide +kernel
theorem dJ6_numberOfLeadingZeros_0f7a4_10 : decode cJ6_numberOfLeadingZeros_0f7a4 10 = .ok (.goto 4, 3) := by decide +kernel
theorem dJ6_numberOfLeadingZeros_0f7a4_13 : decode cJ6_numberOfLeadingZeros_0f7a4 13 = .ok (.iconst 0, 1) := by decide +kernel
theorem dJ6_numberOfLeadingZeros_0f7a4_14 : decode cJ6_numberOfLeadingZeros_0f7a4 14 = .ok (.ireturn, 1) := by decide +kernel
theorem dJ6_numberOfLeadingZeros_0f7a4_15 : decode cJ6_numberOfLeadingZeros_0f7a4 15 = .ok (.bipush 31, 2) := by decide +kernel
theorem dJ6_numberOfLeadingZeros_0f7a4_17 : decode cJ6_numberOfLeadingZeros_0f7a4 17 = .ok (.istore_n 1, 1) := by decide +kernel
theorem dJ6_numberOfLeadingZeros_0f7a4_18 : decode cJ6_numberOfLeadingZeros_0f7a4 18 = .ok (.iload_n 0, 1) := by decide +kernel
theorem dJ6_numberOfLeadingZeros_0f7a4_19 : decode cJ6_numberOfLeadingZeros_0f7a4 19 = .ok (.ldc_w 264, 3) := by decide +kernel
theorem dJ6_numberOfLeadingZeros_0f7a4_22 : decode cJ6_numberOfLeadingZeros_0f7a4 22 = .ok (.if_icmp .lt 11, 3) := by decide +kernel
theorem dJ6_numberOfLeadingZeros_0f7a4_25 : decode cJ6_numberOfLeadingZeros_0f7a4 25 = .ok (.iinc 1 (-16), 3) := by decide +kernel
theorem dJ6_numberOfLeadingZeros_0f7a4_28 : decode cJ6_numberOfLeadingZeros_0f7a4 28 = .ok (.iload_n 0, 1) := by decide +kernel
theorem dJ6_numberOfLeadingZeros_0f7a4_29 : decode cJ6_numberOfLeadingZeros_0f7a4 29 = .ok (.bipush 16, 2) := by decide +kernel
theorem dJ6_numberOfLeadingZeros_0f7a4_31 : decode cJ6_numberOfLeadingZeros_0f7a4 31 = .ok (.iushr, 1) := by decide +kernel
theorem dJ6_numberOfLeadingZeros_0f7a4_32 : decode cJ6_numberOfLeadingZeros_0f7a4 32 = .ok (.istore_n 0, 1) := by decide +kernel
theorem dJ6_numberOfLeadingZeros_0f7a4_33 : decode cJ6_numberOfLeadingZeros_0f7a4 33 = .ok (.iload_n 0, 1) := by decide +kernel
theorem dJ6_numberOfLeadingZeros_0f7a4_34 : decode cJ6_numberOfLeadingZeros_0f7a4 34 = .ok (.sipush 256, 3) := by decide +kernel
theorem dJ6_numberOfLeadingZeros_0f7a4_37 : decode cJ6_numberOfLeadingZeros_0f7a4 37 = .ok (.if_icmp .lt 11, 3) := by decide +kernel
theorem dJ6_numberOfLeadingZeros_0f7a4_40 : decode cJ6_numberOfLeadingZeros_0f7a4 40 = .ok (.iinc 1 (-8), 3) := by decide +kernel
theorem dJ6_numberOfLeadingZeros_0f7a4_43 : decode cJ6_numberOfLeadingZeros_0f7a4 43 = .ok (.iload_n 0, 1) := by decide +kernel
theorem dJ6_numberOfLeadingZeros_0f7a4_44 : decode cJ6_numberOfLeadingZeros_0f7a4 44 = .ok (.bipush 8, 2) := by decide +kernel
theorem dJ6_numberOfLeadingZeros_0f7a4_46 : decode cJ6_numberOfLeadingZeros_0f7a4 46 = .ok (.iushr, 1) := by decide +kernel
theorem dJ6_numberOfLeadingZeros_0f7a4_47 : decode cJ6_numberOfLeadingZeros_0f7a4 47 = .ok (.istore_n 0, 1) := by decide +kernel
theorem dJ6_numberOfLeadingZeros_0f7a4_48 : decode cJ6_numberOfLeadingZeros_0f7a4 48 = .ok (.iload_n 0, 1) := by decide +kernel
theorem dJ6_numberOfLeadingZeros_0f7a4_49 : decode cJ6_numberOfLeadingZeros_0f7a4 49 = .ok (.bipush 16, 2) := by decide +kernel
theorem dJ6_numberOfLeadingZeros_0f7a4_51 : decode cJ6_numberOfLeadingZeros_0f7a4 51 = .ok (.if_icmp .lt 10, 3) := by decide +kernel
theorem dJ6_numberOfLeadingZeros_0f7a4_54 : decode cJ6_numberOfLeadingZeros_0f7a4 54 = .ok (.iinc 1 (-4), 3) := by decide +kernel
theorem dJ6_numberOfLeadingZeros_0f7a4_57 : decode cJ6_numberOfLeadingZeros_0f7a4 57 = .ok (.iload_n 0, 1) := by decide +kernel
theorem dJ6_numberOfLeadingZeros_0f7a4_58 : decode cJ6_numberOfLeadingZeros_0f7a4 58 = .ok (.iconst 4, 1) := by decide +kernel
theorem dJ6_numberOfLeadingZeros_0f7a4_59 : decode cJ6_numberOfLeadingZeros_0f7a4 59 = .ok (.iushr, 1) := by decide +kernel
theorem dJ6_numberOfLeadingZeros_0f7a4_60 : decode cJ6_numberOfLeadingZeros_0f7a4 60 = .ok (.istore_n 0, 1) := by decide +kernel
theorem dJ6_numberOfLeadingZeros_0f7a4_61 : decode cJ6_numberOfLeadingZeros_0f7a4 61 = .ok (.iload_n 0, 1) := by decide +kernel
theorem dJ6_numberOfLeadingZeros_0f7a4_62 : decode cJ6_numberOfLeadingZeros_0f7a4 62 = .ok (.iconst 4, 1) := by decide +kernel
theorem dJ6_numberOfLeadingZeros_0f7a4_63 : decode cJ6_numberOfLeadingZeros_0f7a4 63 = .ok (.if_icmp .lt 10, 3) := by decide +kernel
theorem dJ6_numberOfLeadingZeros_0f7a4_66 : decode cJ6_numberOfLeadingZeros_0f7a4 66 = .ok (.iinc 1 (-2), 3) := by decide +kernel
theorem dJ6_numberOfLeadingZeros_0f7a4_69 : decode cJ6_numberOfLeadingZeros_0f7a4 69 = .ok (.iload_n 0, 1) := by decide +kernel
theorem dJ6_numberOfLeadingZeros_0f7a4_70 : decode cJ6_numberOfLeadingZeros_0f7a4 70 = .ok (.iconst 2, 1) := by decide +kernel
theorem dJ6_numberOfLeadingZeros_0f7a4_71 : decode cJ6_numberOfLeadingZeros_0f7a4 71 = .ok (.iushr, 1) := by decide +kernel
theorem dJ6_numberOfLeadingZeros_0f7a4_72 : decode cJ6_numberOfLeadingZeros_0f7a4 72 = .ok (.istore_n 0, 1) := by decide +kernel
theorem dJ6_numberOfLeadingZeros_0f7a4_73 : decode cJ6_numberOfLeadingZeros_0f7a4 73 = .ok (.iload_n 1, 1) := by decide +kernel
theorem dJ6_numberOfLeadingZeros_0f7a4_74 : decode cJ6_numberOfLeadingZeros_0f7a4 74 = .ok (.iload_n 0, 1) := by decide +kernel
theorem dJ6_numberOfLeadingZeros_0f7a4_75 : decode cJ6_numberOfLeadingZeros_0f7a4 75 = .ok (.iconst 1, 1) := by decide +kernel
theorem dJ6_numberOfLeadingZeros_0f7a4_76 : decode cJ6_numberOfLeadingZeros_0f7a4 76 = .ok (.iushr, 1) := by decide +kernel
theorem dJ6_numberOfLeadingZeros_0f7a4_77 : decode cJ6_numberOfLeadingZeros_0f7a4 77 = .ok (.isub, 1) := by decide +kernel
theorem dJ6_numberOfLeadingZeros_0f7a4_78 : decode cJ6_numberOfLeadingZeros_0f7a4 78 = .ok (.ireturn, 1) := by decide +kernel
theorem dJ6_numberOfTrailingZeros_0f7a4_0 : decode cJ6_numberOfTrailingZeros_0f7a4 0 = .ok (.iload_n 0, 1) := by decide +kernel
theorem dJ6_numberOfTrailingZeros_0f7a4_1 : decode cJ6_numberOfTrailingZeros_0f7a4 1 = .ok (.iconst (-1), 1) := by decide +kernel
theorem dJ6_numberOfTrailingZeros_0f7a4_2 : decode cJ6_numberOfTrailingZeros_0f7a4 2 = .ok (.ixor, 1) := by decide +kernel
theorem dJ6_numberOfTrailingZeros_0f7a4_3 : decode cJ6_numberOfTrailingZeros_0f7a4 3 = .ok (.iload_n 0, 1) := by decide +kernel
theorem dJ6_numberOfTrailingZeros_0f7a4_4 : decode cJ6_numberOfTrailingZeros_0f7a4 4 = .ok (.iconst 1, 1) := by decide +kernel
theorem dJ6_numberOfTrailingZeros_0f7a4_5 : decode cJ6_numberOfTrailingZeros_0f7a4 5 = .ok (.isub, 1) := by decide +kernel
theorem dJ6_numberOfTrailingZeros_0f7a4_6 : decode cJ6_numberOfTrailingZeros_0f7a4 6 = .ok (.iand, 1) := by decide +kernel
theorem dJ6_numberOfTrailingZeros_0f7a4_7 : decode cJ6_numberOfTrailingZeros_0f7a4 7 = .ok (.istore_n 0, 1) := by decide +kernel
theorem dJ6_numberOfTrailingZeros_0f7a4_8 : decode cJ6_numberOfTrailingZeros_0f7a4 8 = .ok (.iload_n 0, 1) := by decide +kernel
theorem dJ6_numberOfTrailingZeros_0f7a4_9 : decode cJ6_numberOfTrailingZeros_0f7a4 9 = .ok (.ifCond .gt 8, 3) := by decide +kernel
theorem dJ6_numberOfTrailingZeros_0f7a4_12 : decode cJ6_numberOfTrailingZeros_0f7a4 12 = .ok (.iload_n 0, 1) := by decide +kernel
theorem dJ6_numberOfTrailingZeros_0f7a4_13 : decode cJ6_numberOfTrailingZeros_0f7a4 13 = .ok (.bipush 32, 2) := by decide +kernel
theorem dJ6_numberOfTrailingZeros_0f7a4_15 : decode cJ6_numberOfTrailingZeros_0f7a4 15 = .ok (.iand, 1) := by decide +kernel
theorem dJ6_numberOfTrailingZeros_0f7a4_16 : decode cJ6_numberOfTrailingZeros_0f7a4 16 = .ok (.ireturn, 1) := by decide +kernel
theorem dJ6_numberOfTrailingZeros_0f7a4_17 : decode cJ6_numberOfTrailingZeros_0f7a4 17 = .ok (.iconst 1, 1) := by decide +kernel
theorem dJ6_numberOfTrailingZeros_0f7a4_18 : decode cJ6_numberOfTrailingZeros_0f7a4 18 = .ok (.istore_n 1, 1) := by decide +kernel
theorem dJ6_numberOfTrailingZeros_0f7a4_19 : decode cJ6_numberOfTrailingZeros_0f7a4 19 = .ok (.iload_n 0, 1) := by decide +kernel
theorem dJ6_numberOfTrailingZeros_0f7a4_20 : decode cJ6_numberOfTrailingZeros_0f7a4 20 = .ok (.ldc_w 264, 3) := by decide +kernel
theorem dJ6_numberOfTrailingZeros_0f7a4_23 : decode cJ6_numberOfTrailingZeros_0f7a4 23 = .ok (.if_icmp .le 11, 3) := by decide +kernel
theorem dJ6_numberOfTrailingZeros_0f7a4_26 : decode cJ6_numberOfTrailingZeros_0f7a4 26 = .ok (.iinc 1 16, 3) := by decide +kernel
theorem dJ6_numberOfTrailingZeros_0f7a4_29 : decode cJ6_numberOfTrailingZeros_0f7a4 29 = .ok (.iload_n 0, 1) := by decide +kernel
theorem dJ6_numberOfTrailingZeros_0f7a4_30 : decode cJ6_numberOfTrailingZeros_0f7a4 30 = .ok (.bipush 16, 2) := by decide +kernel
theorem dJ6_numberOfTrailingZeros_0f7a4_32 : decode cJ6_numberOfTrailingZeros_0f7a4 32 = .ok (.iushr, 1) := by decide +kernel
theorem dJ6_numberOfTrailingZeros_0f7a4_33 : decode cJ6_numberOfTrailingZeros_0f7a4 33 = .ok (.istore_n 0, 1) := by decide +kernel
theorem dJ6_numberOfTrailingZeros_0f7a4_34 : decode cJ6_numberOfTrailingZeros_0f7a4 34 = .ok (.iload_n 0, 1) := by decide +kernel
theorem dJ6_numberOfTrailingZeros_0f7a4_35 : decode cJ6_numberOfTrailingZeros_0f7a4 35 = .ok (.sipush 256, 3) := by decide +kernel
theorem dJ6_numberOfTrailingZeros_0f7a4_38 : decode cJ6_numberOfTrailingZeros_0f7a4 38 = .ok (.if_icmp .le 11, 3) := by decide +kernel
theorem dJ6_numberOfTrailingZeros_0f7a4_41 : decode cJ6_numberOfTrailingZeros_0f7a4 41 = .ok (.iinc 1 8, 3) := by decide +kernel
theorem dJ6_numberOfTrailingZeros_0f7a4_44 : decode cJ6_numberOfTrailingZeros_0f7a4 44 = .ok (.iload_n 0, 1) := by decide +kernel
theorem dJ6_numberOfTrailingZeros_0f7a4_45 : decode cJ6_numberOfTrailingZeros_0f7a4 45 = .ok (.bipush 8, 2) := by decide +kernel
theorem dJ6_numberOfTrailingZeros_0f7a4_47 : decode cJ6_numberOfTrailingZeros_0f7a4 47 = .ok (.iushr, 1) := by decide +kernel
theorem dJ6_numberOfTrailingZeros_0f7a4_48 : decode cJ6_numberOfTrailingZeros_0f7a4 48 = .ok (.istore_n 0, 1) := by decide +kernel
theorem dJ6_numberOfTrailingZeros_0f7a4_49 : decode cJ6_numberOfTrailingZeros_0f7a4 49 = .ok (.iload_n 0, 1) := by decide +kernel
theorem dJ6_numberOfTrailingZeros_0f7a4_50 : decode cJ6_numberOfTrailingZeros_0f7a4 50 = .ok (.bipush 16, 2) := by decide +kernel
theorem dJ6_numberOfTrailingZeros_0f7a4_52 : decode cJ6_numberOfTrailingZeros_0f7a4 52 = .ok (.if_icmp .le 10, 3) := by decide +kernel
theorem dJ6_numberOfTrailingZeros_0f7a4_55 : decode cJ6_numberOfTrailingZeros_0f7a4 55 = .ok (.iinc 1 4, 3) := by decide +kernel
theorem dJ6_numberOfTrailingZeros_0f7a4_58 : decode cJ6_numberOfTrailingZeros_0f7a4 58 = .ok (.iload_n 0, 1) := by decide +kernel
theorem dJ6_numberOfTrailingZeros_0f7a4_59 : decode cJ6_numberOfTrailingZeros_0f7a4 59 = .ok (.iconst 4, 1) := by decide +kernel
theorem dJ6_numberOfTrailingZeros_0f7a4_60 : decode cJ6_numberOfTrailingZeros_0f7a4 60 = .ok (.iushr, 1) := by decide +kernel
theorem dJ6_numberOfTrailingZeros_0f7a4_61 : decode cJ6_numberOfTrailingZeros_0f7a4 61 = .ok (.istore_n 0, 1) := by decide +kernel
theorem dJ6_numberOfTrailingZeros_0f7a4_62 : decode cJ6_numberOfTrailingZeros_0f7a4 62 = .ok (.iload_n 0, 1) := by decide +kernel
theorem dJ6_numberOfTrailingZeros_0f7a4_63 : decode cJ6_numberOfTrailingZeros_0f7a4 63 = .ok (.iconst 4, 1) := by decide +kernel
theorem dJ6_numberOfTrailingZeros_0f7a4_64 : decode cJ6_numberOfTrailingZeros_0f7a4 64 = .ok (.if_icmp .le 10, 3) := by decide +kernel
theorem dJ6_numberOfTrailingZeros_0f7a4_67 : decode cJ6_numberOfTrailingZeros_0f7a4 67 = .ok (.iinc 1 2, 3) := by decide +kernel
theorem dJ6_numberOfTrailingZeros_0f7a4_70 : decode cJ6_numberOfTrailingZeros_0f7a4 70 = .ok (.iload_n 0, 1) := by decide +kernel
theorem dJ6_numberOfTrailingZeros_0f7a4_71 : decode cJ6_numberOfTrailingZeros_0f7a4 71 = .ok (.iconst 2, 1) := by decide +kernel
theorem dJ6_numberOfTrailingZeros_0f7a4_72 : decode cJ6_numberOfTrailingZeros_0f7a4 72 = .ok (.iushr, 1) := by decide +kernel
theorem dJ6_numberOfTrailingZeros_0f7a4_73 : decode cJ6_numberOfTrailingZeros_0f7a4 73 = .ok (.istore_n 0, 1) := by decide +kernel
theorem dJ6_numberOfTrailingZeros_0f7a4_74 : decode cJ6_numberOfTrailingZeros_0f7a4 74 = .ok (.iload_n 1, 1) := by decide +kernel
theorem dJ6_numberOfTrailingZeros_0f7a4_75 : decode cJ6_numberOfTrailingZeros_0f7a4 75 = .ok (.iload_n 0, 1) := by decide +kernel
theorem dJ6_numberOfTrailingZeros_0f7a4_76 : decode cJ6_numberOfTrailingZeros_0f7a4 76 = .ok (.iconst 1, 1) := by decide +kernel
theorem dJ6_numberOfTrailingZeros_0f7a4_77 : decode cJ6_numberOfTrailingZeros_0f7a4 77 = .ok (.iushr, 1) := by decide +kernel
theorem dJ6_numberOfTrailingZeros_0f7a4_78 : decode cJ6_numberOfTrailingZeros_0f7a4 78 = .ok (.iadd, 1) := by decide +kernel
theorem dJ6_numberOfTrailingZeros_0f7a4_79 : decode cJ6_numberOfTrailingZeros_0f7a4 79 = .ok (.ireturn, 1) := by decide +kernel
theorem dJ13_numberOfLeadingZeros_95d88_0 : decode cJ13_numberOfLeadingZeros_95d88 0 = .ok (.lload_n 0, 1) := by decide +kernel
theorem dJ13_numberOfLeadingZeros_95d88_1 : decode cJ13_numberOfLeadingZeros_95d88 1 = .ok (.bipush 32, 2) := by decide +kernel
theorem dJ13_numberOfLeadingZeros_95d88_3 : decode cJ13_numberOfLeadingZeros_95d88 3 = .ok (.lushr, 1) := by decide +kernel
theorem dJ13_numberOfLeadingZeros_95d88_4 : decode cJ13_numberOfLeadingZeros_95d88 4 = .ok (.l2i, 1) := by decide +kernel
theorem dJ13_numberOfLeadingZeros_95d88_5 : decode cJ13_numberOfLeadingZeros_95d88 5 = .ok (.istore_n 2, 1) := by decide +kernel
theorem dJ13_numberOfLeadingZeros_95d88_6 : decode cJ13_numberOfLeadingZeros_95d88 6 = .ok (.iload_n 2, 1) := by decide +kernel
theorem dJ13_numberOfLeadingZeros_95d88_7 : decode cJ13_numberOfLeadingZeros_95d88 7 = .ok (.ifCond .ne 14, 3) := by decide +kernel
theorem dJ13_numberOfLeadingZeros_95d88_10 : decode cJ13_numberOfLeadingZeros_95d88 10 = .ok (.bipush 32, 2) := by decide +kernel
theorem dJ13_numberOfLeadingZeros_95d88_12 : decode cJ13_numberOfLeadingZeros_95d88 12 = .ok (.lload_n 0, 1) := by decide +kernel
theorem dJ13_numberOfLeadingZeros_95d88_13 : decode cJ13_numberOfLeadingZeros_95d88 13 = .ok (.l2i, 1) := by decide +kernel
theorem dJ13_numberOfLeadingZeros_95d88_14 : decode cJ13_numberOfLeadingZeros_95d88 14 = .ok (.invokestatic 308, 3) := by decide +kernel
theorem dJ13_numberOfLeadingZeros_95d88_17 : decode cJ13_numberOfLeadingZeros_95d88 17 = .ok (.iadd, 1) := by decide +kernel
theorem dJ13_numberOfLeadingZeros_95d88_18 : decode cJ13_numberOfLeadingZeros_95d88 18 = .ok (.goto 7, 3) := by decide +kernel
theorem dJ13_numberOfLeadingZeros_95d88_21 : decode cJ13_numberOfLeadingZeros_95d88 21 = .ok (.iload_n 2, 1) := by decide +kernel
theorem dJ13_numberOfLeadingZeros_95d88_22 : decode cJ13_numberOfLeadingZeros_95d88 22 = .ok (.invokestatic 308, 3) := by decide +kernel
theorem dJ13_numberOfLeadingZeros_95d88_25 : decode cJ13_numberOfLeadingZeros_95d88 25 = .ok (.ireturn, 1) := by decide +kernel
theorem dJ13_numberOfTrailingZeros_95d88_0 : decode cJ13_numberOfTrailingZeros_95d88 0 = .ok (.lload_n 0, 1) := by decide +kernel
theorem dJ13_numberOfTrailingZeros_95d88_1 : decode cJ13_numberOfTrailingZeros_95d88 1 = .ok (.l2i, 1) := by decide +kernel
theorem dJ13_numberOfTrailingZeros_95d88_2 : decode cJ13_numberOfTrailingZeros_95d88 2 = .ok (.istore_n 2, 1) := by decide +kernel
theorem dJ13_numberOfTrailingZeros_95d88_3 : decode cJ13_numberOfTrailingZeros_95d88 3 = .ok (.iload_n 2, 1) := by decide +kernel
theorem dJ13_numberOfTrailingZeros_95d88_4 : decode cJ13_numberOfTrailingZeros_95d88 4 = .ok (.ifCond .ne 17, 3) := by decide +kernel
theorem dJ13_numberOfTrailingZeros_95d88_7 : decode cJ13_numberOfTrailingZeros_95d88 7 = .ok (.bipush 32, 2) := by decide +kernel
theorem dJ13_numberOfTrailingZeros_95d88_9 : decode cJ13_numberOfTrailingZeros_95d88 9 = .ok (.lload_n 0, 1) := by decide +kernel
theorem dJ13_numberOfTrailingZeros_95d88_10 : decode cJ13_numberOfTrailingZeros_95d88 10 = .ok (.bipush 32, 2) := by decide +kernel
theorem dJ13_numberOfTrailingZeros_95d88_12 : decode cJ13_numberOfTrailingZeros_95d88 12 = .ok (.lushr, 1) := by decide +kernel
theorem dJ13_numberOfTrailingZeros_95d88_13 : decode cJ13_numberOfTrailingZeros_95d88 13 = .ok (.l2i, 1) := by decide +kernel
theorem dJ13_numberOfTrailingZeros_95d88_14 : decode cJ13_numberOfTrailingZeros_95d88 14 = .ok (.invokestatic 311, 3) := by decide +kernel
theorem dJ13_numberOfTrailingZeros_95d88_17 : decode cJ13_numberOfTrailingZeros_95d88 17 = .ok (.iadd, 1) := by decide +kernel
theorem dJ13_numberOfTrailingZeros_95d88_18 : decode cJ13_numberOfTrailingZeros_95d88 18 = .ok (.goto 7, 3) := by decide +kernel
theorem dJ13_numberOfTrailingZeros_95d88_21 : decode cJ13_numberOfTrailingZeros_95d88 21 = .ok (.iload_n 2, 1) := by decide +kernel
theorem dJ13_numberOfTrailingZeros_95d88_22 : decode cJ13_numberOfTrailingZeros_95d88 22 = .ok (.invokestatic 311, 3) := by decide +kernel
theorem dJ13_numberOfTrailingZeros_95d88_25 : decode cJ13_numberOfTrailingZeros_95d88 25 = .ok (.ireturn, 1) := by decide +kernel
theorem dJ9_abs_0f7a4_0 : decode cJ9_abs_0f7a4 0 = .ok (.iload_n 0, 1) := by decide +kernel
theorem dJ9_abs_0f7a4_1 : decode cJ9_abs_0f7a4 1 = .ok (.ifCond .ge 8, 3) := by decide +kernel
theorem dJ9_abs_0f7a4_4 : decode cJ9_abs_0f7a4 4 = .ok (.iload_n 0, 1) := by decide +kernel
theorem dJ9_abs_0f7a4_5 : decode cJ9_abs_0f7a4 5 = .ok (.ineg, 1) := by decide +kernel
theorem dJ9_abs_0f7a4_6 : decode cJ9_abs_0f7a4 6 = .ok (.goto 4, 3) := by decide +kernel
theorem dJ9_abs_0f7a4_9 : decode cJ9_abs_0f7a4 9 = .ok (.iload_n 0, 1) := by decide +kernel
theorem dJ9_abs_0f7a4_10 : decode cJ9_abs_0f7a4 10 = .ok (.ireturn, 1) := by decide +kernel
theorem dJ9_min_7cf53_0 : decode cJ9_min_7cf53 0 = .ok (.iload_n 0, 1) := by decide +kernel
theorem dJ9_min_7cf53_1 : decode cJ9_min_7cf53 1 = .ok (.iload_n 1, 1) := by decide +kernel
theorem dJ9_min_7cf53_2 : decode cJ9_min_7cf53 2 = .ok (.if_icmp .gt 7, 3) := by decide +kernel
theorem dJ9_min_7cf53_5 : decode cJ9_min_7cf53 5 = .ok (.iload_n 0, 1) := by decide +kernel
theorem dJ9_min_7cf53_6 : decode cJ9_min_7cf53 6 = .ok (.goto 4, 3) := by decide +kernel
theorem dJ9_min_7cf53_9 : decode cJ9_min_7cf53 9 = .ok (.iload_n 1, 1) := by decide +kernel
theorem dJ9_min_7cf53_10 : decode cJ9_min_7cf53 10 = .ok (.ireturn, 1) := by decide +kernel
theorem dL_law_0 : decode cL_law 0 = .ok (.new 7, 3) := by decide +kernel
theorem dL_law_3 : decode cL_law 3 = .ok (.dup, 1) := by decide +kernel
theorem dL_law_4 : decode cL_law 4 = .ok (.aload_n 0, 1) := by decide +kernel
theorem dL_law_5 : decode cL_law 5 = .ok (.iconst 0, 1) := by decide +kernel
theorem dL_law_6 : decode cL_law 6 = .ok (.invokestatic 9, 3) := by decide +kernel
theorem dL_law_9 : decode cL_law 9 = .ok (.invokespecial 15, 3) := by decide +kernel
theorem dL_law_12 : decode cL_law 12 = .ok (.astore_n 1, 1) := by decide +kernel
theorem dL_law_13 : decode cL_law 13 = .ok (.new 18, 3) := by decide +kernel
theorem dL_law_16 : decode cL_law 16 = .ok (.dup, 1) := by decide +kernel
theorem dL_law_17 : decode cL_law 17 = .ok (.aload_n 0, 1) := by decide +kernel
theorem dL_law_18 : decode cL_law 18 = .ok (.iconst 0, 1) := by decide +kernel
theorem dL_law_19 : decode cL_law 19 = .ok (.invokestatic 9, 3) := by decide +kernel
theorem dL_law_22 : decode cL_law 22 = .ok (.invokespecial 20, 3) := by decide +kernel
theorem dL_law_25 : decode cL_law 25 = .ok (.astore_n 2, 1) := by decide +kernel
theorem dL_law_26 : decode cL_law 26 = .ok (.iconst 1, 1) := by decide +kernel
theorem dL_law_27 : decode cL_law 27 = .ok (.istore_n 3, 1) := by decide +kernel
theorem dL_law_28 : decode cL_law 28 = .ok (.iload_n 3, 1) := by decide +kernel
theorem dL_law_29 : decode cL_law 29 = .ok (.aload_n 0, 1) := by decide +kernel
theorem dL_law_30 : decode cL_law 30 = .ok (.arraylength, 1) := by decide +kernel
theorem dL_law_31 : decode cL_law 31 = .ok (.iconst 5, 1) := by decide +kernel
theorem dL_law_32 : decode cL_law 32 = .ok (.isub, 1) := by decide +kernel
theorem dL_law_33 : decode cL_law 33 = .ok (.if_icmp .gt 700, 3) := by decide +kernel
theorem dL_law_36 : decode cL_law 36 = .ok (.aload_n 0, 1) := by decide +kernel
theorem dL_law_37 : decode cL_law 37 = .ok (.iload_n 3, 1) := by decide +kernel
theorem dL_law_38 : decode cL_law 38 = .ok (.iaload, 1) := by decide +kernel
theorem dL_law_39 : decode cL_law 39 = .ok (.bipush 31, 2) := by decide +kernel
theorem dL_law_41 : decode cL_law 41 = .ok (.iand, 1) := by decide +kernel
theorem dL_law_42 : decode cL_law 42 = .ok (.tableswitch 685 0 18 #[90, 103, 136, 169, 202, 235, 258, 301, 324, 347, 400, 424, 457, 480, 549, 572, 595, 618, 652], 90) := by decide +kernel
theorem dL_law_132 : decode cL_law 132 = .ok (.aload_n 1, 1) := by decide +kernel
theorem dL_law_133 : decode cL_law 133 = .ok (.invokevirtual 21, 3) := by decide +kernel
theorem dL_law_136 : decode cL_law 136 = .ok (.aload_n 2, 1) := by decide +kernel
theorem dL_law_137 : decode cL_law 137 = .ok (.invokevirtual 25, 3) := by decide +kernel
theorem dL_law_140 : decode cL_law 140 = .ok (.if_icmp .eq 587, 3) := by decide +kernel
theorem dL_law_143 : decode cL_law 143 = .ok (.iconst 0, 1) := by decide +kernel
theorem dL_law_144 : decode cL_law 144 = .ok (.ireturn, 1) := by decide +kernel
theorem dL_law_145 : decode cL_law 145 = .ok (.aload_n 1, 1) := by decide +kernel
theorem dL_law_146 : decode cL_law 146 = .ok (.aload_n 0, 1) := by decide +kernel
theorem dL_law_147 : decode cL_law 147 = .ok (.iload_n 3, 1) := by decide +kernel
theorem dL_law_148 : decode cL_law 148 = .ok (.iconst 1, 1) := by decide +kernel
theorem dL_law_149 : decode cL_law 149 = .ok (.iadd, 1) := by decide +kernel
theorem dL_law_150 : decode cL_law 150 = .ok (.iaload, 1) := by decide +kernel
theorem dL_law_151 : decode cL_law 151 = .ok (.aload_n 0, 1) := by decide +kernel
theorem dL_law_152 : decode cL_law 152 = .ok (.iload_n 3, 1) := by decide +kernel
theorem dL_law_153 : decode cL_law 153 = .ok (.iconst 2, 1) := by decide +kernel
theorem dL_law_154 : decode cL_law 154 = .ok (.iadd, 1) := by decide +kernel
theorem dL_law_155 : decode cL_law 155 = .ok (.iaload, 1) := by decide +kernel
theorem dL_law_156 : decode cL_law 156 = .ok (.invokevirtual 26, 3) := by decide +kernel
theorem dL_law_159 : decode cL_law 159 = .ok (.aload_n 2, 1) := by decide +kernel
theorem dL_law_160 : decode cL_law 160 = .ok (.aload_n 0, 1) := by decide +kernel
theorem dL_law_161 : decode cL_law 161 = .ok (.iload_n 3, 1) := by decide +kernel
theorem dL_law_162 : decode cL_law 162 = .ok (.iconst 1, 1) := by decide +kernel
theorem dL_law_163 : decode cL_law 163 = .ok (.iadd, 1) := by decide +kernel
theorem dL_law_164 : decode cL_law 164 = .ok (.iaload, 1) := by decide +kernel
theorem dL_law_165 : decode cL_law 165 = .ok (.aload_n 0, 1) := by decide +kernel
theorem dL_law_166 : decode cL_law 166 = .ok (.iload_n 3, 1) := by decide +kernel
theorem dL_law_167 : decode cL_law 167 = .ok (.iconst 2, 1) := by decide +kernel
theorem dL_law_168 : decode cL_law 168 = .ok (.iadd, 1) := by decide +kernel
theorem dL_law_169 : decode cL_law 169 = .ok (.iaload, 1) := by decide +kernel
theorem dL_law_170 : decode cL_law 170 = .ok (.invokevirtual 30, 3) := by decide +kernel
theorem dL_law_173 : decode cL_law 173 = .ok (.if_icmp .eq 554, 3) := by decide +kernel
theorem dL_law_176 : decode cL_law 176 = .ok (.iconst 0, 1) := by decide +kernel
theorem dL_law_177 : decode cL_law 177 = .ok (.ireturn, 1) := by decide +kernel
theorem dL_law_178 : decode cL_law 178 = .ok (.aload_n 1, 1) := by decide +kernel
theorem dL_law_179 : decode cL_law 179 = .ok (.aload_n 0, 1) := by decide +kernel
theorem dL_law_180 : decode cL_law 180 = .ok (.iload_n 3, 1) := by decide +kernel
theorem dL_law_181 : decode cL_law 181 = .ok (.iconst 1, 1) := by decide +kernel
theorem dL_law_182 : decode cL_law 182 = .ok (.iadd, 1) := by decide +kernel
theorem dL_law_183 : decode cL_law 183 = .ok (.iaload, 1) := by decide +kernel
theorem dL_law_184 : decode cL_law 184 = .ok (.aload_n 0, 1) := by decide +kernel
theorem dL_law_185 : decode cL_law 185 = .ok (.iload_n 3, 1) := by decide +kernel
theorem dL_law_186 : decode cL_law 186 = .ok (.iconst 2, 1) := by decide +kernel
theorem dL_law_187 : decode cL_law 187 = .ok (.iadd, 1) := by decide +kernel
theorem dL_law_188 : decode cL_law 188 = .ok (.iaload, 1) := by decide +kernel
theorem dL_law_189 : decode cL_law 189 = .ok (.invokevirtual 31, 3) := by decide +kernel
theorem dL_law_192 : decode cL_law 192 = .ok (.aload_n 2, 1) := by decide +kernel
theorem dL_law_193 : decode cL_law 193 = .ok (.aload_n 0, 1) := by decide +kernel
theorem dL_law_194 : decode cL_law 194 = .ok (.iload_n 3, 1) := by decide +kernel
theorem dL_law_195 : decode cL_law 195 = .ok (.iconst 1, 1) := by decide +kernel
theorem dL_law_196 : decode cL_law 196 = .ok (.iadd, 1) := by decide +kernel
theorem dL_law_197 : decode cL_law 197 = .ok (.iaload, 1) := by decide +kernel
theorem dL_law_198 : decode cL_law 198 = .ok (.aload_n 0, 1) := by decide +kernel
theorem dL_law_199 : decode cL_law 199 = .ok (.iload_n 3, 1) := by decide +kernel
theorem dL_law_200 : decode cL_law 200 = .ok (.iconst 2, 1) := by decide +kernel
theorem dL_law_201 : decode cL_law 201 = .ok (.iadd, 1) := by decide +kernel
theorem dL_law_202 : decode cL_law 202 = .ok (.iaload, 1) := by decide +kernel
theorem dL_law_203 : decode cL_law 203 = .ok (.invokevirtual 34, 3) := by decide +kernel
theorem dL_law_206 : decode cL_law 206 = .ok (.if_icmp .eq 521, 3) := by decide +kernel
theorem dL_law_209 : decode cL_law 209 = .ok (.iconst 0, 1) := by decide +kernel
theorem dL_law_210 : decode cL_law 210 = .ok (.ireturn, 1) := by decide +kernel
theorem dL_law_211 : decode cL_law 211 = .ok (.aload_n 1, 1) := by decide +kernel
theorem dL_law_212 : decode cL_law 212 = .ok (.aload_n 0, 1) := by decide +kernel
theorem dL_law_213 : decode cL_law 213 = .ok (.iload_n 3, 1) := by decide +kernel
theorem dL_law_214 : decode cL_law 214 = .ok (.iconst 1, 1) := by decide +kernel
theorem dL_law_215 : decode cL_law 215 = .ok (.iadd, 1) := by decide +kernel
theorem dL_law_216 : decode cL_law 216 = .ok (.iaload, 1) := by decide +kernel
theorem dL_law_217 : decode cL_law 217 = .ok (.aload_n 0, 1) := by decide +kernel
theorem dL_law_218 : decode cL_law 218 = .ok (.iload_n 3, 1) := by decide +kernel
theorem dL_law_219 : decode cL_law 219 = .ok (.iconst 2, 1) := by decide +kernel
theorem dL_law_220 : decode cL_law 220 = .ok (.iadd, 1) := by decide +kernel
theorem dL_law_221 : decode cL_law 221 = .ok (.iaload, 1) := by decide +kernel
theorem dL_law_222 : decode cL_law 222 = .ok (.invokevirtual 35, 3) := by decide +kernel
theorem dL_law_225 : decode cL_law 225 = .ok (.aload_n 2, 1) := by decide +kernel
theorem dL_law_226 : decode cL_law 226 = .ok (.aload_n 0, 1) := by decide +kernel
theorem dL_law_227 : decode cL_law 227 = .ok (.iload_n 3, 1) := by decide +kernel
theorem dL_law_228 : decode cL_law 228 = .ok (.iconst 1, 1) := by decide +kernel
theorem dL_law_229 : decode cL_law 229 = .ok (.iadd, 1) := by decide +kernel
theorem dL_law_230 : decode cL_law 230 = .ok (.iaload, 1) := by decide +kernel
theorem dL_law_231 : decode cL_law 231 = .ok (.aload_n 0, 1) := by decide +kernel
theorem dL_law_232 : decode cL_law 232 = .ok (.iload_n 3, 1) := by decide +kernel
theorem dL_law_233 : decode cL_law 233 = .ok (.iconst 2, 1) := by decide +kernel
theorem dL_law_234 : decode cL_law 234 = .ok (.iadd, 1) := by decide +kernel
theorem dL_law_235 : decode cL_law 235 = .ok (.iaload, 1) := by decide +kernel
theorem dL_law_236 : decode cL_law 236 = .ok (.invokevirtual 38, 3) := by decide +kernel
theorem dL_law_239 : decode cL_law 239 = .ok (.if_icmp .eq 488, 3) := by decide +kernel
theorem dL_law_242 : decode cL_law 242 = .ok (.iconst 0, 1) := by decide +kernel
theorem dL_law_243 : decode cL_law 243 = .ok (.ireturn, 1) := by decide +kernel
theorem dL_law_244 : decode cL_law 244 = .ok (.aload_n 1, 1) := by decide +kernel
theorem dL_law_245 : decode cL_law 245 = .ok (.aload_n 0, 1) := by decide +kernel
theorem dL_law_246 : decode cL_law 246 = .ok (.iload_n 3, 1) := by decide +kernel
theorem dL_law_247 : decode cL_law 247 = .ok (.iconst 1, 1) := by decide +kernel
theorem dL_law_248 : decode cL_law 248 = .ok (.iadd, 1) := by decide +kernel
theorem dL_law_249 : decode cL_law 249 = .ok (.iaload, 1) := by decide +kernel
theorem dL_law_250 : decode cL_law 250 = .ok (.aload_n 0, 1) := by decide +kernel
theorem dL_law_251 : decode cL_law 251 = .ok (.iload_n 3, 1) := by decide +kernel
theorem dL_law_252 : decode cL_law 252 = .ok (.iconst 2, 1) := by decide +kernel
theorem dL_law_253 : decode cL_law 253 = .ok (.iadd, 1) := by decide +kernel
theorem dL_law_254 : decode cL_law 254 = .ok (.iaload, 1) := by decide +kernel
theorem dL_law_255 : decode cL_law 255 = .ok (.invokevirtual 39, 3) := by decide +kernel
theorem dL_law_258 : decode cL_law 258 = .ok (.aload_n 2, 1) := by decide +kernel
theorem dL_law_259 : decode cL_law 259 = .ok (.aload_n 0, 1) := by decide +kernel
theorem dL_law_260 : decode cL_law 260 = .ok (.iload_n 3, 1) := by decide +kernel
theorem dL_law_261 : decode cL_law 261 = .ok (.iconst 1, 1) := by decide +kernel
theorem dL_law_262 : decode cL_law 262 = .ok (.iadd, 1) := by decide +kernel
theorem dL_law_263 : decode cL_law 263 = .ok (.iaload, 1) := by decide +kernel
theorem dL_law_264 : decode cL_law 264 = .ok (.aload_n 0, 1) := by decide +kernel
theorem dL_law_265 : decode cL_law 265 = .ok (.iload_n 3, 1) := by decide +kernel
theorem dL_law_266 : decode cL_law 266 = .ok (.iconst 2, 1) := by decide +kernel
theorem dL_law_267 : decode cL_law 267 = .ok (.iadd, 1) := by decide +kernel
theorem dL_law_268 : decode cL_law 268 = .ok (.iaload, 1) := by decide +kernel
theorem dL_law_269 : decode cL_law 269 = .ok (.invokevirtual 42, 3) := by decide +kernel
theorem dL_law_272 : decode cL_law 272 = .ok (.if_icmp .eq 455, 3) := by decide +kernel
theorem dL_law_275 : decode cL_law 275 = .ok (.iconst 0, 1) := by decide +kernel
theorem dL_law_276 : decode cL_law 276 = .ok (.ireturn, 1) := by decide +kernel
theorem dL_law_277 : decode cL_law 277 = .ok (.aload_n 1, 1) := by decide +kernel
theorem dL_law_278 : decode cL_law 278 = .ok (.aload_n 0, 1) := by decide +kernel
theorem dL_law_279 : decode cL_law 279 = .ok (.iload_n 3, 1) := by decide +kernel
theorem dL_law_280 : decode cL_law 280 = .ok (.iconst 1, 1) := by decide +kernel
theorem dL_law_281 : decode cL_law 281 = .ok (.iadd, 1) := by decide +kernel
theorem dL_law_282 : decode cL_law 282 = .ok (.iaload, 1) := by decide +kernel
theorem dL_law_283 : decode cL_law 283 = .ok (.invokevirtual 43, 3) := by decide +kernel
theorem dL_law_286 : decode cL_law 286 = .ok (.aload_n 2, 1) := by decide +kernel
theorem dL_law_287 : decode cL_law 287 = .ok (.aload_n 0, 1) := by decide +kernel
theorem dL_law_288 : decode cL_law 288 = .ok (.iload_n 3, 1) := by decide +kernel
theorem dL_law_289 : decode cL_law 289 = .ok (.iconst 1, 1) := by decide +kernel
theorem dL_law_290 : decode cL_law 290 = .ok (.iadd, 1) := by decide +kernel
theorem dL_law_291 : decode cL_law 291 = .ok (.iaload, 1) := by decide +kernel
theorem dL_law_292 : decode cL_law 292 = .ok (.invokevirtual 47, 3) := by decide +kernel
theorem dL_law_295 : decode cL_law 295 = .ok (.if_icmp .eq 432, 3) := by decide +kernel
theorem dL_law_298 : decode cL_law 298 = .ok (.iconst 0, 1) := by decide +kernel
theorem dL_law_299 : decode cL_law 299 = .ok (.ireturn, 1) := by decide +kernel
theorem dL_law_300 : decode cL_law 300 = .ok (.aload_n 1, 1) := by decide +kernel
theorem dL_law_301 : decode cL_law 301 = .ok (.aload_n 0, 1) := by decide +kernel
theorem dL_law_302 : decode cL_law 302 = .ok (.iload_n 3, 1) := by decide +kernel
theorem dL_law_303 : decode cL_law 303 = .ok (.iconst 1, 1) := by decide +kernel
theorem dL_law_304 : decode cL_law 304 = .ok (.iadd, 1) := by decide +kernel
theorem dL_law_305 : decode cL_law 305 = .ok (.iaload, 1) := by decide +kernel
theorem dL_law_306 : decode cL_law 306 = .ok (.aload_n 0, 1) := by decide +kernel
theorem dL_law_307 : decode cL_law 307 = .ok (.iload_n 3, 1) := by decide +kernel
theorem dL_law_308 : decode cL_law 308 = .ok (.iconst 2, 1) := by decide +kernel
theorem dL_law_309 : decode cL_law 309 = .ok (.iadd, 1) := by decide +kernel
theorem dL_law_310 : decode cL_law 310 = .ok (.iaload, 1) := by decide +kernel
theorem dL_law_311 : decode cL_law 311 = .ok (.aload_n 0, 1) := by decide +kernel
theorem dL_law_312 : decode cL_law 312 = .ok (.iload_n 3, 1) := by decide +kernel
theorem dL_law_313 : decode cL_law 313 = .ok (.iconst 3, 1) := by decide +kernel
theorem dL_law_314 : decode cL_law 314 = .ok (.iadd, 1) := by decide +kernel
theorem dL_law_315 : decode cL_law 315 = .ok (.iaload, 1) := by decide +kernel
theorem dL_law_316 : decode cL_law 316 = .ok (.invokevirtual 48, 3) := by decide +kernel
theorem dL_law_319 : decode cL_law 319 = .ok (.aload_n 2, 1) := by decide +kernel
theorem dL_law_320 : decode cL_law 320 = .ok (.aload_n 0, 1) := by decide +kernel
theorem dL_law_321 : decode cL_law 321 = .ok (.iload_n 3, 1) := by decide +kernel
theorem dL_law_322 : decode cL_law 322 = .ok (.iconst 1, 1) := by decide +kernel
theorem dL_law_323 : decode cL_law 323 = .ok (.iadd, 1) := by decide +kernel
theorem dL_law_324 : decode cL_law 324 = .ok (.iaload, 1) := by decide +kernel
theorem dL_law_325 : decode cL_law 325 = .ok (.aload_n 0, 1) := by decide +kernel
theorem dL_law_326 : decode cL_law 326 = .ok (.iload_n 3, 1) := by decide +kernel
theorem dL_law_327 : decode cL_law 327 = .ok (.iconst 2, 1) := by decide +kernel
theorem dL_law_328 : decode cL_law 328 = .ok (.iadd, 1) := by decide +kernel
theorem dL_law_329 : decode cL_law 329 = .ok (.iaload, 1) := by decide +kernel
theorem dL_law_330 : decode cL_law 330 = .ok (.aload_n 0, 1) := by decide +kernel
theorem dL_law_331 : decode cL_law 331 = .ok (.iload_n 3, 1) := by decide +kernel
theorem dL_law_332 : decode cL_law 332 = .ok (.iconst 3, 1) := by decide +kernel
theorem dL_law_333 : decode cL_law 333 = .ok (.iadd, 1) := by decide +kernel
theorem dL_law_334 : decode cL_law 334 = .ok (.iaload, 1) := by decide +kernel
theorem dL_law_335 : decode cL_law 335 = .ok (.invokevirtual 52, 3) := by decide +kernel
theorem dL_law_338 : decode cL_law 338 = .ok (.if_icmp .eq 389, 3) := by decide +kernel
theorem dL_law_341 : decode cL_law 341 = .ok (.iconst 0, 1) := by decide +kernel
theorem dL_law_342 : decode cL_law 342 = .ok (.ireturn, 1) := by decide +kernel
theorem dL_law_343 : decode cL_law 343 = .ok (.aload_n 1, 1) := by decide +kernel
theorem dL_law_344 : decode cL_law 344 = .ok (.aload_n 0, 1) := by decide +kernel
theorem dL_law_345 : decode cL_law 345 = .ok (.iload_n 3, 1) := by decide +kernel
theorem dL_law_346 : decode cL_law 346 = .ok (.iconst 1, 1) := by decide +kernel
theorem dL_law_347 : decode cL_law 347 = .ok (.iadd, 1) := by decide +kernel
theorem dL_law_348 : decode cL_law 348 = .ok (.iaload, 1) := by decide +kernel
theorem dL_law_349 : decode cL_law 349 = .ok (.invokevirtual 53, 3) := by decide +kernel
theorem dL_law_352 : decode cL_law 352 = .ok (.aload_n 2, 1) := by decide +kernel
theorem dL_law_353 : decode cL_law 353 = .ok (.aload_n 0, 1) := by decide +kernel
theorem dL_law_354 : decode cL_law 354 = .ok (.iload_n 3, 1) := by decide +kernel
theorem dL_law_355 : decode cL_law 355 = .ok (.iconst 1, 1) := by decide +kernel
theorem dL_law_356 : decode cL_law 356 = .ok (.iadd, 1) := by decide +kernel
theorem dL_law_357 : decode cL_law 357 = .ok (.iaload, 1) := by decide +kernel
theorem dL_law_358 : decode cL_law 358 = .ok (.invokevirtual 56, 3) := by decide +kernel
theorem dL_law_361 : decode cL_law 361 = .ok (.if_icmp .eq 366, 3) := by decide +kernel
theorem dL_law_364 : decode cL_law 364 = .ok (.iconst 0, 1) := by decide +kernel
theorem dL_law_365 : decode cL_law 365 = .ok (.ireturn, 1) := by decide +kernel
theorem dL_law_366 : decode cL_law 366 = .ok (.aload_n 1, 1) := by decide +kernel
theorem dL_law_367 : decode cL_law 367 = .ok (.aload_n 0, 1) := by decide +kernel
theorem dL_law_368 : decode cL_law 368 = .ok (.iload_n 3, 1) := by decide +kernel
theorem dL_law_369 : decode cL_law 369 = .ok (.iconst 1, 1) := by decide +kernel
theorem dL_law_370 : decode cL_law 370 = .ok (.iadd, 1) := by decide +kernel
theorem dL_law_371 : decode cL_law 371 = .ok (.iaload, 1) := by decide +kernel
theorem dL_law_372 : decode cL_law 372 = .ok (.invokevirtual 57, 3) := by decide +kernel
theorem dL_law_375 : decode cL_law 375 = .ok (.aload_n 2, 1) := by decide +kernel
theorem dL_law_376 : decode cL_law 376 = .ok (.aload_n 0, 1) := by decide +kernel
theorem dL_law_377 : decode cL_law 377 = .ok (.iload_n 3, 1) := by decide +kernel
theorem dL_law_378 : decode cL_law 378 = .ok (.iconst 1, 1) := by decide +kernel
theorem dL_law_379 : decode cL_law 379 = .ok (.iadd, 1) := by decide +kernel
theorem dL_law_380 : decode cL_law 380 = .ok (.iaload, 1) := by decide +kernel
theorem dL_law_381 : decode cL_law 381 = .ok (.invokevirtual 60, 3) := by decide +kernel
theorem dL_law_384 : decode cL_law 384 = .ok (.if_icmp .eq 343, 3) := by decide +kernel
theorem dL_law_387 : decode cL_law 387 = .ok (.iconst 0, 1) := by decide +kernel
theorem dL_law_388 : decode cL_law 388 = .ok (.ireturn, 1) := by decide +kernel
theorem dL_law_389 : decode cL_law 389 = .ok (.aload_n 1, 1) := by decide +kernel
theorem dL_law_390 : decode cL_law 390 = .ok (.aload_n 0, 1) := by decide +kernel
theorem dL_law_391 : decode cL_law 391 = .ok (.iload_n 3, 1) := by decide +kernel
theorem dL_law_392 : decode cL_law 392 = .ok (.iconst 1, 1) := by decide +kernel
theorem dL_law_393 : decode cL_law 393 = .ok (.iadd, 1) := by decide +kernel
theorem dL_law_394 : decode cL_law 394 = .ok (.iaload, 1) := by decide +kernel
theorem dL_law_395 : decode cL_law 395 = .ok (.i2l, 1) := by decide +kernel
theorem dL_law_396 : decode cL_law 396 = .ok (.bipush 32, 2) := by decide +kernel
theorem dL_law_398 : decode cL_law 398 = .ok (.lshl, 1) := by decide +kernel
theorem dL_law_399 : decode cL_law 399 = .ok (.aload_n 0, 1) := by decide +kernel
theorem dL_law_400 : decode cL_law 400 = .ok (.iload_n 3, 1) := by decide +kernel
theorem dL_law_401 : decode cL_law 401 = .ok (.iconst 2, 1) := by decide +kernel
theorem dL_law_402 : decode cL_law 402 = .ok (.iadd, 1) := by decide +kernel
theorem dL_law_403 : decode cL_law 403 = .ok (.iaload, 1) := by decide +kernel
theorem dL_law_404 : decode cL_law 404 = .ok (.i2l, 1) := by decide +kernel
theorem dL_law_405 : decode cL_law 405 = .ok (.ldc2_w 61, 3) := by decide +kernel
theorem dL_law_408 : decode cL_law 408 = .ok (.land, 1) := by decide +kernel
theorem dL_law_409 : decode cL_law 409 = .ok (.lor, 1) := by decide +kernel
theorem dL_law_410 : decode cL_law 410 = .ok (.invokevirtual 63, 3) := by decide +kernel
theorem dL_law_413 : decode cL_law 413 = .ok (.aload_n 2, 1) := by decide +kernel
theorem dL_law_414 : decode cL_law 414 = .ok (.aload_n 0, 1) := by decide +kernel
theorem dL_law_415 : decode cL_law 415 = .ok (.iload_n 3, 1) := by decide +kernel
theorem dL_law_416 : decode cL_law 416 = .ok (.iconst 1, 1) := by decide +kernel
theorem dL_law_417 : decode cL_law 417 = .ok (.iadd, 1) := by decide +kernel
theorem dL_law_418 : decode cL_law 418 = .ok (.iaload, 1) := by decide +kernel
theorem dL_law_419 : decode cL_law 419 = .ok (.i2l, 1) := by decide +kernel
theorem dL_law_420 : decode cL_law 420 = .ok (.bipush 32, 2) := by decide +kernel
theorem dL_law_422 : decode cL_law 422 = .ok (.lshl, 1) := by decide +kernel
theorem dL_law_423 : decode cL_law 423 = .ok (.aload_n 0, 1) := by decide +kernel
theorem dL_law_424 : decode cL_law 424 = .ok (.iload_n 3, 1) := by decide +kernel
theorem dL_law_425 : decode cL_law 425 = .ok (.iconst 2, 1) := by decide +kernel
theorem dL_law_426 : decode cL_law 426 = .ok (.iadd, 1) := by decide +kernel
theorem dL_law_427 : decode cL_law 427 = .ok (.iaload, 1) := by decide +kernel
theorem dL_law_428 : decode cL_law 428 = .ok (.i2l, 1) := by decide +kernel
theorem dL_law_429 : decode cL_law 429 = .ok (.ldc2_w 61, 3) := by decide +kernel
theorem dL_law_432 : decode cL_law 432 = .ok (.land, 1) := by decide +kernel
theorem dL_law_433 : decode cL_law 433 = .ok (.lor, 1) := by decide +kernel
theorem dL_law_434 : decode cL_law 434 = .ok (.invokevirtual 67, 3) := by decide +kernel
theorem dL_law_437 : decode cL_law 437 = .ok (.if_icmp .eq 290, 3) := by decide +kernel
theorem dL_law_440 : decode cL_law 440 = .ok (.iconst 0, 1) := by decide +kernel
theorem dL_law_441 : decode cL_law 441 = .ok (.ireturn, 1) := by decide +kernel
theorem dL_law_442 : decode cL_law 442 = .ok (.aload_n 1, 1) := by decide +kernel
theorem dL_law_443 : decode cL_law 443 = .ok (.aload_n 0, 1) := by decide +kernel
theorem dL_law_444 : decode cL_law 444 = .ok (.iload_n 3, 1) := by decide +kernel
theorem dL_law_445 : decode cL_law 445 = .ok (.iconst 1, 1) := by decide +kernel
theorem dL_law_446 : decode cL_law 446 = .ok (.iadd, 1) := by decide +kernel
theorem dL_law_447 : decode cL_law 447 = .ok (.iaload, 1) := by decide +kernel
theorem dL_law_448 : decode cL_law 448 = .ok (.invokevirtual 68, 3) := by decide +kernel
theorem dL_law_451 : decode cL_law 451 = .ok (.aload_n 2, 1) := by decide +kernel
theorem dL_law_452 : decode cL_law 452 = .ok (.aload_n 0, 1) := by decide +kernel
theorem dL_law_453 : decode cL_law 453 = .ok (.iload_n 3, 1) := by decide +kernel
theorem dL_law_454 : decode cL_law 454 = .ok (.iconst 1, 1) := by decide +kernel
theorem dL_law_455 : decode cL_law 455 = .ok (.iadd, 1) := by decide +kernel
theorem dL_law_456 : decode cL_law 456 = .ok (.iaload, 1) := by decide +kernel
theorem dL_law_457 : decode cL_law 457 = .ok (.invokevirtual 72, 3) := by decide +kernel
theorem dL_law_460 : decode cL_law 460 = .ok (.lcmp, 1) := by decide +kernel
theorem dL_law_461 : decode cL_law 461 = .ok (.ifCond .eq 266, 3) := by decide +kernel
theorem dL_law_464 : decode cL_law 464 = .ok (.iconst 0, 1) := by decide +kernel
theorem dL_law_465 : decode cL_law 465 = .ok (.ireturn, 1) := by decide +kernel
theorem dL_law_466 : decode cL_law 466 = .ok (.aload_n 1, 1) := by decide +kernel
theorem dL_law_467 : decode cL_law 467 = .ok (.aload_n 0, 1) := by decide +kernel
theorem dL_law_468 : decode cL_law 468 = .ok (.iload_n 3, 1) := by decide +kernel
theorem dL_law_469 : decode cL_law 469 = .ok (.iconst 1, 1) := by decide +kernel
theorem dL_law_470 : decode cL_law 470 = .ok (.iadd, 1) := by decide +kernel
theorem dL_law_471 : decode cL_law 471 = .ok (.iaload, 1) := by decide +kernel
theorem dL_law_472 : decode cL_law 472 = .ok (.aload_n 0, 1) := by decide +kernel
theorem dL_law_473 : decode cL_law 473 = .ok (.iload_n 3, 1) := by decide +kernel
theorem dL_law_474 : decode cL_law 474 = .ok (.iconst 2, 1) := by decide +kernel
theorem dL_law_475 : decode cL_law 475 = .ok (.iadd, 1) := by decide +kernel
theorem dL_law_476 : decode cL_law 476 = .ok (.iaload, 1) := by decide +kernel
theorem dL_law_477 : decode cL_law 477 = .ok (.invokevirtual 73, 3) := by decide +kernel
theorem dL_law_480 : decode cL_law 480 = .ok (.aload_n 2, 1) := by decide +kernel
theorem dL_law_481 : decode cL_law 481 = .ok (.aload_n 0, 1) := by decide +kernel
theorem dL_law_482 : decode cL_law 482 = .ok (.iload_n 3, 1) := by decide +kernel
theorem dL_law_483 : decode cL_law 483 = .ok (.iconst 1, 1) := by decide +kernel
theorem dL_law_484 : decode cL_law 484 = .ok (.iadd, 1) := by decide +kernel
theorem dL_law_485 : decode cL_law 485 = .ok (.iaload, 1) := by decide +kernel
theorem dL_law_486 : decode cL_law 486 = .ok (.aload_n 0, 1) := by decide +kernel
theorem dL_law_487 : decode cL_law 487 = .ok (.iload_n 3, 1) := by decide +kernel
theorem dL_law_488 : decode cL_law 488 = .ok (.iconst 2, 1) := by decide +kernel
theorem dL_law_489 : decode cL_law 489 = .ok (.iadd, 1) := by decide +kernel
theorem dL_law_490 : decode cL_law 490 = .ok (.iaload, 1) := by decide +kernel
theorem dL_law_491 : decode cL_law 491 = .ok (.invokevirtual 76, 3) := by decide +kernel
theorem dL_law_494 : decode cL_law 494 = .ok (.if_icmp .eq 233, 3) := by decide +kernel
theorem dL_law_497 : decode cL_law 497 = .ok (.iconst 0, 1) := by decide +kernel
theorem dL_law_498 : decode cL_law 498 = .ok (.ireturn, 1) := by decide +kernel
theorem dL_law_499 : decode cL_law 499 = .ok (.aload_n 1, 1) := by decide +kernel
theorem dL_law_500 : decode cL_law 500 = .ok (.aload_n 0, 1) := by decide +kernel
theorem dL_law_501 : decode cL_law 501 = .ok (.iload_n 3, 1) := by decide +kernel
theorem dL_law_502 : decode cL_law 502 = .ok (.iconst 1, 1) := by decide +kernel
theorem dL_law_503 : decode cL_law 503 = .ok (.iadd, 1) := by decide +kernel
theorem dL_law_504 : decode cL_law 504 = .ok (.iaload, 1) := by decide +kernel
theorem dL_law_505 : decode cL_law 505 = .ok (.invokevirtual 77, 3) := by decide +kernel
theorem dL_law_508 : decode cL_law 508 = .ok (.aload_n 2, 1) := by decide +kernel
theorem dL_law_509 : decode cL_law 509 = .ok (.aload_n 0, 1) := by decide +kernel
theorem dL_law_510 : decode cL_law 510 = .ok (.iload_n 3, 1) := by decide +kernel
theorem dL_law_511 : decode cL_law 511 = .ok (.iconst 1, 1) := by decide +kernel
theorem dL_law_512 : decode cL_law 512 = .ok (.iadd, 1) := by decide +kernel
theorem dL_law_513 : decode cL_law 513 = .ok (.iaload, 1) := by decide +kernel
theorem dL_law_514 : decode cL_law 514 = .ok (.invokevirtual 81, 3) := by decide +kernel
theorem dL_law_517 : decode cL_law 517 = .ok (.if_icmp .eq 210, 3) := by decide +kernel
theorem dL_law_520 : decode cL_law 520 = .ok (.iconst 0, 1) := by decide +kernel
theorem dL_law_521 : decode cL_law 521 = .ok (.ireturn, 1) := by decide +kernel
theorem dL_law_522 : decode cL_law 522 = .ok (.aload_n 1, 1) := by decide +kernel
theorem dL_law_523 : decode cL_law 523 = .ok (.aload_n 0, 1) := by decide +kernel
theorem dL_law_524 : decode cL_law 524 = .ok (.iload_n 3, 1) := by decide +kernel
theorem dL_law_525 : decode cL_law 525 = .ok (.iconst 1, 1) := by decide +kernel
theorem dL_law_526 : decode cL_law 526 = .ok (.iadd, 1) := by decide +kernel
theorem dL_law_527 : decode cL_law 527 = .ok (.iaload, 1) := by decide +kernel
theorem dL_law_528 : decode cL_law 528 = .ok (.aload_n 0, 1) := by decide +kernel
theorem dL_law_529 : decode cL_law 529 = .ok (.iload_n 3, 1) := by decide +kernel
theorem dL_law_530 : decode cL_law 530 = .ok (.iconst 2, 1) := by decide +kernel
theorem dL_law_531 : decode cL_law 531 = .ok (.iadd, 1) := by decide +kernel
theorem dL_law_532 : decode cL_law 532 = .ok (.iaload, 1) := by decide +kernel
theorem dL_law_533 : decode cL_law 533 = .ok (.aload_n 0, 1) := by decide +kernel
theorem dL_law_534 : decode cL_law 534 = .ok (.iload_n 3, 1) := by decide +kernel
theorem dL_law_535 : decode cL_law 535 = .ok (.iconst 3, 1) := by decide +kernel
theorem dL_law_536 : decode cL_law 536 = .ok (.iadd, 1) := by decide +kernel
theorem dL_law_537 : decode cL_law 537 = .ok (.iaload, 1) := by decide +kernel
theorem dL_law_538 : decode cL_law 538 = .ok (.aload_n 0, 1) := by decide +kernel
theorem dL_law_539 : decode cL_law 539 = .ok (.iload_n 3, 1) := by decide +kernel
theorem dL_law_540 : decode cL_law 540 = .ok (.iconst 4, 1) := by decide +kernel
theorem dL_law_541 : decode cL_law 541 = .ok (.iadd, 1) := by decide +kernel
theorem dL_law_542 : decode cL_law 542 = .ok (.iaload, 1) := by decide +kernel
theorem dL_law_543 : decode cL_law 543 = .ok (.ifCond .eq 7, 3) := by decide +kernel
theorem dL_law_546 : decode cL_law 546 = .ok (.iconst 1, 1) := by decide +kernel
theorem dL_law_547 : decode cL_law 547 = .ok (.goto 4, 3) := by decide +kernel
theorem dL_law_550 : decode cL_law 550 = .ok (.iconst 0, 1) := by decide +kernel
theorem dL_law_551 : decode cL_law 551 = .ok (.invokevirtual 82, 3) := by decide +kernel
theorem dL_law_554 : decode cL_law 554 = .ok (.aload_n 2, 1) := by decide +kernel
theorem dL_law_555 : decode cL_law 555 = .ok (.aload_n 0, 1) := by decide +kernel
theorem dL_law_556 : decode cL_law 556 = .ok (.iload_n 3, 1) := by decide +kernel
theorem dL_law_557 : decode cL_law 557 = .ok (.iconst 1, 1) := by decide +kernel
theorem dL_law_558 : decode cL_law 558 = .ok (.iadd, 1) := by decide +kernel
theorem dL_law_559 : decode cL_law 559 = .ok (.iaload, 1) := by decide +kernel
theorem dL_law_560 : decode cL_law 560 = .ok (.aload_n 0, 1) := by decide +kernel
theorem dL_law_561 : decode cL_law 561 = .ok (.iload_n 3, 1) := by decide +kernel
theorem dL_law_562 : decode cL_law 562 = .ok (.iconst 2, 1) := by decide +kernel
theorem dL_law_563 : decode cL_law 563 = .ok (.iadd, 1) := by decide +kernel
theorem dL_law_564 : decode cL_law 564 = .ok (.iaload, 1) := by decide +kernel
theorem dL_law_565 : decode cL_law 565 = .ok (.aload_n 0, 1) := by decide +kernel
theorem dL_law_566 : decode cL_law 566 = .ok (.iload_n 3, 1) := by decide +kernel
theorem dL_law_567 : decode cL_law 567 = .ok (.iconst 3, 1) := by decide +kernel
theorem dL_law_568 : decode cL_law 568 = .ok (.iadd, 1) := by decide +kernel
theorem dL_law_569 : decode cL_law 569 = .ok (.iaload, 1) := by decide +kernel
theorem dL_law_570 : decode cL_law 570 = .ok (.aload_n 0, 1) := by decide +kernel
theorem dL_law_571 : decode cL_law 571 = .ok (.iload_n 3, 1) := by decide +kernel
theorem dL_law_572 : decode cL_law 572 = .ok (.iconst 4, 1) := by decide +kernel
theorem dL_law_573 : decode cL_law 573 = .ok (.iadd, 1) := by decide +kernel
theorem dL_law_574 : decode cL_law 574 = .ok (.iaload, 1) := by decide +kernel
theorem dL_law_575 : decode cL_law 575 = .ok (.ifCond .eq 7, 3) := by decide +kernel
theorem dL_law_578 : decode cL_law 578 = .ok (.iconst 1, 1) := by decide +kernel
theorem dL_law_579 : decode cL_law 579 = .ok (.goto 4, 3) := by decide +kernel
theorem dL_law_582 : decode cL_law 582 = .ok (.iconst 0, 1) := by decide +kernel
theorem dL_law_583 : decode cL_law 583 = .ok (.invokevirtual 86, 3) := by decide +kernel
theorem dL_law_586 : decode cL_law 586 = .ok (.if_icmp .eq 141, 3) := by decide +kernel
theorem dL_law_589 : decode cL_law 589 = .ok (.iconst 0, 1) := by decide +kernel
theorem dL_law_590 : decode cL_law 590 = .ok (.ireturn, 1) := by decide +kernel
theorem dL_law_591 : decode cL_law 591 = .ok (.aload_n 1, 1) := by decide +kernel
theorem dL_law_592 : decode cL_law 592 = .ok (.aload_n 0, 1) := by decide +kernel
theorem dL_law_593 : decode cL_law 593 = .ok (.iload_n 3, 1) := by decide +kernel
theorem dL_law_594 : decode cL_law 594 = .ok (.iconst 1, 1) := by decide +kernel
theorem dL_law_595 : decode cL_law 595 = .ok (.iadd, 1) := by decide +kernel
theorem dL_law_596 : decode cL_law 596 = .ok (.iaload, 1) := by decide +kernel
theorem dL_law_597 : decode cL_law 597 = .ok (.invokevirtual 87, 3) := by decide +kernel
theorem dL_law_600 : decode cL_law 600 = .ok (.aload_n 2, 1) := by decide +kernel
theorem dL_law_601 : decode cL_law 601 = .ok (.aload_n 0, 1) := by decide +kernel
theorem dL_law_602 : decode cL_law 602 = .ok (.iload_n 3, 1) := by decide +kernel
theorem dL_law_603 : decode cL_law 603 = .ok (.iconst 1, 1) := by decide +kernel
theorem dL_law_604 : decode cL_law 604 = .ok (.iadd, 1) := by decide +kernel
theorem dL_law_605 : decode cL_law 605 = .ok (.iaload, 1) := by decide +kernel
theorem dL_law_606 : decode cL_law 606 = .ok (.invokevirtual 90, 3) := by decide +kernel
theorem dL_law_609 : decode cL_law 609 = .ok (.if_icmp .eq 118, 3) := by decide +kernel
theorem dL_law_612 : decode cL_law 612 = .ok (.iconst 0, 1) := by decide +kernel
theorem dL_law_613 : decode cL_law 613 = .ok (.ireturn, 1) := by decide +kernel
theorem dL_law_614 : decode cL_law 614 = .ok (.aload_n 1, 1) := by decide +kernel
theorem dL_law_615 : decode cL_law 615 = .ok (.aload_n 0, 1) := by decide +kernel
theorem dL_law_616 : decode cL_law 616 = .ok (.iload_n 3, 1) := by decide +kernel
theorem dL_law_617 : decode cL_law 617 = .ok (.iconst 1, 1) := by decide +kernel
theorem dL_law_618 : decode cL_law 618 = .ok (.iadd, 1) := by decide +kernel
theorem dL_law_619 : decode cL_law 619 = .ok (.iaload, 1) := by decide +kernel
theorem dL_law_620 : decode cL_law 620 = .ok (.invokevirtual 91, 3) := by decide +kernel
theorem dL_law_623 : decode cL_law 623 = .ok (.aload_n 2, 1) := by decide +kernel
theorem dL_law_624 : decode cL_law 624 = .ok (.aload_n 0, 1) := by decide +kernel
theorem dL_law_625 : decode cL_law 625 = .ok (.iload_n 3, 1) := by decide +kernel
theorem dL_law_626 : decode cL_law 626 = .ok (.iconst 1, 1) := by decide +kernel
theorem dL_law_627 : decode cL_law 627 = .ok (.iadd, 1) := by decide +kernel
theorem dL_law_628 : decode cL_law 628 = .ok (.iaload, 1) := by decide +kernel
theorem dL_law_629 : decode cL_law 629 = .ok (.invokevirtual 94, 3) := by decide +kernel
theorem dL_law_632 : decode cL_law 632 = .ok (.if_icmp .eq 95, 3) := by decide +kernel
theorem dL_law_635 : decode cL_law 635 = .ok (.iconst 0, 1) := by decide +kernel
theorem dL_law_636 : decode cL_law 636 = .ok (.ireturn, 1) := by decide +kernel
theorem dL_law_637 : decode cL_law 637 = .ok (.aload_n 1, 1) := by decide +kernel
theorem dL_law_638 : decode cL_law 638 = .ok (.aload_n 0, 1) := by decide +kernel
theorem dL_law_639 : decode cL_law 639 = .ok (.iload_n 3, 1) := by decide +kernel
theorem dL_law_640 : decode cL_law 640 = .ok (.iconst 1, 1) := by decide +kernel
theorem dL_law_641 : decode cL_law 641 = .ok (.iadd, 1) := by decide +kernel
theorem dL_law_642 : decode cL_law 642 = .ok (.iaload, 1) := by decide +kernel
theorem dL_law_643 : decode cL_law 643 = .ok (.invokevirtual 95, 3) := by decide +kernel
theorem dL_law_646 : decode cL_law 646 = .ok (.aload_n 2, 1) := by decide +kernel
theorem dL_law_647 : decode cL_law 647 = .ok (.aload_n 0, 1) := by decide +kernel
theorem dL_law_648 : decode cL_law 648 = .ok (.iload_n 3, 1) := by decide +kernel
theorem dL_law_649 : decode cL_law 649 = .ok (.iconst 1, 1) := by decide +kernel
theorem dL_law_650 : decode cL_law 650 = .ok (.iadd, 1) := by decide +kernel
theorem dL_law_651 : decode cL_law 651 = .ok (.iaload, 1) := by decide +kernel
theorem dL_law_652 : decode cL_law 652 = .ok (.invokevirtual 98, 3) := by decide +kernel
theorem dL_law_655 : decode cL_law 655 = .ok (.if_icmp .eq 72, 3) := by decide +kernel
theorem dL_law_658 : decode cL_law 658 = .ok (.iconst 0, 1) := by decide +kernel
theorem dL_law_659 : decode cL_law 659 = .ok (.ireturn, 1) := by decide +kernel
theorem dL_law_660 : decode cL_law 660 = .ok (.aload_n 1, 1) := by decide +kernel
theorem dL_law_661 : decode cL_law 661 = .ok (.aload_n 0, 1) := by decide +kernel
theorem dL_law_662 : decode cL_law 662 = .ok (.iload_n 3, 1) := by decide +kernel
theorem dL_law_663 : decode cL_law 663 = .ok (.iconst 1, 1) := by decide +kernel
theorem dL_law_664 : decode cL_law 664 = .ok (.iadd, 1) := by decide +kernel
theorem dL_law_665 : decode cL_law 665 = .ok (.iaload, 1) := by decide +kernel
theorem dL_law_666 : decode cL_law 666 = .ok (.aload_n 0, 1) := by decide +kernel
theorem dL_law_667 : decode cL_law 667 = .ok (.iload_n 3, 1) := by decide +kernel
theorem dL_law_668 : decode cL_law 668 = .ok (.iconst 2, 1) := by decide +kernel
theorem dL_law_669 : decode cL_law 669 = .ok (.iadd, 1) := by decide +kernel
theorem dL_law_670 : decode cL_law 670 = .ok (.iaload, 1) := by decide +kernel
theorem dL_law_671 : decode cL_law 671 = .ok (.invokevirtual 99, 3) := by decide +kernel
theorem dL_law_674 : decode cL_law 674 = .ok (.aload_n 2, 1) := by decide +kernel
theorem dL_law_675 : decode cL_law 675 = .ok (.aload_n 0, 1) := by decide +kernel
theorem dL_law_676 : decode cL_law 676 = .ok (.iload_n 3, 1) := by decide +kernel
theorem dL_law_677 : decode cL_law 677 = .ok (.iconst 1, 1) := by decide +kernel
theorem dL_law_678 : decode cL_law 678 = .ok (.iadd, 1) := by decide +kernel
theorem dL_law_679 : decode cL_law 679 = .ok (.iaload, 1) := by decide +kernel
theorem dL_law_680 : decode cL_law 680 = .ok (.aload_n 0, 1) := by decide +kernel
theorem dL_law_681 : decode cL_law 681 = .ok (.iload_n 3, 1) := by decide +kernel
theorem dL_law_682 : decode cL_law 682 = .ok (.iconst 2, 1) := by decide +kernel
theorem dL_law_683 : decode cL_law 683 = .ok (.iadd, 1) := by decide +kernel
theorem dL_law_684 : decode cL_law 684 = .ok (.iaload, 1) := by decide +kernel
theorem dL_law_685 : decode cL_law 685 = .ok (.invokevirtual 103, 3) := by decide +kernel
theorem dL_law_688 : decode cL_law 688 = .ok (.lcmp, 1) := by decide +kernel
theorem dL_law_689 : decode cL_law 689 = .ok (.ifCond .eq 38, 3) := by decide +kernel
theorem dL_law_692 : decode cL_law 692 = .ok (.iconst 0, 1) := by decide +kernel
theorem dL_law_693 : decode cL_law 693 = .ok (.ireturn, 1) := by decide +kernel
theorem dL_law_694 : decode cL_law 694 = .ok (.aload_n 1, 1) := by decide +kernel
theorem dL_law_695 : decode cL_law 695 = .ok (.aload_n 0, 1) := by decide +kernel
theorem dL_law_696 : decode cL_law 696 = .ok (.iload_n 3, 1) := by decide +kernel
theorem dL_law_697 : decode cL_law 697 = .ok (.iconst 1, 1) := by decide +kernel
theorem dL_law_698 : decode cL_law 698 = .ok (.iadd, 1) := by decide +kernel
theorem dL_law_699 : decode cL_law 699 = .ok (.iaload, 1) := by decide +kernel
theorem dL_law_700 : decode cL_law 700 = .ok (.aload_n 0, 1) := by decide +kernel
theorem dL_law_701 : decode cL_law 701 = .ok (.iload_n 3, 1) := by decide +kernel
theorem dL_law_702 : decode cL_law 702 = .ok (.iconst 2, 1) := by decide +kernel
theorem dL_law_703 : decode cL_law 703 = .ok (.iadd, 1) := by decide +kernel
theorem dL_law_704 : decode cL_law 704 = .ok (.iaload, 1) := by decide +kernel
theorem dL_law_705 : decode cL_law 705 = .ok (.invokevirtual 104, 3) := by decide +kernel
theorem dL_law_708 : decode cL_law 708 = .ok (.aload_n 2, 1) := by decide +kernel
theorem dL_law_709 : decode cL_law 709 = .ok (.aload_n 0, 1) := by decide +kernel
theorem dL_law_710 : decode cL_law 710 = .ok (.iload_n 3, 1) := by decide +kernel
theorem dL_law_711 : decode cL_law 711 = .ok (.iconst 1, 1) := by decide +kernel
theorem dL_law_712 : decode cL_law 712 = .ok (.iadd, 1) := by decide +kernel
theorem dL_law_713 : decode cL_law 713 = .ok (.iaload, 1) := by decide +kernel
theorem dL_law_714 : decode cL_law 714 = .ok (.aload_n 0, 1) := by decide +kernel
theorem dL_law_715 : decode cL_law 715 = .ok (.iload_n 3, 1) := by decide +kernel
theorem dL_law_716 : decode cL_law 716 = .ok (.iconst 2, 1) := by decide +kernel
theorem dL_law_717 : decode cL_law 717 = .ok (.iadd, 1) := by decide +kernel
theorem dL_law_718 : decode cL_law 718 = .ok (.iaload, 1) := by decide +kernel
theorem dL_law_719 : decode cL_law 719 = .ok (.invokevirtual 107, 3) := by decide +kernel
theorem dL_law_722 : decode cL_law 722 = .ok (.if_icmp .eq 5, 3) := by decide +kernel
theorem dL_law_725 : decode cL_law 725 = .ok (.iconst 0, 1) := by decide +kernel
theorem dL_law_726 : decode cL_law 726 = .ok (.ireturn, 1) := by decide +kernel
theorem dL_law_727 : decode cL_law 727 = .ok (.iinc 3 5, 3) := by decide +kernel
theorem dL_law_730 : decode cL_law 730 = .ok (.goto (-702), 3) := by decide +kernel
theorem dL_law_733 : decode cL_law 733 = .ok (.iconst 1, 1) := by decide +kernel
theorem dL_law_734 : decode cL_law 734 = .ok (.ireturn, 1) := by decide +kernel
def RM : String := "TaperedQuireModel"
def TM : u_T := fun k => match k with
  | 0 => ("TaperedQuireModel", "n", "I", true)
  | 1 => ("TaperedQuireModel", "limb", "[I", true)
  | 2 => ("TaperedQuireModel", "square", "Z", false)
  | _ => ("TaperedQuireModel", "sum", "[I", true)
def tyM : Nat → FieldType := fun k => match k with
  | 0 => .int
  | 1 => (.array .int)
  | 2 => .boolean
  | _ => (.array .int)
abbrev wsM0 : List Cond := u_ws RM TM 4
theorem nmM : ∀ a, a < 4 → ∀ b, b < 4 → a ≠ b → (TM a).2.1 ≠ (TM b).2.1 := by decide +kernel
theorem tyM_ok : ∀ k, k < 4 → parseFieldDescriptor (TM k).2.2.1 = some (tyM k) := by decide +kernel
def yX2_fromLong : MethodName := ⟨RX2, "fromLong", "(J)I"⟩
abbrev cX2_fromLong : ByteArray := prog_1_method_11_code
theorem dX2_fromLong_0 : decode cX2_fromLong 0 = .ok (.lload_n 1, 1) := by decide +kernel
theorem dX2_fromLong_1 : decode cX2_fromLong 1 = .ok (.ldc2_w 106, 3) := by decide +kernel
theorem dX2_fromLong_4 : decode cX2_fromLong 4 = .ok (.lcmp, 1) := by decide +kernel
theorem dX2_fromLong_5 : decode cX2_fromLong 5 = .ok (.ifCond .ne 11, 3) := by decide +kernel
theorem dX2_fromLong_8 : decode cX2_fromLong 8 = .ok (.aload_n 0, 1) := by decide +kernel
theorem dX2_fromLong_9 : decode cX2_fromLong 9 = .ok (.getfield 13, 3) := by decide +kernel
theorem dX2_fromLong_12 : decode cX2_fromLong 12 = .ok (.invokestatic 63, 3) := by decide +kernel
theorem dX2_fromLong_15 : decode cX2_fromLong 15 = .ok (.ireturn, 1) := by decide +kernel
theorem dX2_fromLong_16 : decode cX2_fromLong 16 = .ok (.aload_n 0, 1) := by decide +kernel
theorem dX2_fromLong_17 : decode cX2_fromLong 17 = .ok (.getfield 13, 3) := by decide +kernel
theorem dX2_fromLong_20 : decode cX2_fromLong 20 = .ok (.lload_n 1, 1) := by decide +kernel
theorem dX2_fromLong_21 : decode cX2_fromLong 21 = .ok (.lconst 0, 1) := by decide +kernel
theorem dX2_fromLong_22 : decode cX2_fromLong 22 = .ok (.lcmp, 1) := by decide +kernel
theorem dX2_fromLong_23 : decode cX2_fromLong 23 = .ok (.ifCond .ge 7, 3) := by decide +kernel
theorem dX2_fromLong_26 : decode cX2_fromLong 26 = .ok (.iconst 1, 1) := by decide +kernel
theorem dX2_fromLong_27 : decode cX2_fromLong 27 = .ok (.goto 4, 3) := by decide +kernel
theorem dX2_fromLong_30 : decode cX2_fromLong 30 = .ok (.iconst 0, 1) := by decide +kernel
theorem dX2_fromLong_31 : decode cX2_fromLong 31 = .ok (.lload_n 1, 1) := by decide +kernel
theorem dX2_fromLong_32 : decode cX2_fromLong 32 = .ok (.invokestatic 108, 3) := by decide +kernel
theorem dX2_fromLong_35 : decode cX2_fromLong 35 = .ok (.iconst 0, 1) := by decide +kernel
theorem dX2_fromLong_36 : decode cX2_fromLong 36 = .ok (.iconst 0, 1) := by decide +kernel
theorem dX2_fromLong_37 : decode cX2_fromLong 37 = .ok (.invokestatic 78, 3) := by decide +kernel
theorem dX2_fromLong_40 : decode cX2_fromLong 40 = .ok (.ireturn, 1) := by decide +kernel
def yX2_toLong : MethodName := ⟨RX2, "toLong", "(I)J"⟩
abbrev cX2_toLong : ByteArray := prog_1_method_12_code
theorem dX2_toLong_0 : decode cX2_toLong 0 = .ok (.aload_n 0, 1) := by decide +kernel
theorem dX2_toLong_1 : decode cX2_toLong 1 = .ok (.getfield 36, 3) := by decide +kernel
theorem dX2_toLong_4 : decode cX2_toLong 4 = .ok (.iload_n 1, 1) := by decide +kernel
theorem dX2_toLong_5 : decode cX2_toLong 5 = .ok (.aload_n 0, 1) := by decide +kernel
theorem dX2_toLong_6 : decode cX2_toLong 6 = .ok (.getfield 13, 3) := by decide +kernel
theorem dX2_toLong_9 : decode cX2_toLong 9 = .ok (.invokevirtual 51, 3) := by decide +kernel
theorem dX2_toLong_12 : decode cX2_toLong 12 = .ok (.aload_n 0, 1) := by decide +kernel
theorem dX2_toLong_13 : decode cX2_toLong 13 = .ok (.getfield 36, 3) := by decide +kernel
theorem dX2_toLong_16 : decode cX2_toLong 16 = .ok (.getfield 72, 3) := by decide +kernel
theorem dX2_toLong_19 : decode cX2_toLong 19 = .ok (.aload_n 0, 1) := by decide +kernel
theorem dX2_toLong_20 : decode cX2_toLong 20 = .ok (.getfield 36, 3) := by decide +kernel
theorem dX2_toLong_23 : decode cX2_toLong 23 = .ok (.getfield 59, 3) := by decide +kernel
theorem dX2_toLong_26 : decode cX2_toLong 26 = .ok (.invokestatic 66, 3) := by decide +kernel
theorem dX2_toLong_29 : decode cX2_toLong 29 = .ok (.if_icmp .lt 7, 3) := by decide +kernel
theorem dX2_toLong_32 : decode cX2_toLong 32 = .ok (.iconst 1, 1) := by decide +kernel
theorem dX2_toLong_33 : decode cX2_toLong 33 = .ok (.goto 4, 3) := by decide +kernel
theorem dX2_toLong_36 : decode cX2_toLong 36 = .ok (.iconst 0, 1) := by decide +kernel
theorem dX2_toLong_37 : decode cX2_toLong 37 = .ok (.istore_n 2, 1) := by decide +kernel
theorem dX2_toLong_38 : decode cX2_toLong 38 = .ok (.aload_n 0, 1) := by decide +kernel
theorem dX2_toLong_39 : decode cX2_toLong 39 = .ok (.getfield 36, 3) := by decide +kernel
theorem dX2_toLong_42 : decode cX2_toLong 42 = .ok (.getfield 55, 3) := by decide +kernel
theorem dX2_toLong_45 : decode cX2_toLong 45 = .ok (.ifCond .ne 7, 3) := by decide +kernel
theorem dX2_toLong_48 : decode cX2_toLong 48 = .ok (.iload_n 2, 1) := by decide +kernel
theorem dX2_toLong_49 : decode cX2_toLong 49 = .ok (.ifCond .eq 7, 3) := by decide +kernel
theorem dX2_toLong_52 : decode cX2_toLong 52 = .ok (.ldc2_w 106, 3) := by decide +kernel
theorem dX2_toLong_55 : decode cX2_toLong 55 = .ok (.lreturn, 1) := by decide +kernel
theorem dX2_toLong_56 : decode cX2_toLong 56 = .ok (.aload_n 0, 1) := by decide +kernel
theorem dX2_toLong_57 : decode cX2_toLong 57 = .ok (.getfield 36, 3) := by decide +kernel
theorem dX2_toLong_60 : decode cX2_toLong 60 = .ok (.invokestatic 102, 3) := by decide +kernel
theorem dX2_toLong_63 : decode cX2_toLong 63 = .ok (.lstore_n 3, 1) := by decide +kernel
theorem dX2_toLong_64 : decode cX2_toLong 64 = .ok (.aload_n 0, 1) := by decide +kernel
theorem dX2_toLong_65 : decode cX2_toLong 65 = .ok (.getfield 36, 3) := by decide +kernel
theorem dX2_toLong_68 : decode cX2_toLong 68 = .ok (.getfield 75, 3) := by decide +kernel
theorem dX2_toLong_71 : decode cX2_toLong 71 = .ok (.ifCond .eq 8, 3) := by decide +kernel
theorem dX2_toLong_74 : decode cX2_toLong 74 = .ok (.lload_n 3, 1) := by decide +kernel
theorem dX2_toLong_75 : decode cX2_toLong 75 = .ok (.lneg, 1) := by decide +kernel
theorem dX2_toLong_76 : decode cX2_toLong 76 = .ok (.goto 4, 3) := by decide +kernel
theorem dX2_toLong_79 : decode cX2_toLong 79 = .ok (.lload_n 3, 1) := by decide +kernel
theorem dX2_toLong_80 : decode cX2_toLong 80 = .ok (.lreturn, 1) := by decide +kernel
def yX2_convert : MethodName := ⟨RX2, "convert", "(II)I"⟩
abbrev cX2_convert : ByteArray := prog_1_method_13_code
theorem dX2_convert_0 : decode cX2_convert 0 = .ok (.iload_n 2, 1) := by decide +kernel
theorem dX2_convert_1 : decode cX2_convert 1 = .ok (.invokestatic 7, 3) := by decide +kernel
theorem dX2_convert_4 : decode cX2_convert 4 = .ok (.istore_n 3, 1) := by decide +kernel
theorem dX2_convert_5 : decode cX2_convert 5 = .ok (.aload_n 0, 1) := by decide +kernel
theorem dX2_convert_6 : decode cX2_convert 6 = .ok (.getfield 36, 3) := by decide +kernel
theorem dX2_convert_9 : decode cX2_convert 9 = .ok (.iload_n 1, 1) := by decide +kernel
theorem dX2_convert_10 : decode cX2_convert 10 = .ok (.aload_n 0, 1) := by decide +kernel
theorem dX2_convert_11 : decode cX2_convert 11 = .ok (.getfield 13, 3) := by decide +kernel
theorem dX2_convert_14 : decode cX2_convert 14 = .ok (.invokevirtual 51, 3) := by decide +kernel
theorem dX2_convert_17 : decode cX2_convert 17 = .ok (.aload_n 0, 1) := by decide +kernel
theorem dX2_convert_18 : decode cX2_convert 18 = .ok (.getfield 36, 3) := by decide +kernel
theorem dX2_convert_21 : decode cX2_convert 21 = .ok (.getfield 55, 3) := by decide +kernel
theorem dX2_convert_24 : decode cX2_convert 24 = .ok (.ifCond .eq 8, 3) := by decide +kernel
theorem dX2_convert_27 : decode cX2_convert 27 = .ok (.iload_n 3, 1) := by decide +kernel
theorem dX2_convert_28 : decode cX2_convert 28 = .ok (.invokestatic 63, 3) := by decide +kernel
theorem dX2_convert_31 : decode cX2_convert 31 = .ok (.ireturn, 1) := by decide +kernel
theorem dX2_convert_32 : decode cX2_convert 32 = .ok (.iload_n 3, 1) := by decide +kernel
theorem dX2_convert_33 : decode cX2_convert 33 = .ok (.aload_n 0, 1) := by decide +kernel
theorem dX2_convert_34 : decode cX2_convert 34 = .ok (.getfield 36, 3) := by decide +kernel
theorem dX2_convert_37 : decode cX2_convert 37 = .ok (.getfield 75, 3) := by decide +kernel
theorem dX2_convert_40 : decode cX2_convert 40 = .ok (.aload_n 0, 1) := by decide +kernel
theorem dX2_convert_41 : decode cX2_convert 41 = .ok (.getfield 36, 3) := by decide +kernel
theorem dX2_convert_44 : decode cX2_convert 44 = .ok (.getfield 59, 3) := by decide +kernel
theorem dX2_convert_47 : decode cX2_convert 47 = .ok (.aload_n 0, 1) := by decide +kernel
theorem dX2_convert_48 : decode cX2_convert 48 = .ok (.getfield 36, 3) := by decide +kernel
theorem dX2_convert_51 : decode cX2_convert 51 = .ok (.getfield 72, 3) := by decide +kernel
theorem dX2_convert_54 : decode cX2_convert 54 = .ok (.iconst 0, 1) := by decide +kernel
theorem dX2_convert_55 : decode cX2_convert 55 = .ok (.invokestatic 78, 3) := by decide +kernel
theorem dX2_convert_58 : decode cX2_convert 58 = .ok (.ireturn, 1) := by decide +kernel
def yX2_clear : MethodName := ⟨RX2, "clear", "(I)Z"⟩
abbrev cX2_clear : ByteArray := prog_1_method_14_code
theorem dX2_clear_0 : decode cX2_clear 0 = .ok (.iload_n 1, 1) := by decide +kernel
theorem dX2_clear_1 : decode cX2_clear 1 = .ok (.invokestatic 113, 3) := by decide +kernel
theorem dX2_clear_4 : decode cX2_clear 4 = .ok (.ifCond .ne 5, 3) := by decide +kernel
theorem dX2_clear_7 : decode cX2_clear 7 = .ok (.iconst 0, 1) := by decide +kernel
theorem dX2_clear_8 : decode cX2_clear 8 = .ok (.ireturn, 1) := by decide +kernel
theorem dX2_clear_9 : decode cX2_clear 9 = .ok (.aload_n 0, 1) := by decide +kernel
theorem dX2_clear_10 : decode cX2_clear 10 = .ok (.getfield 22, 3) := by decide +kernel
theorem dX2_clear_13 : decode cX2_clear 13 = .ok (.iload_n 1, 1) := by decide +kernel
theorem dX2_clear_14 : decode cX2_clear 14 = .ok (.aaload, 1) := by decide +kernel
theorem dX2_clear_15 : decode cX2_clear 15 = .ok (.invokevirtual 117, 3) := by decide +kernel
theorem dX2_clear_18 : decode cX2_clear 18 = .ok (.iconst 1, 1) := by decide +kernel
theorem dX2_clear_19 : decode cX2_clear 19 = .ok (.ireturn, 1) := by decide +kernel
def yX2_collect : MethodName := ⟨RX2, "collect", "(IIIZ)Z"⟩
abbrev cX2_collect : ByteArray := prog_1_method_15_code
theorem dX2_collect_0 : decode cX2_collect 0 = .ok (.iload_n 1, 1) := by decide +kernel
theorem dX2_collect_1 : decode cX2_collect 1 = .ok (.invokestatic 113, 3) := by decide +kernel
theorem dX2_collect_4 : decode cX2_collect 4 = .ok (.ifCond .ne 5, 3) := by decide +kernel
theorem dX2_collect_7 : decode cX2_collect 7 = .ok (.iconst 0, 1) := by decide +kernel
theorem dX2_collect_8 : decode cX2_collect 8 = .ok (.ireturn, 1) := by decide +kernel
theorem dX2_collect_9 : decode cX2_collect 9 = .ok (.aload_n 0, 1) := by decide +kernel
theorem dX2_collect_10 : decode cX2_collect 10 = .ok (.aload_n 0, 1) := by decide +kernel
theorem dX2_collect_11 : decode cX2_collect 11 = .ok (.getfield 30, 3) := by decide +kernel
theorem dX2_collect_14 : decode cX2_collect 14 = .ok (.iload_n 2, 1) := by decide +kernel
theorem dX2_collect_15 : decode cX2_collect 15 = .ok (.iload_n 3, 1) := by decide +kernel
theorem dX2_collect_16 : decode cX2_collect 16 = .ok (.invokevirtual 86, 3) := by decide +kernel
theorem dX2_collect_19 : decode cX2_collect 19 = .ok (.iload 4, 2) := by decide +kernel
theorem dX2_collect_21 : decode cX2_collect 21 = .ok (.ifCond .eq 10, 3) := by decide +kernel
theorem dX2_collect_24 : decode cX2_collect 24 = .ok (.aload_n 0, 1) := by decide +kernel
theorem dX2_collect_25 : decode cX2_collect 25 = .ok (.getfield 30, 3) := by decide +kernel
theorem dX2_collect_28 : decode cX2_collect 28 = .ok (.invokevirtual 120, 3) := by decide +kernel
theorem dX2_collect_31 : decode cX2_collect 31 = .ok (.aload_n 0, 1) := by decide +kernel
theorem dX2_collect_32 : decode cX2_collect 32 = .ok (.getfield 22, 3) := by decide +kernel
theorem dX2_collect_35 : decode cX2_collect 35 = .ok (.iload_n 1, 1) := by decide +kernel
theorem dX2_collect_36 : decode cX2_collect 36 = .ok (.aaload, 1) := by decide +kernel
theorem dX2_collect_37 : decode cX2_collect 37 = .ok (.aload_n 0, 1) := by decide +kernel
theorem dX2_collect_38 : decode cX2_collect 38 = .ok (.getfield 30, 3) := by decide +kernel
theorem dX2_collect_41 : decode cX2_collect 41 = .ok (.invokevirtual 90, 3) := by decide +kernel
theorem dX2_collect_44 : decode cX2_collect 44 = .ok (.iconst 1, 1) := by decide +kernel
theorem dX2_collect_45 : decode cX2_collect 45 = .ok (.ireturn, 1) := by decide +kernel
def yX2_merge : MethodName := ⟨RX2, "merge", "(I)Z"⟩
abbrev cX2_merge : ByteArray := prog_1_method_16_code
theorem dX2_merge_0 : decode cX2_merge 0 = .ok (.iload_n 1, 1) := by decide +kernel
theorem dX2_merge_1 : decode cX2_merge 1 = .ok (.invokestatic 113, 3) := by decide +kernel
theorem dX2_merge_4 : decode cX2_merge 4 = .ok (.ifCond .ne 5, 3) := by decide +kernel
theorem dX2_merge_7 : decode cX2_merge 7 = .ok (.iconst 0, 1) := by decide +kernel
theorem dX2_merge_8 : decode cX2_merge 8 = .ok (.ireturn, 1) := by decide +kernel
theorem dX2_merge_9 : decode cX2_merge 9 = .ok (.aload_n 0, 1) := by decide +kernel
theorem dX2_merge_10 : decode cX2_merge 10 = .ok (.getfield 22, 3) := by decide +kernel
theorem dX2_merge_13 : decode cX2_merge 13 = .ok (.iload_n 1, 1) := by decide +kernel
theorem dX2_merge_14 : decode cX2_merge 14 = .ok (.aaload, 1) := by decide +kernel
theorem dX2_merge_15 : decode cX2_merge 15 = .ok (.aload_n 0, 1) := by decide +kernel
theorem dX2_merge_16 : decode cX2_merge 16 = .ok (.getfield 22, 3) := by decide +kernel
theorem dX2_merge_19 : decode cX2_merge 19 = .ok (.iconst 1, 1) := by decide +kernel
theorem dX2_merge_20 : decode cX2_merge 20 = .ok (.iload_n 1, 1) := by decide +kernel
theorem dX2_merge_21 : decode cX2_merge 21 = .ok (.isub, 1) := by decide +kernel
theorem dX2_merge_22 : decode cX2_merge 22 = .ok (.aaload, 1) := by decide +kernel
theorem dX2_merge_23 : decode cX2_merge 23 = .ok (.invokevirtual 90, 3) := by decide +kernel
theorem dX2_merge_26 : decode cX2_merge 26 = .ok (.iconst 1, 1) := by decide +kernel
theorem dX2_merge_27 : decode cX2_merge 27 = .ok (.ireturn, 1) := by decide +kernel
def yX2_negate : MethodName := ⟨RX2, "negate", "(I)Z"⟩
abbrev cX2_negate : ByteArray := prog_1_method_17_code
theorem dX2_negate_0 : decode cX2_negate 0 = .ok (.iload_n 1, 1) := by decide +kernel
theorem dX2_negate_1 : decode cX2_negate 1 = .ok (.invokestatic 113, 3) := by decide +kernel
theorem dX2_negate_4 : decode cX2_negate 4 = .ok (.ifCond .ne 5, 3) := by decide +kernel
theorem dX2_negate_7 : decode cX2_negate 7 = .ok (.iconst 0, 1) := by decide +kernel
theorem dX2_negate_8 : decode cX2_negate 8 = .ok (.ireturn, 1) := by decide +kernel
theorem dX2_negate_9 : decode cX2_negate 9 = .ok (.aload_n 0, 1) := by decide +kernel
theorem dX2_negate_10 : decode cX2_negate 10 = .ok (.getfield 22, 3) := by decide +kernel
theorem dX2_negate_13 : decode cX2_negate 13 = .ok (.iload_n 1, 1) := by decide +kernel
theorem dX2_negate_14 : decode cX2_negate 14 = .ok (.aaload, 1) := by decide +kernel
theorem dX2_negate_15 : decode cX2_negate 15 = .ok (.invokevirtual 120, 3) := by decide +kernel
theorem dX2_negate_18 : decode cX2_negate 18 = .ok (.iconst 1, 1) := by decide +kernel
theorem dX2_negate_19 : decode cX2_negate 19 = .ok (.ireturn, 1) := by decide +kernel
def yX2_total : MethodName := ⟨RX2, "total", "(I)I"⟩
abbrev cX2_total : ByteArray := prog_1_method_18_code
theorem dX2_total_0 : decode cX2_total 0 = .ok (.iload_n 1, 1) := by decide +kernel
theorem dX2_total_1 : decode cX2_total 1 = .ok (.invokestatic 113, 3) := by decide +kernel
theorem dX2_total_4 : decode cX2_total 4 = .ok (.ifCond .ne 11, 3) := by decide +kernel
theorem dX2_total_7 : decode cX2_total 7 = .ok (.aload_n 0, 1) := by decide +kernel
theorem dX2_total_8 : decode cX2_total 8 = .ok (.getfield 13, 3) := by decide +kernel
theorem dX2_total_11 : decode cX2_total 11 = .ok (.invokestatic 63, 3) := by decide +kernel
theorem dX2_total_14 : decode cX2_total 14 = .ok (.ireturn, 1) := by decide +kernel
theorem dX2_total_15 : decode cX2_total 15 = .ok (.aload_n 0, 1) := by decide +kernel
theorem dX2_total_16 : decode cX2_total 16 = .ok (.aload_n 0, 1) := by decide +kernel
theorem dX2_total_17 : decode cX2_total 17 = .ok (.getfield 22, 3) := by decide +kernel
theorem dX2_total_20 : decode cX2_total 20 = .ok (.iload_n 1, 1) := by decide +kernel
theorem dX2_total_21 : decode cX2_total 21 = .ok (.aaload, 1) := by decide +kernel
theorem dX2_total_22 : decode cX2_total 22 = .ok (.invokevirtual 94, 3) := by decide +kernel
theorem dX2_total_25 : decode cX2_total 25 = .ok (.ireturn, 1) := by decide +kernel
def yX2_word : MethodName := ⟨RX2, "word", "(II)J"⟩
abbrev cX2_word : ByteArray := prog_1_method_19_code
theorem dX2_word_0 : decode cX2_word 0 = .ok (.iload_n 1, 1) := by decide +kernel
theorem dX2_word_1 : decode cX2_word 1 = .ok (.invokestatic 113, 3) := by decide +kernel
theorem dX2_word_4 : decode cX2_word 4 = .ok (.ifCond .eq 21, 3) := by decide +kernel
theorem dX2_word_7 : decode cX2_word 7 = .ok (.iload_n 2, 1) := by decide +kernel
theorem dX2_word_8 : decode cX2_word 8 = .ok (.ifCond .lt 17, 3) := by decide +kernel
theorem dX2_word_11 : decode cX2_word 11 = .ok (.iload_n 2, 1) := by decide +kernel
theorem dX2_word_12 : decode cX2_word 12 = .ok (.aload_n 0, 1) := by decide +kernel
theorem dX2_word_13 : decode cX2_word 13 = .ok (.getfield 22, 3) := by decide +kernel
theorem dX2_word_16 : decode cX2_word 16 = .ok (.iload_n 1, 1) := by decide +kernel
theorem dX2_word_17 : decode cX2_word 17 = .ok (.aaload, 1) := by decide +kernel
theorem dX2_word_18 : decode cX2_word 18 = .ok (.getfield 123, 3) := by decide +kernel
theorem dX2_word_21 : decode cX2_word 21 = .ok (.arraylength, 1) := by decide +kernel
theorem dX2_word_22 : decode cX2_word 22 = .ok (.if_icmp .lt 5, 3) := by decide +kernel
theorem dX2_word_25 : decode cX2_word 25 = .ok (.lconst 0, 1) := by decide +kernel
theorem dX2_word_26 : decode cX2_word 26 = .ok (.lreturn, 1) := by decide +kernel
theorem dX2_word_27 : decode cX2_word 27 = .ok (.aload_n 0, 1) := by decide +kernel
theorem dX2_word_28 : decode cX2_word 28 = .ok (.getfield 22, 3) := by decide +kernel
theorem dX2_word_31 : decode cX2_word 31 = .ok (.iload_n 1, 1) := by decide +kernel
theorem dX2_word_32 : decode cX2_word 32 = .ok (.aaload, 1) := by decide +kernel
theorem dX2_word_33 : decode cX2_word 33 = .ok (.getfield 123, 3) := by decide +kernel
theorem dX2_word_36 : decode cX2_word 36 = .ok (.iload_n 2, 1) := by decide +kernel
theorem dX2_word_37 : decode cX2_word 37 = .ok (.laload, 1) := by decide +kernel
theorem dX2_word_38 : decode cX2_word 38 = .ok (.lreturn, 1) := by decide +kernel
def yX2_compare : MethodName := ⟨RX2, "compare", "(II)I"⟩
abbrev cX2_compare : ByteArray := prog_1_method_20_code
theorem dX2_compare_0 : decode cX2_compare 0 = .ok (.iload_n 1, 1) := by decide +kernel
theorem dX2_compare_1 : decode cX2_compare 1 = .ok (.aload_n 0, 1) := by decide +kernel
theorem dX2_compare_2 : decode cX2_compare 2 = .ok (.getfield 13, 3) := by decide +kernel
theorem dX2_compare_5 : decode cX2_compare 5 = .ok (.invokestatic 98, 3) := by decide +kernel
theorem dX2_compare_8 : decode cX2_compare 8 = .ok (.istore_n 3, 1) := by decide +kernel
theorem dX2_compare_9 : decode cX2_compare 9 = .ok (.iload_n 2, 1) := by decide +kernel
theorem dX2_compare_10 : decode cX2_compare 10 = .ok (.aload_n 0, 1) := by decide +kernel
theorem dX2_compare_11 : decode cX2_compare 11 = .ok (.getfield 13, 3) := by decide +kernel
theorem dX2_compare_14 : decode cX2_compare 14 = .ok (.invokestatic 98, 3) := by decide +kernel
theorem dX2_compare_17 : decode cX2_compare 17 = .ok (.istore 4, 2) := by decide +kernel
theorem dX2_compare_19 : decode cX2_compare 19 = .ok (.iload_n 3, 1) := by decide +kernel
theorem dX2_compare_20 : decode cX2_compare 20 = .ok (.iload 4, 2) := by decide +kernel
theorem dX2_compare_22 : decode cX2_compare 22 = .ok (.if_icmp .ne 5, 3) := by decide +kernel
theorem dX2_compare_25 : decode cX2_compare 25 = .ok (.iconst 0, 1) := by decide +kernel
theorem dX2_compare_26 : decode cX2_compare 26 = .ok (.ireturn, 1) := by decide +kernel
theorem dX2_compare_27 : decode cX2_compare 27 = .ok (.iload_n 3, 1) := by decide +kernel
theorem dX2_compare_28 : decode cX2_compare 28 = .ok (.iload 4, 2) := by decide +kernel
theorem dX2_compare_30 : decode cX2_compare 30 = .ok (.if_icmp .ge 7, 3) := by decide +kernel
theorem dX2_compare_33 : decode cX2_compare 33 = .ok (.iconst (-1), 1) := by decide +kernel
theorem dX2_compare_34 : decode cX2_compare 34 = .ok (.goto 4, 3) := by decide +kernel
theorem dX2_compare_37 : decode cX2_compare 37 = .ok (.iconst 1, 1) := by decide +kernel
theorem dX2_compare_38 : decode cX2_compare 38 = .ok (.ireturn, 1) := by decide +kernel
def yX2_isSum : MethodName := ⟨RX2, "isSum", "(I)Z"⟩
abbrev cX2_isSum : ByteArray := prog_1_method_25_code
theorem dX2_isSum_0 : decode cX2_isSum 0 = .ok (.iload_n 0, 1) := by decide +kernel
theorem dX2_isSum_1 : decode cX2_isSum 1 = .ok (.ifCond .eq 8, 3) := by decide +kernel
theorem dX2_isSum_4 : decode cX2_isSum 4 = .ok (.iload_n 0, 1) := by decide +kernel
theorem dX2_isSum_5 : decode cX2_isSum 5 = .ok (.iconst 1, 1) := by decide +kernel
theorem dX2_isSum_6 : decode cX2_isSum 6 = .ok (.if_icmp .ne 7, 3) := by decide +kernel
theorem dX2_isSum_9 : decode cX2_isSum 9 = .ok (.iconst 1, 1) := by decide +kernel
theorem dX2_isSum_10 : decode cX2_isSum 10 = .ok (.goto 4, 3) := by decide +kernel
theorem dX2_isSum_13 : decode cX2_isSum 13 = .ok (.iconst 0, 1) := by decide +kernel
theorem dX2_isSum_14 : decode cX2_isSum 14 = .ok (.ireturn, 1) := by decide +kernel
def yL_cell : MethodName := ⟨RL, "cell", "([II)I"⟩
abbrev cL_cell : ByteArray := method_2_code
theorem dL_cell_0 : decode cL_cell 0 = .ok (.iload_n 1, 1) := by decide +kernel
theorem dL_cell_1 : decode cL_cell 1 = .ok (.aload_n 0, 1) := by decide +kernel
theorem dL_cell_2 : decode cL_cell 2 = .ok (.arraylength, 1) := by decide +kernel
theorem dL_cell_3 : decode cL_cell 3 = .ok (.if_icmp .ge 9, 3) := by decide +kernel
theorem dL_cell_6 : decode cL_cell 6 = .ok (.aload_n 0, 1) := by decide +kernel
theorem dL_cell_7 : decode cL_cell 7 = .ok (.iload_n 1, 1) := by decide +kernel
theorem dL_cell_8 : decode cL_cell 8 = .ok (.iaload, 1) := by decide +kernel
theorem dL_cell_9 : decode cL_cell 9 = .ok (.goto 4, 3) := by decide +kernel
theorem dL_cell_12 : decode cL_cell 12 = .ok (.iconst 0, 1) := by decide +kernel
theorem dL_cell_13 : decode cL_cell 13 = .ok (.ireturn, 1) := by decide +kernel
def yM_init : MethodName := ⟨RM, "<init>", "(I)V"⟩
abbrev cM_init : ByteArray := prog_5_method_1_code
theorem dM_init_0 : decode cM_init 0 = .ok (.aload_n 0, 1) := by decide +kernel
theorem dM_init_1 : decode cM_init 1 = .ok (.invokespecial 1, 3) := by decide +kernel
theorem dM_init_4 : decode cM_init 4 = .ok (.aload_n 0, 1) := by decide +kernel
theorem dM_init_5 : decode cM_init 5 = .ok (.sipush 200, 3) := by decide +kernel
theorem dM_init_8 : decode cM_init 8 = .ok (.newarray .int, 2) := by decide +kernel
theorem dM_init_10 : decode cM_init 10 = .ok (.putfield 7, 3) := by decide +kernel
theorem dM_init_13 : decode cM_init 13 = .ok (.aload_n 0, 1) := by decide +kernel
theorem dM_init_14 : decode cM_init 14 = .ok (.bipush 64, 2) := by decide +kernel
theorem dM_init_16 : decode cM_init 16 = .ok (.newarray .int, 2) := by decide +kernel
theorem dM_init_18 : decode cM_init 18 = .ok (.putfield 13, 3) := by decide +kernel
theorem dM_init_21 : decode cM_init 21 = .ok (.aload_n 0, 1) := by decide +kernel
theorem dM_init_22 : decode cM_init 22 = .ok (.iload_n 1, 1) := by decide +kernel
theorem dM_init_23 : decode cM_init 23 = .ok (.invokestatic 16, 3) := by decide +kernel
theorem dM_init_26 : decode cM_init 26 = .ok (.putfield 20, 3) := by decide +kernel
theorem dM_init_29 : decode cM_init 29 = .ok (.return_, 1) := by decide +kernel
def yM_sizeOf : MethodName := ⟨RM, "sizeOf", "(I)I"⟩
abbrev cM_sizeOf : ByteArray := prog_5_method_2_code
theorem dM_sizeOf_0 : decode cM_sizeOf 0 = .ok (.iload_n 0, 1) := by decide +kernel
theorem dM_sizeOf_1 : decode cM_sizeOf 1 = .ok (.ifCond .ne 8, 3) := by decide +kernel
theorem dM_sizeOf_4 : decode cM_sizeOf 4 = .ok (.bipush 8, 2) := by decide +kernel
theorem dM_sizeOf_6 : decode cM_sizeOf 6 = .ok (.goto 15, 3) := by decide +kernel
theorem dM_sizeOf_9 : decode cM_sizeOf 9 = .ok (.iload_n 0, 1) := by decide +kernel
theorem dM_sizeOf_10 : decode cM_sizeOf 10 = .ok (.iconst 1, 1) := by decide +kernel
theorem dM_sizeOf_11 : decode cM_sizeOf 11 = .ok (.if_icmp .ne 8, 3) := by decide +kernel
theorem dM_sizeOf_14 : decode cM_sizeOf 14 = .ok (.bipush 16, 2) := by decide +kernel
theorem dM_sizeOf_16 : decode cM_sizeOf 16 = .ok (.goto 5, 3) := by decide +kernel
theorem dM_sizeOf_19 : decode cM_sizeOf 19 = .ok (.bipush 32, 2) := by decide +kernel
theorem dM_sizeOf_21 : decode cM_sizeOf 21 = .ok (.ireturn, 1) := by decide +kernel
def yM_bits : MethodName := ⟨RM, "bits", "()I"⟩
abbrev cM_bits : ByteArray := prog_5_method_3_code
theorem dM_bits_0 : decode cM_bits 0 = .ok (.aload_n 0, 1) := by decide +kernel
theorem dM_bits_1 : decode cM_bits 1 = .ok (.getfield 20, 3) := by decide +kernel
theorem dM_bits_4 : decode cM_bits 4 = .ok (.ireturn, 1) := by decide +kernel
def yM_zero : MethodName := ⟨RM, "zero", "(I)V"⟩
abbrev cM_zero : ByteArray := prog_5_method_4_code
theorem dM_zero_0 : decode cM_zero 0 = .ok (.iconst 0, 1) := by decide +kernel
theorem dM_zero_1 : decode cM_zero 1 = .ok (.istore_n 2, 1) := by decide +kernel
theorem dM_zero_2 : decode cM_zero 2 = .ok (.iload_n 2, 1) := by decide +kernel
theorem dM_zero_3 : decode cM_zero 3 = .ok (.bipush 40, 2) := by decide +kernel
theorem dM_zero_5 : decode cM_zero 5 = .ok (.if_icmp .ge 21, 3) := by decide +kernel
theorem dM_zero_8 : decode cM_zero 8 = .ok (.aload_n 0, 1) := by decide +kernel
theorem dM_zero_9 : decode cM_zero 9 = .ok (.getfield 7, 3) := by decide +kernel
theorem dM_zero_12 : decode cM_zero 12 = .ok (.bipush 40, 2) := by decide +kernel
theorem dM_zero_14 : decode cM_zero 14 = .ok (.iload_n 1, 1) := by decide +kernel
theorem dM_zero_15 : decode cM_zero 15 = .ok (.imul, 1) := by decide +kernel
theorem dM_zero_16 : decode cM_zero 16 = .ok (.iload_n 2, 1) := by decide +kernel
theorem dM_zero_17 : decode cM_zero 17 = .ok (.iadd, 1) := by decide +kernel
theorem dM_zero_18 : decode cM_zero 18 = .ok (.iconst 0, 1) := by decide +kernel
theorem dM_zero_19 : decode cM_zero 19 = .ok (.iastore, 1) := by decide +kernel
theorem dM_zero_20 : decode cM_zero 20 = .ok (.iinc 2 1, 3) := by decide +kernel
theorem dM_zero_23 : decode cM_zero 23 = .ok (.goto (-21), 3) := by decide +kernel
theorem dM_zero_26 : decode cM_zero 26 = .ok (.return_, 1) := by decide +kernel
def yM_move : MethodName := ⟨RM, "move", "(II)V"⟩
abbrev cM_move : ByteArray := prog_5_method_5_code
theorem dM_move_0 : decode cM_move 0 = .ok (.iconst 0, 1) := by decide +kernel
theorem dM_move_1 : decode cM_move 1 = .ok (.istore_n 3, 1) := by decide +kernel
theorem dM_move_2 : decode cM_move 2 = .ok (.iload_n 3, 1) := by decide +kernel
theorem dM_move_3 : decode cM_move 3 = .ok (.bipush 40, 2) := by decide +kernel
theorem dM_move_5 : decode cM_move 5 = .ok (.if_icmp .ge 31, 3) := by decide +kernel
theorem dM_move_8 : decode cM_move 8 = .ok (.aload_n 0, 1) := by decide +kernel
theorem dM_move_9 : decode cM_move 9 = .ok (.getfield 7, 3) := by decide +kernel
theorem dM_move_12 : decode cM_move 12 = .ok (.bipush 40, 2) := by decide +kernel
theorem dM_move_14 : decode cM_move 14 = .ok (.iload_n 2, 1) := by decide +kernel
theorem dM_move_15 : decode cM_move 15 = .ok (.imul, 1) := by decide +kernel
theorem dM_move_16 : decode cM_move 16 = .ok (.iload_n 3, 1) := by decide +kernel
theorem dM_move_17 : decode cM_move 17 = .ok (.iadd, 1) := by decide +kernel
theorem dM_move_18 : decode cM_move 18 = .ok (.aload_n 0, 1) := by decide +kernel
theorem dM_move_19 : decode cM_move 19 = .ok (.getfield 7, 3) := by decide +kernel
theorem dM_move_22 : decode cM_move 22 = .ok (.bipush 40, 2) := by decide +kernel
theorem dM_move_24 : decode cM_move 24 = .ok (.iload_n 1, 1) := by decide +kernel
theorem dM_move_25 : decode cM_move 25 = .ok (.imul, 1) := by decide +kernel
theorem dM_move_26 : decode cM_move 26 = .ok (.iload_n 3, 1) := by decide +kernel
theorem dM_move_27 : decode cM_move 27 = .ok (.iadd, 1) := by decide +kernel
theorem dM_move_28 : decode cM_move 28 = .ok (.iaload, 1) := by decide +kernel
theorem dM_move_29 : decode cM_move 29 = .ok (.iastore, 1) := by decide +kernel
theorem dM_move_30 : decode cM_move 30 = .ok (.iinc 3 1, 3) := by decide +kernel
theorem dM_move_33 : decode cM_move 33 = .ok (.goto (-31), 3) := by decide +kernel
theorem dM_move_36 : decode cM_move 36 = .ok (.return_, 1) := by decide +kernel
def yM_order : MethodName := ⟨RM, "order", "(II)I"⟩
abbrev cM_order : ByteArray := prog_5_method_6_code
theorem dM_order_0 : decode cM_order 0 = .ok (.bipush 39, 2) := by decide +kernel
theorem dM_order_2 : decode cM_order 2 = .ok (.istore_n 3, 1) := by decide +kernel
theorem dM_order_3 : decode cM_order 3 = .ok (.iload_n 3, 1) := by decide +kernel
theorem dM_order_4 : decode cM_order 4 = .ok (.ifCond .lt 55, 3) := by decide +kernel
theorem dM_order_7 : decode cM_order 7 = .ok (.aload_n 0, 1) := by decide +kernel
theorem dM_order_8 : decode cM_order 8 = .ok (.getfield 7, 3) := by decide +kernel
theorem dM_order_11 : decode cM_order 11 = .ok (.bipush 40, 2) := by decide +kernel
theorem dM_order_13 : decode cM_order 13 = .ok (.iload_n 1, 1) := by decide +kernel
theorem dM_order_14 : decode cM_order 14 = .ok (.imul, 1) := by decide +kernel
theorem dM_order_15 : decode cM_order 15 = .ok (.iload_n 3, 1) := by decide +kernel
theorem dM_order_16 : decode cM_order 16 = .ok (.iadd, 1) := by decide +kernel
theorem dM_order_17 : decode cM_order 17 = .ok (.iaload, 1) := by decide +kernel
theorem dM_order_18 : decode cM_order 18 = .ok (.istore 4, 2) := by decide +kernel
theorem dM_order_20 : decode cM_order 20 = .ok (.aload_n 0, 1) := by decide +kernel
theorem dM_order_21 : decode cM_order 21 = .ok (.getfield 7, 3) := by decide +kernel
theorem dM_order_24 : decode cM_order 24 = .ok (.bipush 40, 2) := by decide +kernel
theorem dM_order_26 : decode cM_order 26 = .ok (.iload_n 2, 1) := by decide +kernel
theorem dM_order_27 : decode cM_order 27 = .ok (.imul, 1) := by decide +kernel
theorem dM_order_28 : decode cM_order 28 = .ok (.iload_n 3, 1) := by decide +kernel
theorem dM_order_29 : decode cM_order 29 = .ok (.iadd, 1) := by decide +kernel
theorem dM_order_30 : decode cM_order 30 = .ok (.iaload, 1) := by decide +kernel
theorem dM_order_31 : decode cM_order 31 = .ok (.istore 5, 2) := by decide +kernel
theorem dM_order_33 : decode cM_order 33 = .ok (.iload 4, 2) := by decide +kernel
theorem dM_order_35 : decode cM_order 35 = .ok (.iload 5, 2) := by decide +kernel
theorem dM_order_37 : decode cM_order 37 = .ok (.if_icmp .eq 16, 3) := by decide +kernel
theorem dM_order_40 : decode cM_order 40 = .ok (.iload 4, 2) := by decide +kernel
theorem dM_order_42 : decode cM_order 42 = .ok (.iload 5, 2) := by decide +kernel
theorem dM_order_44 : decode cM_order 44 = .ok (.if_icmp .ge 7, 3) := by decide +kernel
theorem dM_order_47 : decode cM_order 47 = .ok (.iconst (-1), 1) := by decide +kernel
theorem dM_order_48 : decode cM_order 48 = .ok (.goto 4, 3) := by decide +kernel
theorem dM_order_51 : decode cM_order 51 = .ok (.iconst 1, 1) := by decide +kernel
theorem dM_order_52 : decode cM_order 52 = .ok (.ireturn, 1) := by decide +kernel
theorem dM_order_53 : decode cM_order 53 = .ok (.iinc 3 (-1), 3) := by decide +kernel
theorem dM_order_56 : decode cM_order 56 = .ok (.goto (-53), 3) := by decide +kernel
theorem dM_order_59 : decode cM_order 59 = .ok (.iconst 0, 1) := by decide +kernel
theorem dM_order_60 : decode cM_order 60 = .ok (.ireturn, 1) := by decide +kernel
def yM_isZero : MethodName := ⟨RM, "isZero", "(I)Z"⟩
abbrev cM_isZero : ByteArray := prog_5_method_7_code
theorem dM_isZero_0 : decode cM_isZero 0 = .ok (.iconst 1, 1) := by decide +kernel
theorem dM_isZero_1 : decode cM_isZero 1 = .ok (.istore_n 2, 1) := by decide +kernel
theorem dM_isZero_2 : decode cM_isZero 2 = .ok (.iconst 0, 1) := by decide +kernel
theorem dM_isZero_3 : decode cM_isZero 3 = .ok (.istore_n 3, 1) := by decide +kernel
theorem dM_isZero_4 : decode cM_isZero 4 = .ok (.iload_n 3, 1) := by decide +kernel
theorem dM_isZero_5 : decode cM_isZero 5 = .ok (.bipush 40, 2) := by decide +kernel
theorem dM_isZero_7 : decode cM_isZero 7 = .ok (.if_icmp .ge 33, 3) := by decide +kernel
theorem dM_isZero_10 : decode cM_isZero 10 = .ok (.iload_n 2, 1) := by decide +kernel
theorem dM_isZero_11 : decode cM_isZero 11 = .ok (.ifCond .eq 21, 3) := by decide +kernel
theorem dM_isZero_14 : decode cM_isZero 14 = .ok (.aload_n 0, 1) := by decide +kernel
theorem dM_isZero_15 : decode cM_isZero 15 = .ok (.getfield 7, 3) := by decide +kernel
theorem dM_isZero_18 : decode cM_isZero 18 = .ok (.bipush 40, 2) := by decide +kernel
theorem dM_isZero_20 : decode cM_isZero 20 = .ok (.iload_n 1, 1) := by decide +kernel
theorem dM_isZero_21 : decode cM_isZero 21 = .ok (.imul, 1) := by decide +kernel
theorem dM_isZero_22 : decode cM_isZero 22 = .ok (.iload_n 3, 1) := by decide +kernel
theorem dM_isZero_23 : decode cM_isZero 23 = .ok (.iadd, 1) := by decide +kernel
theorem dM_isZero_24 : decode cM_isZero 24 = .ok (.iaload, 1) := by decide +kernel
theorem dM_isZero_25 : decode cM_isZero 25 = .ok (.ifCond .ne 7, 3) := by decide +kernel
theorem dM_isZero_28 : decode cM_isZero 28 = .ok (.iconst 1, 1) := by decide +kernel
theorem dM_isZero_29 : decode cM_isZero 29 = .ok (.goto 4, 3) := by decide +kernel
theorem dM_isZero_32 : decode cM_isZero 32 = .ok (.iconst 0, 1) := by decide +kernel
theorem dM_isZero_33 : decode cM_isZero 33 = .ok (.istore_n 2, 1) := by decide +kernel
theorem dM_isZero_34 : decode cM_isZero 34 = .ok (.iinc 3 1, 3) := by decide +kernel
theorem dM_isZero_37 : decode cM_isZero 37 = .ok (.goto (-33), 3) := by decide +kernel
theorem dM_isZero_40 : decode cM_isZero 40 = .ok (.iload_n 2, 1) := by decide +kernel
theorem dM_isZero_41 : decode cM_isZero 41 = .ok (.ireturn, 1) := by decide +kernel
def yM_plus : MethodName := ⟨RM, "plus", "(II)V"⟩
abbrev cM_plus : ByteArray := prog_5_method_8_code
theorem dM_plus_0 : decode cM_plus 0 = .ok (.iconst 0, 1) := by decide +kernel
theorem dM_plus_1 : decode cM_plus 1 = .ok (.istore_n 3, 1) := by decide +kernel
theorem dM_plus_2 : decode cM_plus 2 = .ok (.iconst 0, 1) := by decide +kernel
theorem dM_plus_3 : decode cM_plus 3 = .ok (.istore 4, 2) := by decide +kernel
theorem dM_plus_5 : decode cM_plus 5 = .ok (.iload 4, 2) := by decide +kernel
theorem dM_plus_7 : decode cM_plus 7 = .ok (.bipush 40, 2) := by decide +kernel
theorem dM_plus_9 : decode cM_plus 9 = .ok (.if_icmp .ge 61, 3) := by decide +kernel
theorem dM_plus_12 : decode cM_plus 12 = .ok (.aload_n 0, 1) := by decide +kernel
theorem dM_plus_13 : decode cM_plus 13 = .ok (.getfield 7, 3) := by decide +kernel
theorem dM_plus_16 : decode cM_plus 16 = .ok (.bipush 40, 2) := by decide +kernel
theorem dM_plus_18 : decode cM_plus 18 = .ok (.iload_n 1, 1) := by decide +kernel
theorem dM_plus_19 : decode cM_plus 19 = .ok (.imul, 1) := by decide +kernel
theorem dM_plus_20 : decode cM_plus 20 = .ok (.iload 4, 2) := by decide +kernel
theorem dM_plus_22 : decode cM_plus 22 = .ok (.iadd, 1) := by decide +kernel
theorem dM_plus_23 : decode cM_plus 23 = .ok (.iaload, 1) := by decide +kernel
theorem dM_plus_24 : decode cM_plus 24 = .ok (.aload_n 0, 1) := by decide +kernel
theorem dM_plus_25 : decode cM_plus 25 = .ok (.getfield 7, 3) := by decide +kernel
theorem dM_plus_28 : decode cM_plus 28 = .ok (.bipush 40, 2) := by decide +kernel
theorem dM_plus_30 : decode cM_plus 30 = .ok (.iload_n 2, 1) := by decide +kernel
theorem dM_plus_31 : decode cM_plus 31 = .ok (.imul, 1) := by decide +kernel
theorem dM_plus_32 : decode cM_plus 32 = .ok (.iload 4, 2) := by decide +kernel
theorem dM_plus_34 : decode cM_plus 34 = .ok (.iadd, 1) := by decide +kernel
theorem dM_plus_35 : decode cM_plus 35 = .ok (.iaload, 1) := by decide +kernel
theorem dM_plus_36 : decode cM_plus 36 = .ok (.iadd, 1) := by decide +kernel
theorem dM_plus_37 : decode cM_plus 37 = .ok (.iload_n 3, 1) := by decide +kernel
theorem dM_plus_38 : decode cM_plus 38 = .ok (.iadd, 1) := by decide +kernel
theorem dM_plus_39 : decode cM_plus 39 = .ok (.istore 5, 2) := by decide +kernel
theorem dM_plus_41 : decode cM_plus 41 = .ok (.aload_n 0, 1) := by decide +kernel
theorem dM_plus_42 : decode cM_plus 42 = .ok (.getfield 7, 3) := by decide +kernel
theorem dM_plus_45 : decode cM_plus 45 = .ok (.bipush 40, 2) := by decide +kernel
theorem dM_plus_47 : decode cM_plus 47 = .ok (.iload_n 1, 1) := by decide +kernel
theorem dM_plus_48 : decode cM_plus 48 = .ok (.imul, 1) := by decide +kernel
theorem dM_plus_49 : decode cM_plus 49 = .ok (.iload 4, 2) := by decide +kernel
theorem dM_plus_51 : decode cM_plus 51 = .ok (.iadd, 1) := by decide +kernel
theorem dM_plus_52 : decode cM_plus 52 = .ok (.iload 5, 2) := by decide +kernel
theorem dM_plus_54 : decode cM_plus 54 = .ok (.ldc 24, 2) := by decide +kernel
theorem dM_plus_56 : decode cM_plus 56 = .ok (.iand, 1) := by decide +kernel
theorem dM_plus_57 : decode cM_plus 57 = .ok (.iastore, 1) := by decide +kernel
theorem dM_plus_58 : decode cM_plus 58 = .ok (.iload 5, 2) := by decide +kernel
theorem dM_plus_60 : decode cM_plus 60 = .ok (.bipush 16, 2) := by decide +kernel
theorem dM_plus_62 : decode cM_plus 62 = .ok (.ishr, 1) := by decide +kernel
theorem dM_plus_63 : decode cM_plus 63 = .ok (.istore_n 3, 1) := by decide +kernel
theorem dM_plus_64 : decode cM_plus 64 = .ok (.iinc 4 1, 3) := by decide +kernel
theorem dM_plus_67 : decode cM_plus 67 = .ok (.goto (-62), 3) := by decide +kernel
theorem dM_plus_70 : decode cM_plus 70 = .ok (.return_, 1) := by decide +kernel
def yM_apart : MethodName := ⟨RM, "apart", "(III)V"⟩
abbrev cM_apart : ByteArray := prog_5_method_9_code
theorem dM_apart_0 : decode cM_apart 0 = .ok (.iconst 0, 1) := by decide +kernel
theorem dM_apart_1 : decode cM_apart 1 = .ok (.istore 4, 2) := by decide +kernel
theorem dM_apart_3 : decode cM_apart 3 = .ok (.iconst 0, 1) := by decide +kernel
theorem dM_apart_4 : decode cM_apart 4 = .ok (.istore 5, 2) := by decide +kernel
theorem dM_apart_6 : decode cM_apart 6 = .ok (.iload 5, 2) := by decide +kernel
theorem dM_apart_8 : decode cM_apart 8 = .ok (.bipush 40, 2) := by decide +kernel
theorem dM_apart_10 : decode cM_apart 10 = .ok (.if_icmp .ge 68, 3) := by decide +kernel
theorem dM_apart_13 : decode cM_apart 13 = .ok (.aload_n 0, 1) := by decide +kernel
theorem dM_apart_14 : decode cM_apart 14 = .ok (.getfield 7, 3) := by decide +kernel
theorem dM_apart_17 : decode cM_apart 17 = .ok (.bipush 40, 2) := by decide +kernel
theorem dM_apart_19 : decode cM_apart 19 = .ok (.iload_n 1, 1) := by decide +kernel
theorem dM_apart_20 : decode cM_apart 20 = .ok (.imul, 1) := by decide +kernel
theorem dM_apart_21 : decode cM_apart 21 = .ok (.iload 5, 2) := by decide +kernel
theorem dM_apart_23 : decode cM_apart 23 = .ok (.iadd, 1) := by decide +kernel
theorem dM_apart_24 : decode cM_apart 24 = .ok (.iaload, 1) := by decide +kernel
theorem dM_apart_25 : decode cM_apart 25 = .ok (.aload_n 0, 1) := by decide +kernel
theorem dM_apart_26 : decode cM_apart 26 = .ok (.getfield 7, 3) := by decide +kernel
theorem dM_apart_29 : decode cM_apart 29 = .ok (.bipush 40, 2) := by decide +kernel
theorem dM_apart_31 : decode cM_apart 31 = .ok (.iload_n 2, 1) := by decide +kernel
theorem dM_apart_32 : decode cM_apart 32 = .ok (.imul, 1) := by decide +kernel
theorem dM_apart_33 : decode cM_apart 33 = .ok (.iload 5, 2) := by decide +kernel
theorem dM_apart_35 : decode cM_apart 35 = .ok (.iadd, 1) := by decide +kernel
theorem dM_apart_36 : decode cM_apart 36 = .ok (.iaload, 1) := by decide +kernel
theorem dM_apart_37 : decode cM_apart 37 = .ok (.isub, 1) := by decide +kernel
theorem dM_apart_38 : decode cM_apart 38 = .ok (.iload 4, 2) := by decide +kernel
theorem dM_apart_40 : decode cM_apart 40 = .ok (.isub, 1) := by decide +kernel
theorem dM_apart_41 : decode cM_apart 41 = .ok (.istore 6, 2) := by decide +kernel
theorem dM_apart_43 : decode cM_apart 43 = .ok (.aload_n 0, 1) := by decide +kernel
theorem dM_apart_44 : decode cM_apart 44 = .ok (.getfield 7, 3) := by decide +kernel
theorem dM_apart_47 : decode cM_apart 47 = .ok (.bipush 40, 2) := by decide +kernel
theorem dM_apart_49 : decode cM_apart 49 = .ok (.iload_n 3, 1) := by decide +kernel
theorem dM_apart_50 : decode cM_apart 50 = .ok (.imul, 1) := by decide +kernel
theorem dM_apart_51 : decode cM_apart 51 = .ok (.iload 5, 2) := by decide +kernel
theorem dM_apart_53 : decode cM_apart 53 = .ok (.iadd, 1) := by decide +kernel
theorem dM_apart_54 : decode cM_apart 54 = .ok (.iload 6, 2) := by decide +kernel
theorem dM_apart_56 : decode cM_apart 56 = .ok (.ldc 24, 2) := by decide +kernel
theorem dM_apart_58 : decode cM_apart 58 = .ok (.iand, 1) := by decide +kernel
theorem dM_apart_59 : decode cM_apart 59 = .ok (.iastore, 1) := by decide +kernel
theorem dM_apart_60 : decode cM_apart 60 = .ok (.iload 6, 2) := by decide +kernel
theorem dM_apart_62 : decode cM_apart 62 = .ok (.ifCond .ge 7, 3) := by decide +kernel
theorem dM_apart_65 : decode cM_apart 65 = .ok (.iconst 1, 1) := by decide +kernel
theorem dM_apart_66 : decode cM_apart 66 = .ok (.goto 4, 3) := by decide +kernel
theorem dM_apart_69 : decode cM_apart 69 = .ok (.iconst 0, 1) := by decide +kernel
theorem dM_apart_70 : decode cM_apart 70 = .ok (.istore 4, 2) := by decide +kernel
theorem dM_apart_72 : decode cM_apart 72 = .ok (.iinc 5 1, 3) := by decide +kernel
theorem dM_apart_75 : decode cM_apart 75 = .ok (.goto (-69), 3) := by decide +kernel
theorem dM_apart_78 : decode cM_apart 78 = .ok (.return_, 1) := by decide +kernel
def yM_times : MethodName := ⟨RM, "times", "(III)V"⟩
abbrev cM_times : ByteArray := prog_5_method_10_code
theorem dM_times_0 : decode cM_times 0 = .ok (.aload_n 0, 1) := by decide +kernel
theorem dM_times_1 : decode cM_times 1 = .ok (.iload_n 3, 1) := by decide +kernel
theorem dM_times_2 : decode cM_times 2 = .ok (.invokevirtual 25, 3) := by decide +kernel
theorem dM_times_5 : decode cM_times 5 = .ok (.iconst 0, 1) := by decide +kernel
theorem dM_times_6 : decode cM_times 6 = .ok (.istore 4, 2) := by decide +kernel
theorem dM_times_8 : decode cM_times 8 = .ok (.iload 4, 2) := by decide +kernel
theorem dM_times_10 : decode cM_times 10 = .ok (.bipush 40, 2) := by decide +kernel
theorem dM_times_12 : decode cM_times 12 = .ok (.if_icmp .ge 120, 3) := by decide +kernel
theorem dM_times_15 : decode cM_times 15 = .ok (.aload_n 0, 1) := by decide +kernel
theorem dM_times_16 : decode cM_times 16 = .ok (.getfield 7, 3) := by decide +kernel
theorem dM_times_19 : decode cM_times 19 = .ok (.bipush 40, 2) := by decide +kernel
theorem dM_times_21 : decode cM_times 21 = .ok (.iload_n 1, 1) := by decide +kernel
theorem dM_times_22 : decode cM_times 22 = .ok (.imul, 1) := by decide +kernel
theorem dM_times_23 : decode cM_times 23 = .ok (.iload 4, 2) := by decide +kernel
theorem dM_times_25 : decode cM_times 25 = .ok (.iadd, 1) := by decide +kernel
theorem dM_times_26 : decode cM_times 26 = .ok (.iaload, 1) := by decide +kernel
theorem dM_times_27 : decode cM_times 27 = .ok (.i2l, 1) := by decide +kernel
theorem dM_times_28 : decode cM_times 28 = .ok (.lstore 5, 2) := by decide +kernel
theorem dM_times_30 : decode cM_times 30 = .ok (.lconst 0, 1) := by decide +kernel
theorem dM_times_31 : decode cM_times 31 = .ok (.lstore 7, 2) := by decide +kernel
theorem dM_times_33 : decode cM_times 33 = .ok (.iconst 0, 1) := by decide +kernel
theorem dM_times_34 : decode cM_times 34 = .ok (.istore 9, 2) := by decide +kernel
theorem dM_times_36 : decode cM_times 36 = .ok (.iload 9, 2) := by decide +kernel
theorem dM_times_38 : decode cM_times 38 = .ok (.bipush 40, 2) := by decide +kernel
theorem dM_times_40 : decode cM_times 40 = .ok (.iload 4, 2) := by decide +kernel
theorem dM_times_42 : decode cM_times 42 = .ok (.isub, 1) := by decide +kernel
theorem dM_times_43 : decode cM_times 43 = .ok (.if_icmp .ge 83, 3) := by decide +kernel
theorem dM_times_46 : decode cM_times 46 = .ok (.lload 5, 2) := by decide +kernel
theorem dM_times_48 : decode cM_times 48 = .ok (.lconst 0, 1) := by decide +kernel
theorem dM_times_49 : decode cM_times 49 = .ok (.lcmp, 1) := by decide +kernel
theorem dM_times_50 : decode cM_times 50 = .ok (.ifCond .eq 76, 3) := by decide +kernel
theorem dM_times_53 : decode cM_times 53 = .ok (.lload 5, 2) := by decide +kernel
theorem dM_times_55 : decode cM_times 55 = .ok (.aload_n 0, 1) := by decide +kernel
theorem dM_times_56 : decode cM_times 56 = .ok (.getfield 7, 3) := by decide +kernel
theorem dM_times_59 : decode cM_times 59 = .ok (.bipush 40, 2) := by decide +kernel
theorem dM_times_61 : decode cM_times 61 = .ok (.iload_n 2, 1) := by decide +kernel
theorem dM_times_62 : decode cM_times 62 = .ok (.imul, 1) := by decide +kernel
theorem dM_times_63 : decode cM_times 63 = .ok (.iload 9, 2) := by decide +kernel
theorem dM_times_65 : decode cM_times 65 = .ok (.iadd, 1) := by decide +kernel
theorem dM_times_66 : decode cM_times 66 = .ok (.iaload, 1) := by decide +kernel
theorem dM_times_67 : decode cM_times 67 = .ok (.i2l, 1) := by decide +kernel
theorem dM_times_68 : decode cM_times 68 = .ok (.lmul, 1) := by decide +kernel
theorem dM_times_69 : decode cM_times 69 = .ok (.aload_n 0, 1) := by decide +kernel
theorem dM_times_70 : decode cM_times 70 = .ok (.getfield 7, 3) := by decide +kernel
theorem dM_times_73 : decode cM_times 73 = .ok (.bipush 40, 2) := by decide +kernel
theorem dM_times_75 : decode cM_times 75 = .ok (.iload_n 3, 1) := by decide +kernel
theorem dM_times_76 : decode cM_times 76 = .ok (.imul, 1) := by decide +kernel
theorem dM_times_77 : decode cM_times 77 = .ok (.iload 4, 2) := by decide +kernel
theorem dM_times_79 : decode cM_times 79 = .ok (.iadd, 1) := by decide +kernel
theorem dM_times_80 : decode cM_times 80 = .ok (.iload 9, 2) := by decide +kernel
theorem dM_times_82 : decode cM_times 82 = .ok (.iadd, 1) := by decide +kernel
theorem dM_times_83 : decode cM_times 83 = .ok (.iaload, 1) := by decide +kernel
theorem dM_times_84 : decode cM_times 84 = .ok (.i2l, 1) := by decide +kernel
theorem dM_times_85 : decode cM_times 85 = .ok (.ladd, 1) := by decide +kernel
theorem dM_times_86 : decode cM_times 86 = .ok (.lload 7, 2) := by decide +kernel
theorem dM_times_88 : decode cM_times 88 = .ok (.ladd, 1) := by decide +kernel
theorem dM_times_89 : decode cM_times 89 = .ok (.lstore 10, 2) := by decide +kernel
theorem dM_times_91 : decode cM_times 91 = .ok (.aload_n 0, 1) := by decide +kernel
theorem dM_times_92 : decode cM_times 92 = .ok (.getfield 7, 3) := by decide +kernel
theorem dM_times_95 : decode cM_times 95 = .ok (.bipush 40, 2) := by decide +kernel
theorem dM_times_97 : decode cM_times 97 = .ok (.iload_n 3, 1) := by decide +kernel
theorem dM_times_98 : decode cM_times 98 = .ok (.imul, 1) := by decide +kernel
theorem dM_times_99 : decode cM_times 99 = .ok (.iload 4, 2) := by decide +kernel
theorem dM_times_101 : decode cM_times 101 = .ok (.iadd, 1) := by decide +kernel
theorem dM_times_102 : decode cM_times 102 = .ok (.iload 9, 2) := by decide +kernel
theorem dM_times_104 : decode cM_times 104 = .ok (.iadd, 1) := by decide +kernel
theorem dM_times_105 : decode cM_times 105 = .ok (.lload 10, 2) := by decide +kernel
theorem dM_times_107 : decode cM_times 107 = .ok (.ldc2_w 29, 3) := by decide +kernel
theorem dM_times_110 : decode cM_times 110 = .ok (.land, 1) := by decide +kernel
theorem dM_times_111 : decode cM_times 111 = .ok (.l2i, 1) := by decide +kernel
theorem dM_times_112 : decode cM_times 112 = .ok (.iastore, 1) := by decide +kernel
theorem dM_times_113 : decode cM_times 113 = .ok (.lload 10, 2) := by decide +kernel
theorem dM_times_115 : decode cM_times 115 = .ok (.bipush 16, 2) := by decide +kernel
theorem dM_times_117 : decode cM_times 117 = .ok (.lshr, 1) := by decide +kernel
theorem dM_times_118 : decode cM_times 118 = .ok (.lstore 7, 2) := by decide +kernel
theorem dM_times_120 : decode cM_times 120 = .ok (.iinc 9 1, 3) := by decide +kernel
theorem dM_times_123 : decode cM_times 123 = .ok (.goto (-87), 3) := by decide +kernel
theorem dM_times_126 : decode cM_times 126 = .ok (.iinc 4 1, 3) := by decide +kernel
theorem dM_times_129 : decode cM_times 129 = .ok (.goto (-121), 3) := by decide +kernel
theorem dM_times_132 : decode cM_times 132 = .ok (.return_, 1) := by decide +kernel
def yM_raise : MethodName := ⟨RM, "raise", "(II)V"⟩
abbrev cM_raise : ByteArray := prog_5_method_11_code
theorem dM_raise_0 : decode cM_raise 0 = .ok (.iload_n 2, 1) := by decide +kernel
theorem dM_raise_1 : decode cM_raise 1 = .ok (.bipush 16, 2) := by decide +kernel
theorem dM_raise_3 : decode cM_raise 3 = .ok (.idiv, 1) := by decide +kernel
theorem dM_raise_4 : decode cM_raise 4 = .ok (.istore_n 3, 1) := by decide +kernel
theorem dM_raise_5 : decode cM_raise 5 = .ok (.iload_n 2, 1) := by decide +kernel
theorem dM_raise_6 : decode cM_raise 6 = .ok (.bipush 16, 2) := by decide +kernel
theorem dM_raise_8 : decode cM_raise 8 = .ok (.irem, 1) := by decide +kernel
theorem dM_raise_9 : decode cM_raise 9 = .ok (.istore 4, 2) := by decide +kernel
theorem dM_raise_11 : decode cM_raise 11 = .ok (.bipush 39, 2) := by decide +kernel
theorem dM_raise_13 : decode cM_raise 13 = .ok (.istore 5, 2) := by decide +kernel
theorem dM_raise_15 : decode cM_raise 15 = .ok (.iload 5, 2) := by decide +kernel
theorem dM_raise_17 : decode cM_raise 17 = .ok (.ifCond .lt 96, 3) := by decide +kernel
theorem dM_raise_20 : decode cM_raise 20 = .ok (.iload 5, 2) := by decide +kernel
theorem dM_raise_22 : decode cM_raise 22 = .ok (.iload_n 3, 1) := by decide +kernel
theorem dM_raise_23 : decode cM_raise 23 = .ok (.isub, 1) := by decide +kernel
theorem dM_raise_24 : decode cM_raise 24 = .ok (.ifCond .lt 20, 3) := by decide +kernel
theorem dM_raise_27 : decode cM_raise 27 = .ok (.aload_n 0, 1) := by decide +kernel
theorem dM_raise_28 : decode cM_raise 28 = .ok (.getfield 7, 3) := by decide +kernel
theorem dM_raise_31 : decode cM_raise 31 = .ok (.bipush 40, 2) := by decide +kernel
theorem dM_raise_33 : decode cM_raise 33 = .ok (.iload_n 1, 1) := by decide +kernel
theorem dM_raise_34 : decode cM_raise 34 = .ok (.imul, 1) := by decide +kernel
theorem dM_raise_35 : decode cM_raise 35 = .ok (.iload 5, 2) := by decide +kernel
theorem dM_raise_37 : decode cM_raise 37 = .ok (.iadd, 1) := by decide +kernel
theorem dM_raise_38 : decode cM_raise 38 = .ok (.iload_n 3, 1) := by decide +kernel
theorem dM_raise_39 : decode cM_raise 39 = .ok (.isub, 1) := by decide +kernel
theorem dM_raise_40 : decode cM_raise 40 = .ok (.iaload, 1) := by decide +kernel
theorem dM_raise_41 : decode cM_raise 41 = .ok (.goto 4, 3) := by decide +kernel
theorem dM_raise_44 : decode cM_raise 44 = .ok (.iconst 0, 1) := by decide +kernel
theorem dM_raise_45 : decode cM_raise 45 = .ok (.istore 6, 2) := by decide +kernel
theorem dM_raise_47 : decode cM_raise 47 = .ok (.iload 5, 2) := by decide +kernel
theorem dM_raise_49 : decode cM_raise 49 = .ok (.iload_n 3, 1) := by decide +kernel
theorem dM_raise_50 : decode cM_raise 50 = .ok (.isub, 1) := by decide +kernel
theorem dM_raise_51 : decode cM_raise 51 = .ok (.iconst 1, 1) := by decide +kernel
theorem dM_raise_52 : decode cM_raise 52 = .ok (.isub, 1) := by decide +kernel
theorem dM_raise_53 : decode cM_raise 53 = .ok (.ifCond .lt 22, 3) := by decide +kernel
theorem dM_raise_56 : decode cM_raise 56 = .ok (.aload_n 0, 1) := by decide +kernel
theorem dM_raise_57 : decode cM_raise 57 = .ok (.getfield 7, 3) := by decide +kernel
theorem dM_raise_60 : decode cM_raise 60 = .ok (.bipush 40, 2) := by decide +kernel
theorem dM_raise_62 : decode cM_raise 62 = .ok (.iload_n 1, 1) := by decide +kernel
theorem dM_raise_63 : decode cM_raise 63 = .ok (.imul, 1) := by decide +kernel
theorem dM_raise_64 : decode cM_raise 64 = .ok (.iload 5, 2) := by decide +kernel
theorem dM_raise_66 : decode cM_raise 66 = .ok (.iadd, 1) := by decide +kernel
theorem dM_raise_67 : decode cM_raise 67 = .ok (.iload_n 3, 1) := by decide +kernel
theorem dM_raise_68 : decode cM_raise 68 = .ok (.isub, 1) := by decide +kernel
theorem dM_raise_69 : decode cM_raise 69 = .ok (.iconst 1, 1) := by decide +kernel
theorem dM_raise_70 : decode cM_raise 70 = .ok (.isub, 1) := by decide +kernel
theorem dM_raise_71 : decode cM_raise 71 = .ok (.iaload, 1) := by decide +kernel
theorem dM_raise_72 : decode cM_raise 72 = .ok (.goto 4, 3) := by decide +kernel
theorem dM_raise_75 : decode cM_raise 75 = .ok (.iconst 0, 1) := by decide +kernel
theorem dM_raise_76 : decode cM_raise 76 = .ok (.istore 7, 2) := by decide +kernel
theorem dM_raise_78 : decode cM_raise 78 = .ok (.aload_n 0, 1) := by decide +kernel
theorem dM_raise_79 : decode cM_raise 79 = .ok (.getfield 7, 3) := by decide +kernel
theorem dM_raise_82 : decode cM_raise 82 = .ok (.bipush 40, 2) := by decide +kernel
theorem dM_raise_84 : decode cM_raise 84 = .ok (.iload_n 1, 1) := by decide +kernel
theorem dM_raise_85 : decode cM_raise 85 = .ok (.imul, 1) := by decide +kernel
theorem dM_raise_86 : decode cM_raise 86 = .ok (.iload 5, 2) := by decide +kernel
theorem dM_raise_88 : decode cM_raise 88 = .ok (.iadd, 1) := by decide +kernel
theorem dM_raise_89 : decode cM_raise 89 = .ok (.iload 6, 2) := by decide +kernel
theorem dM_raise_91 : decode cM_raise 91 = .ok (.iload 4, 2) := by decide +kernel
theorem dM_raise_93 : decode cM_raise 93 = .ok (.ishl, 1) := by decide +kernel
theorem dM_raise_94 : decode cM_raise 94 = .ok (.iload 7, 2) := by decide +kernel
theorem dM_raise_96 : decode cM_raise 96 = .ok (.bipush 16, 2) := by decide +kernel
theorem dM_raise_98 : decode cM_raise 98 = .ok (.iload 4, 2) := by decide +kernel
theorem dM_raise_100 : decode cM_raise 100 = .ok (.isub, 1) := by decide +kernel
theorem dM_raise_101 : decode cM_raise 101 = .ok (.ishr, 1) := by decide +kernel
theorem dM_raise_102 : decode cM_raise 102 = .ok (.ior, 1) := by decide +kernel
theorem dM_raise_103 : decode cM_raise 103 = .ok (.ldc 24, 2) := by decide +kernel
theorem dM_raise_105 : decode cM_raise 105 = .ok (.iand, 1) := by decide +kernel
theorem dM_raise_106 : decode cM_raise 106 = .ok (.iastore, 1) := by decide +kernel
theorem dM_raise_107 : decode cM_raise 107 = .ok (.iinc 5 (-1), 3) := by decide +kernel
theorem dM_raise_110 : decode cM_raise 110 = .ok (.goto (-95), 3) := by decide +kernel
theorem dM_raise_113 : decode cM_raise 113 = .ok (.return_, 1) := by decide +kernel
def yM_lower : MethodName := ⟨RM, "lower", "(II)V"⟩
abbrev cM_lower : ByteArray := prog_5_method_12_code
theorem dM_lower_0 : decode cM_lower 0 = .ok (.iload_n 2, 1) := by decide +kernel
theorem dM_lower_1 : decode cM_lower 1 = .ok (.bipush 16, 2) := by decide +kernel
theorem dM_lower_3 : decode cM_lower 3 = .ok (.idiv, 1) := by decide +kernel
theorem dM_lower_4 : decode cM_lower 4 = .ok (.istore_n 3, 1) := by decide +kernel
theorem dM_lower_5 : decode cM_lower 5 = .ok (.iload_n 2, 1) := by decide +kernel
theorem dM_lower_6 : decode cM_lower 6 = .ok (.bipush 16, 2) := by decide +kernel
theorem dM_lower_8 : decode cM_lower 8 = .ok (.irem, 1) := by decide +kernel
theorem dM_lower_9 : decode cM_lower 9 = .ok (.istore 4, 2) := by decide +kernel
theorem dM_lower_11 : decode cM_lower 11 = .ok (.iconst 0, 1) := by decide +kernel
theorem dM_lower_12 : decode cM_lower 12 = .ok (.istore 5, 2) := by decide +kernel
theorem dM_lower_14 : decode cM_lower 14 = .ok (.iload 5, 2) := by decide +kernel
theorem dM_lower_16 : decode cM_lower 16 = .ok (.bipush 40, 2) := by decide +kernel
theorem dM_lower_18 : decode cM_lower 18 = .ok (.if_icmp .ge 100, 3) := by decide +kernel
theorem dM_lower_21 : decode cM_lower 21 = .ok (.iload 5, 2) := by decide +kernel
theorem dM_lower_23 : decode cM_lower 23 = .ok (.iload_n 3, 1) := by decide +kernel
theorem dM_lower_24 : decode cM_lower 24 = .ok (.iadd, 1) := by decide +kernel
theorem dM_lower_25 : decode cM_lower 25 = .ok (.bipush 40, 2) := by decide +kernel
theorem dM_lower_27 : decode cM_lower 27 = .ok (.if_icmp .ge 20, 3) := by decide +kernel
theorem dM_lower_30 : decode cM_lower 30 = .ok (.aload_n 0, 1) := by decide +kernel
theorem dM_lower_31 : decode cM_lower 31 = .ok (.getfield 7, 3) := by decide +kernel
theorem dM_lower_34 : decode cM_lower 34 = .ok (.bipush 40, 2) := by decide +kernel
theorem dM_lower_36 : decode cM_lower 36 = .ok (.iload_n 1, 1) := by decide +kernel
theorem dM_lower_37 : decode cM_lower 37 = .ok (.imul, 1) := by decide +kernel
theorem dM_lower_38 : decode cM_lower 38 = .ok (.iload 5, 2) := by decide +kernel
theorem dM_lower_40 : decode cM_lower 40 = .ok (.iadd, 1) := by decide +kernel
theorem dM_lower_41 : decode cM_lower 41 = .ok (.iload_n 3, 1) := by decide +kernel
theorem dM_lower_42 : decode cM_lower 42 = .ok (.iadd, 1) := by decide +kernel
theorem dM_lower_43 : decode cM_lower 43 = .ok (.iaload, 1) := by decide +kernel
theorem dM_lower_44 : decode cM_lower 44 = .ok (.goto 4, 3) := by decide +kernel
theorem dM_lower_47 : decode cM_lower 47 = .ok (.iconst 0, 1) := by decide +kernel
theorem dM_lower_48 : decode cM_lower 48 = .ok (.istore 6, 2) := by decide +kernel
theorem dM_lower_50 : decode cM_lower 50 = .ok (.iload 5, 2) := by decide +kernel
theorem dM_lower_52 : decode cM_lower 52 = .ok (.iload_n 3, 1) := by decide +kernel
theorem dM_lower_53 : decode cM_lower 53 = .ok (.iadd, 1) := by decide +kernel
theorem dM_lower_54 : decode cM_lower 54 = .ok (.iconst 1, 1) := by decide +kernel
theorem dM_lower_55 : decode cM_lower 55 = .ok (.iadd, 1) := by decide +kernel
theorem dM_lower_56 : decode cM_lower 56 = .ok (.bipush 40, 2) := by decide +kernel
theorem dM_lower_58 : decode cM_lower 58 = .ok (.if_icmp .ge 22, 3) := by decide +kernel
theorem dM_lower_61 : decode cM_lower 61 = .ok (.aload_n 0, 1) := by decide +kernel
theorem dM_lower_62 : decode cM_lower 62 = .ok (.getfield 7, 3) := by decide +kernel
theorem dM_lower_65 : decode cM_lower 65 = .ok (.bipush 40, 2) := by decide +kernel
theorem dM_lower_67 : decode cM_lower 67 = .ok (.iload_n 1, 1) := by decide +kernel
theorem dM_lower_68 : decode cM_lower 68 = .ok (.imul, 1) := by decide +kernel
theorem dM_lower_69 : decode cM_lower 69 = .ok (.iload 5, 2) := by decide +kernel
theorem dM_lower_71 : decode cM_lower 71 = .ok (.iadd, 1) := by decide +kernel
theorem dM_lower_72 : decode cM_lower 72 = .ok (.iload_n 3, 1) := by decide +kernel
theorem dM_lower_73 : decode cM_lower 73 = .ok (.iadd, 1) := by decide +kernel
theorem dM_lower_74 : decode cM_lower 74 = .ok (.iconst 1, 1) := by decide +kernel
theorem dM_lower_75 : decode cM_lower 75 = .ok (.iadd, 1) := by decide +kernel
theorem dM_lower_76 : decode cM_lower 76 = .ok (.iaload, 1) := by decide +kernel
theorem dM_lower_77 : decode cM_lower 77 = .ok (.goto 4, 3) := by decide +kernel
theorem dM_lower_80 : decode cM_lower 80 = .ok (.iconst 0, 1) := by decide +kernel
theorem dM_lower_81 : decode cM_lower 81 = .ok (.istore 7, 2) := by decide +kernel
theorem dM_lower_83 : decode cM_lower 83 = .ok (.aload_n 0, 1) := by decide +kernel
theorem dM_lower_84 : decode cM_lower 84 = .ok (.getfield 7, 3) := by decide +kernel
theorem dM_lower_87 : decode cM_lower 87 = .ok (.bipush 40, 2) := by decide +kernel
theorem dM_lower_89 : decode cM_lower 89 = .ok (.iload_n 1, 1) := by decide +kernel
theorem dM_lower_90 : decode cM_lower 90 = .ok (.imul, 1) := by decide +kernel
theorem dM_lower_91 : decode cM_lower 91 = .ok (.iload 5, 2) := by decide +kernel
theorem dM_lower_93 : decode cM_lower 93 = .ok (.iadd, 1) := by decide +kernel
theorem dM_lower_94 : decode cM_lower 94 = .ok (.iload 6, 2) := by decide +kernel
theorem dM_lower_96 : decode cM_lower 96 = .ok (.iload 4, 2) := by decide +kernel
theorem dM_lower_98 : decode cM_lower 98 = .ok (.ishr, 1) := by decide +kernel
theorem dM_lower_99 : decode cM_lower 99 = .ok (.iload 7, 2) := by decide +kernel
theorem dM_lower_101 : decode cM_lower 101 = .ok (.bipush 16, 2) := by decide +kernel
theorem dM_lower_103 : decode cM_lower 103 = .ok (.iload 4, 2) := by decide +kernel
theorem dM_lower_105 : decode cM_lower 105 = .ok (.isub, 1) := by decide +kernel
theorem dM_lower_106 : decode cM_lower 106 = .ok (.ishl, 1) := by decide +kernel
theorem dM_lower_107 : decode cM_lower 107 = .ok (.ior, 1) := by decide +kernel
theorem dM_lower_108 : decode cM_lower 108 = .ok (.ldc 24, 2) := by decide +kernel
theorem dM_lower_110 : decode cM_lower 110 = .ok (.iand, 1) := by decide +kernel
theorem dM_lower_111 : decode cM_lower 111 = .ok (.iastore, 1) := by decide +kernel
theorem dM_lower_112 : decode cM_lower 112 = .ok (.iinc 5 1, 3) := by decide +kernel
theorem dM_lower_115 : decode cM_lower 115 = .ok (.goto (-101), 3) := by decide +kernel
theorem dM_lower_118 : decode cM_lower 118 = .ok (.return_, 1) := by decide +kernel
def yM_bit : MethodName := ⟨RM, "bit", "(II)I"⟩
abbrev cM_bit : ByteArray := prog_5_method_13_code
theorem dM_bit_0 : decode cM_bit 0 = .ok (.aload_n 0, 1) := by decide +kernel
theorem dM_bit_1 : decode cM_bit 1 = .ok (.getfield 7, 3) := by decide +kernel
theorem dM_bit_4 : decode cM_bit 4 = .ok (.bipush 40, 2) := by decide +kernel
theorem dM_bit_6 : decode cM_bit 6 = .ok (.iload_n 1, 1) := by decide +kernel
theorem dM_bit_7 : decode cM_bit 7 = .ok (.imul, 1) := by decide +kernel
theorem dM_bit_8 : decode cM_bit 8 = .ok (.iload_n 2, 1) := by decide +kernel
theorem dM_bit_9 : decode cM_bit 9 = .ok (.bipush 16, 2) := by decide +kernel
theorem dM_bit_11 : decode cM_bit 11 = .ok (.idiv, 1) := by decide +kernel
theorem dM_bit_12 : decode cM_bit 12 = .ok (.iadd, 1) := by decide +kernel
theorem dM_bit_13 : decode cM_bit 13 = .ok (.iaload, 1) := by decide +kernel
theorem dM_bit_14 : decode cM_bit 14 = .ok (.iload_n 2, 1) := by decide +kernel
theorem dM_bit_15 : decode cM_bit 15 = .ok (.bipush 16, 2) := by decide +kernel
theorem dM_bit_17 : decode cM_bit 17 = .ok (.irem, 1) := by decide +kernel
theorem dM_bit_18 : decode cM_bit 18 = .ok (.ishr, 1) := by decide +kernel
theorem dM_bit_19 : decode cM_bit 19 = .ok (.iconst 1, 1) := by decide +kernel
theorem dM_bit_20 : decode cM_bit 20 = .ok (.iand, 1) := by decide +kernel
theorem dM_bit_21 : decode cM_bit 21 = .ok (.ireturn, 1) := by decide +kernel
def yM_setLong : MethodName := ⟨RM, "setLong", "(IJ)V"⟩
abbrev cM_setLong : ByteArray := prog_5_method_14_code
theorem dM_setLong_0 : decode cM_setLong 0 = .ok (.aload_n 0, 1) := by decide +kernel
theorem dM_setLong_1 : decode cM_setLong 1 = .ok (.iload_n 1, 1) := by decide +kernel
theorem dM_setLong_2 : decode cM_setLong 2 = .ok (.invokevirtual 25, 3) := by decide +kernel
theorem dM_setLong_5 : decode cM_setLong 5 = .ok (.iconst 0, 1) := by decide +kernel
theorem dM_setLong_6 : decode cM_setLong 6 = .ok (.istore 4, 2) := by decide +kernel
theorem dM_setLong_8 : decode cM_setLong 8 = .ok (.iload 4, 2) := by decide +kernel
theorem dM_setLong_10 : decode cM_setLong 10 = .ok (.iconst 4, 1) := by decide +kernel
theorem dM_setLong_11 : decode cM_setLong 11 = .ok (.if_icmp .ge 33, 3) := by decide +kernel
theorem dM_setLong_14 : decode cM_setLong 14 = .ok (.aload_n 0, 1) := by decide +kernel
theorem dM_setLong_15 : decode cM_setLong 15 = .ok (.getfield 7, 3) := by decide +kernel
theorem dM_setLong_18 : decode cM_setLong 18 = .ok (.bipush 40, 2) := by decide +kernel
theorem dM_setLong_20 : decode cM_setLong 20 = .ok (.iload_n 1, 1) := by decide +kernel
theorem dM_setLong_21 : decode cM_setLong 21 = .ok (.imul, 1) := by decide +kernel
theorem dM_setLong_22 : decode cM_setLong 22 = .ok (.iload 4, 2) := by decide +kernel
theorem dM_setLong_24 : decode cM_setLong 24 = .ok (.iadd, 1) := by decide +kernel
theorem dM_setLong_25 : decode cM_setLong 25 = .ok (.lload_n 2, 1) := by decide +kernel
theorem dM_setLong_26 : decode cM_setLong 26 = .ok (.bipush 16, 2) := by decide +kernel
theorem dM_setLong_28 : decode cM_setLong 28 = .ok (.iload 4, 2) := by decide +kernel
theorem dM_setLong_30 : decode cM_setLong 30 = .ok (.imul, 1) := by decide +kernel
theorem dM_setLong_31 : decode cM_setLong 31 = .ok (.lshr, 1) := by decide +kernel
theorem dM_setLong_32 : decode cM_setLong 32 = .ok (.ldc2_w 29, 3) := by decide +kernel
theorem dM_setLong_35 : decode cM_setLong 35 = .ok (.land, 1) := by decide +kernel
theorem dM_setLong_36 : decode cM_setLong 36 = .ok (.l2i, 1) := by decide +kernel
theorem dM_setLong_37 : decode cM_setLong 37 = .ok (.iastore, 1) := by decide +kernel
theorem dM_setLong_38 : decode cM_setLong 38 = .ok (.iinc 4 1, 3) := by decide +kernel
theorem dM_setLong_41 : decode cM_setLong 41 = .ok (.goto (-33), 3) := by decide +kernel
theorem dM_setLong_44 : decode cM_setLong 44 = .ok (.return_, 1) := by decide +kernel
def yM_value : MethodName := ⟨RM, "value", "(IJII)V"⟩
abbrev cM_value : ByteArray := prog_5_method_15_code
theorem dM_value_0 : decode cM_value 0 = .ok (.iload 4, 2) := by decide +kernel
theorem dM_value_2 : decode cM_value 2 = .ok (.iconst 2, 1) := by decide +kernel
theorem dM_value_3 : decode cM_value 3 = .ok (.isub, 1) := by decide +kernel
theorem dM_value_4 : decode cM_value 4 = .ok (.istore 6, 2) := by decide +kernel
theorem dM_value_6 : decode cM_value 6 = .ok (.lload_n 2, 1) := by decide +kernel
theorem dM_value_7 : decode cM_value 7 = .ok (.iload 6, 2) := by decide +kernel
theorem dM_value_9 : decode cM_value 9 = .ok (.lshr, 1) := by decide +kernel
theorem dM_value_10 : decode cM_value 10 = .ok (.lconst 1, 1) := by decide +kernel
theorem dM_value_11 : decode cM_value 11 = .ok (.land, 1) := by decide +kernel
theorem dM_value_12 : decode cM_value 12 = .ok (.lstore 7, 2) := by decide +kernel
theorem dM_value_14 : decode cM_value 14 = .ok (.iconst 0, 1) := by decide +kernel
theorem dM_value_15 : decode cM_value 15 = .ok (.istore 9, 2) := by decide +kernel
theorem dM_value_17 : decode cM_value 17 = .ok (.iload 6, 2) := by decide +kernel
theorem dM_value_19 : decode cM_value 19 = .ok (.ifCond .lt 24, 3) := by decide +kernel
theorem dM_value_22 : decode cM_value 22 = .ok (.lload_n 2, 1) := by decide +kernel
theorem dM_value_23 : decode cM_value 23 = .ok (.iload 6, 2) := by decide +kernel
theorem dM_value_25 : decode cM_value 25 = .ok (.lshr, 1) := by decide +kernel
theorem dM_value_26 : decode cM_value 26 = .ok (.lconst 1, 1) := by decide +kernel
theorem dM_value_27 : decode cM_value 27 = .ok (.land, 1) := by decide +kernel
theorem dM_value_28 : decode cM_value 28 = .ok (.lload 7, 2) := by decide +kernel
theorem dM_value_30 : decode cM_value 30 = .ok (.lcmp, 1) := by decide +kernel
theorem dM_value_31 : decode cM_value 31 = .ok (.ifCond .ne 12, 3) := by decide +kernel
theorem dM_value_34 : decode cM_value 34 = .ok (.iinc 9 1, 3) := by decide +kernel
theorem dM_value_37 : decode cM_value 37 = .ok (.iinc 6 (-1), 3) := by decide +kernel
theorem dM_value_40 : decode cM_value 40 = .ok (.goto (-23), 3) := by decide +kernel
theorem dM_value_43 : decode cM_value 43 = .ok (.lload 7, 2) := by decide +kernel
theorem dM_value_45 : decode cM_value 45 = .ok (.lconst 1, 1) := by decide +kernel
theorem dM_value_46 : decode cM_value 46 = .ok (.lcmp, 1) := by decide +kernel
theorem dM_value_47 : decode cM_value 47 = .ok (.ifCond .ne 10, 3) := by decide +kernel
theorem dM_value_50 : decode cM_value 50 = .ok (.iload 9, 2) := by decide +kernel
theorem dM_value_52 : decode cM_value 52 = .ok (.iconst 1, 1) := by decide +kernel
theorem dM_value_53 : decode cM_value 53 = .ok (.isub, 1) := by decide +kernel
theorem dM_value_54 : decode cM_value 54 = .ok (.goto 6, 3) := by decide +kernel
theorem dM_value_57 : decode cM_value 57 = .ok (.iload 9, 2) := by decide +kernel
theorem dM_value_59 : decode cM_value 59 = .ok (.ineg, 1) := by decide +kernel
theorem dM_value_60 : decode cM_value 60 = .ok (.istore 10, 2) := by decide +kernel
theorem dM_value_62 : decode cM_value 62 = .ok (.iinc 6 (-1), 3) := by decide +kernel
theorem dM_value_65 : decode cM_value 65 = .ok (.iload 6, 2) := by decide +kernel
theorem dM_value_67 : decode cM_value 67 = .ok (.ifCond .lt 15, 3) := by decide +kernel
theorem dM_value_70 : decode cM_value 70 = .ok (.iconst 2, 1) := by decide +kernel
theorem dM_value_71 : decode cM_value 71 = .ok (.lload_n 2, 1) := by decide +kernel
theorem dM_value_72 : decode cM_value 72 = .ok (.iload 6, 2) := by decide +kernel
theorem dM_value_74 : decode cM_value 74 = .ok (.lshr, 1) := by decide +kernel
theorem dM_value_75 : decode cM_value 75 = .ok (.lconst 1, 1) := by decide +kernel
theorem dM_value_76 : decode cM_value 76 = .ok (.land, 1) := by decide +kernel
theorem dM_value_77 : decode cM_value 77 = .ok (.l2i, 1) := by decide +kernel
theorem dM_value_78 : decode cM_value 78 = .ok (.imul, 1) := by decide +kernel
theorem dM_value_79 : decode cM_value 79 = .ok (.goto 4, 3) := by decide +kernel
theorem dM_value_82 : decode cM_value 82 = .ok (.iconst 0, 1) := by decide +kernel
theorem dM_value_83 : decode cM_value 83 = .ok (.iload 6, 2) := by decide +kernel
theorem dM_value_85 : decode cM_value 85 = .ok (.iconst 1, 1) := by decide +kernel
theorem dM_value_86 : decode cM_value 86 = .ok (.if_icmp .lt 15, 3) := by decide +kernel
theorem dM_value_89 : decode cM_value 89 = .ok (.lload_n 2, 1) := by decide +kernel
theorem dM_value_90 : decode cM_value 90 = .ok (.iload 6, 2) := by decide +kernel
theorem dM_value_92 : decode cM_value 92 = .ok (.iconst 1, 1) := by decide +kernel
theorem dM_value_93 : decode cM_value 93 = .ok (.isub, 1) := by decide +kernel
theorem dM_value_94 : decode cM_value 94 = .ok (.lshr, 1) := by decide +kernel
theorem dM_value_95 : decode cM_value 95 = .ok (.lconst 1, 1) := by decide +kernel
theorem dM_value_96 : decode cM_value 96 = .ok (.land, 1) := by decide +kernel
theorem dM_value_97 : decode cM_value 97 = .ok (.l2i, 1) := by decide +kernel
theorem dM_value_98 : decode cM_value 98 = .ok (.goto 4, 3) := by decide +kernel
theorem dM_value_101 : decode cM_value 101 = .ok (.iconst 0, 1) := by decide +kernel
theorem dM_value_102 : decode cM_value 102 = .ok (.iadd, 1) := by decide +kernel
theorem dM_value_103 : decode cM_value 103 = .ok (.istore 11, 2) := by decide +kernel
theorem dM_value_105 : decode cM_value 105 = .ok (.iinc 6 (-2), 3) := by decide +kernel
theorem dM_value_108 : decode cM_value 108 = .ok (.iload 6, 2) := by decide +kernel
theorem dM_value_110 : decode cM_value 110 = .ok (.ifCond .lt 10, 3) := by decide +kernel
theorem dM_value_113 : decode cM_value 113 = .ok (.iload 6, 2) := by decide +kernel
theorem dM_value_115 : decode cM_value 115 = .ok (.iconst 1, 1) := by decide +kernel
theorem dM_value_116 : decode cM_value 116 = .ok (.iadd, 1) := by decide +kernel
theorem dM_value_117 : decode cM_value 117 = .ok (.goto 4, 3) := by decide +kernel
theorem dM_value_120 : decode cM_value 120 = .ok (.iconst 0, 1) := by decide +kernel
theorem dM_value_121 : decode cM_value 121 = .ok (.istore 12, 2) := by decide +kernel
theorem dM_value_123 : decode cM_value 123 = .ok (.aload_n 0, 1) := by decide +kernel
theorem dM_value_124 : decode cM_value 124 = .ok (.iload_n 1, 1) := by decide +kernel
theorem dM_value_125 : decode cM_value 125 = .ok (.lconst 1, 1) := by decide +kernel
theorem dM_value_126 : decode cM_value 126 = .ok (.iload 12, 2) := by decide +kernel
theorem dM_value_128 : decode cM_value 128 = .ok (.lshl, 1) := by decide +kernel
theorem dM_value_129 : decode cM_value 129 = .ok (.lload_n 2, 1) := by decide +kernel
theorem dM_value_130 : decode cM_value 130 = .ok (.lconst 1, 1) := by decide +kernel
theorem dM_value_131 : decode cM_value 131 = .ok (.iload 12, 2) := by decide +kernel
theorem dM_value_133 : decode cM_value 133 = .ok (.lshl, 1) := by decide +kernel
theorem dM_value_134 : decode cM_value 134 = .ok (.lconst 1, 1) := by decide +kernel
theorem dM_value_135 : decode cM_value 135 = .ok (.lsub, 1) := by decide +kernel
theorem dM_value_136 : decode cM_value 136 = .ok (.land, 1) := by decide +kernel
theorem dM_value_137 : decode cM_value 137 = .ok (.ladd, 1) := by decide +kernel
theorem dM_value_138 : decode cM_value 138 = .ok (.invokevirtual 31, 3) := by decide +kernel
theorem dM_value_141 : decode cM_value 141 = .ok (.iconst 4, 1) := by decide +kernel
theorem dM_value_142 : decode cM_value 142 = .ok (.iload 10, 2) := by decide +kernel
theorem dM_value_144 : decode cM_value 144 = .ok (.imul, 1) := by decide +kernel
theorem dM_value_145 : decode cM_value 145 = .ok (.iload 11, 2) := by decide +kernel
theorem dM_value_147 : decode cM_value 147 = .ok (.iadd, 1) := by decide +kernel
theorem dM_value_148 : decode cM_value 148 = .ok (.iload 12, 2) := by decide +kernel
theorem dM_value_150 : decode cM_value 150 = .ok (.isub, 1) := by decide +kernel
theorem dM_value_151 : decode cM_value 151 = .ok (.iload 5, 2) := by decide +kernel
theorem dM_value_153 : decode cM_value 153 = .ok (.iadd, 1) := by decide +kernel
theorem dM_value_154 : decode cM_value 154 = .ok (.istore 13, 2) := by decide +kernel
theorem dM_value_156 : decode cM_value 156 = .ok (.iload 13, 2) := by decide +kernel
theorem dM_value_158 : decode cM_value 158 = .ok (.ifCond .lt 13, 3) := by decide +kernel
theorem dM_value_161 : decode cM_value 161 = .ok (.aload_n 0, 1) := by decide +kernel
theorem dM_value_162 : decode cM_value 162 = .ok (.iload_n 1, 1) := by decide +kernel
theorem dM_value_163 : decode cM_value 163 = .ok (.iload 13, 2) := by decide +kernel
theorem dM_value_165 : decode cM_value 165 = .ok (.invokevirtual 35, 3) := by decide +kernel
theorem dM_value_168 : decode cM_value 168 = .ok (.goto 11, 3) := by decide +kernel
theorem dM_value_171 : decode cM_value 171 = .ok (.aload_n 0, 1) := by decide +kernel
theorem dM_value_172 : decode cM_value 172 = .ok (.iload_n 1, 1) := by decide +kernel
theorem dM_value_173 : decode cM_value 173 = .ok (.iload 13, 2) := by decide +kernel
theorem dM_value_175 : decode cM_value 175 = .ok (.ineg, 1) := by decide +kernel
theorem dM_value_176 : decode cM_value 176 = .ok (.invokevirtual 39, 3) := by decide +kernel
theorem dM_value_179 : decode cM_value 179 = .ok (.return_, 1) := by decide +kernel
def yM_pattern : MethodName := ⟨RM, "pattern", "(I)I"⟩
abbrev cM_pattern : ByteArray := prog_5_method_16_code
theorem dM_pattern_0 : decode cM_pattern 0 = .ok (.aload_n 0, 1) := by decide +kernel
theorem dM_pattern_1 : decode cM_pattern 1 = .ok (.getfield 20, 3) := by decide +kernel
theorem dM_pattern_4 : decode cM_pattern 4 = .ok (.bipush 32, 2) := by decide +kernel
theorem dM_pattern_6 : decode cM_pattern 6 = .ok (.if_icmp .ne 7, 3) := by decide +kernel
theorem dM_pattern_9 : decode cM_pattern 9 = .ok (.iload_n 1, 1) := by decide +kernel
theorem dM_pattern_10 : decode cM_pattern 10 = .ok (.goto 19, 3) := by decide +kernel
theorem dM_pattern_13 : decode cM_pattern 13 = .ok (.aload_n 0, 1) := by decide +kernel
theorem dM_pattern_14 : decode cM_pattern 14 = .ok (.getfield 20, 3) := by decide +kernel
theorem dM_pattern_17 : decode cM_pattern 17 = .ok (.bipush 16, 2) := by decide +kernel
theorem dM_pattern_19 : decode cM_pattern 19 = .ok (.if_icmp .ne 8, 3) := by decide +kernel
theorem dM_pattern_22 : decode cM_pattern 22 = .ok (.iload_n 1, 1) := by decide +kernel
theorem dM_pattern_23 : decode cM_pattern 23 = .ok (.i2s, 1) := by decide +kernel
theorem dM_pattern_24 : decode cM_pattern 24 = .ok (.goto 5, 3) := by decide +kernel
theorem dM_pattern_27 : decode cM_pattern 27 = .ok (.iload_n 1, 1) := by decide +kernel
theorem dM_pattern_28 : decode cM_pattern 28 = .ok (.i2b, 1) := by decide +kernel
theorem dM_pattern_29 : decode cM_pattern 29 = .ok (.ireturn, 1) := by decide +kernel
def yM_not : MethodName := ⟨RM, "not", "(I)I"⟩
abbrev cM_not : ByteArray := prog_5_method_17_code
theorem dM_not_0 : decode cM_not 0 = .ok (.iconst (-1), 1) := by decide +kernel
theorem dM_not_1 : decode cM_not 1 = .ok (.iload_n 0, 1) := by decide +kernel
theorem dM_not_2 : decode cM_not 2 = .ok (.iconst 1, 1) := by decide +kernel
theorem dM_not_3 : decode cM_not 3 = .ok (.isub, 1) := by decide +kernel
theorem dM_not_4 : decode cM_not 4 = .ok (.ishl, 1) := by decide +kernel
theorem dM_not_5 : decode cM_not 5 = .ok (.ireturn, 1) := by decide +kernel
def yM_isNot : MethodName := ⟨RM, "isNot", "(I)Z"⟩
abbrev cM_isNot : ByteArray := prog_5_method_18_code
theorem dM_isNot_0 : decode cM_isNot 0 = .ok (.aload_n 0, 1) := by decide +kernel
theorem dM_isNot_1 : decode cM_isNot 1 = .ok (.iload_n 1, 1) := by decide +kernel
theorem dM_isNot_2 : decode cM_isNot 2 = .ok (.invokevirtual 42, 3) := by decide +kernel
theorem dM_isNot_5 : decode cM_isNot 5 = .ok (.aload_n 0, 1) := by decide +kernel
theorem dM_isNot_6 : decode cM_isNot 6 = .ok (.getfield 20, 3) := by decide +kernel
theorem dM_isNot_9 : decode cM_isNot 9 = .ok (.invokestatic 45, 3) := by decide +kernel
theorem dM_isNot_12 : decode cM_isNot 12 = .ok (.if_icmp .ne 7, 3) := by decide +kernel
theorem dM_isNot_15 : decode cM_isNot 15 = .ok (.iconst 1, 1) := by decide +kernel
theorem dM_isNot_16 : decode cM_isNot 16 = .ok (.goto 4, 3) := by decide +kernel
theorem dM_isNot_19 : decode cM_isNot 19 = .ok (.iconst 0, 1) := by decide +kernel
theorem dM_isNot_20 : decode cM_isNot 20 = .ok (.ireturn, 1) := by decide +kernel
def yM_negative : MethodName := ⟨RM, "negative", "(I)Z"⟩
abbrev cM_negative : ByteArray := prog_5_method_19_code
theorem dM_negative_0 : decode cM_negative 0 = .ok (.aload_n 0, 1) := by decide +kernel
theorem dM_negative_1 : decode cM_negative 1 = .ok (.iload_n 1, 1) := by decide +kernel
theorem dM_negative_2 : decode cM_negative 2 = .ok (.invokevirtual 42, 3) := by decide +kernel
theorem dM_negative_5 : decode cM_negative 5 = .ok (.ifCond .ge 7, 3) := by decide +kernel
theorem dM_negative_8 : decode cM_negative 8 = .ok (.iconst 1, 1) := by decide +kernel
theorem dM_negative_9 : decode cM_negative 9 = .ok (.goto 4, 3) := by decide +kernel
theorem dM_negative_12 : decode cM_negative 12 = .ok (.iconst 0, 1) := by decide +kernel
theorem dM_negative_13 : decode cM_negative 13 = .ok (.ireturn, 1) := by decide +kernel
def yM_load : MethodName := ⟨RM, "load", "(III)V"⟩
abbrev cM_load : ByteArray := prog_5_method_20_code
theorem dM_load_0 : decode cM_load 0 = .ok (.aload_n 0, 1) := by decide +kernel
theorem dM_load_1 : decode cM_load 1 = .ok (.iload_n 2, 1) := by decide +kernel
theorem dM_load_2 : decode cM_load 2 = .ok (.invokevirtual 42, 3) := by decide +kernel
theorem dM_load_5 : decode cM_load 5 = .ok (.i2l, 1) := by decide +kernel
theorem dM_load_6 : decode cM_load 6 = .ok (.lstore 4, 2) := by decide +kernel
theorem dM_load_8 : decode cM_load 8 = .ok (.lload 4, 2) := by decide +kernel
theorem dM_load_10 : decode cM_load 10 = .ok (.lconst 0, 1) := by decide +kernel
theorem dM_load_11 : decode cM_load 11 = .ok (.lcmp, 1) := by decide +kernel
theorem dM_load_12 : decode cM_load 12 = .ok (.ifCond .ne 11, 3) := by decide +kernel
theorem dM_load_15 : decode cM_load 15 = .ok (.aload_n 0, 1) := by decide +kernel
theorem dM_load_16 : decode cM_load 16 = .ok (.iload_n 1, 1) := by decide +kernel
theorem dM_load_17 : decode cM_load 17 = .ok (.invokevirtual 25, 3) := by decide +kernel
theorem dM_load_20 : decode cM_load 20 = .ok (.goto 28, 3) := by decide +kernel
theorem dM_load_23 : decode cM_load 23 = .ok (.aload_n 0, 1) := by decide +kernel
theorem dM_load_24 : decode cM_load 24 = .ok (.iload_n 1, 1) := by decide +kernel
theorem dM_load_25 : decode cM_load 25 = .ok (.lload 4, 2) := by decide +kernel
theorem dM_load_27 : decode cM_load 27 = .ok (.lconst 0, 1) := by decide +kernel
theorem dM_load_28 : decode cM_load 28 = .ok (.lcmp, 1) := by decide +kernel
theorem dM_load_29 : decode cM_load 29 = .ok (.ifCond .ge 9, 3) := by decide +kernel
theorem dM_load_32 : decode cM_load 32 = .ok (.lload 4, 2) := by decide +kernel
theorem dM_load_34 : decode cM_load 34 = .ok (.lneg, 1) := by decide +kernel
theorem dM_load_35 : decode cM_load 35 = .ok (.goto 5, 3) := by decide +kernel
theorem dM_load_38 : decode cM_load 38 = .ok (.lload 4, 2) := by decide +kernel
theorem dM_load_40 : decode cM_load 40 = .ok (.aload_n 0, 1) := by decide +kernel
theorem dM_load_41 : decode cM_load 41 = .ok (.getfield 20, 3) := by decide +kernel
theorem dM_load_44 : decode cM_load 44 = .ok (.iload_n 3, 1) := by decide +kernel
theorem dM_load_45 : decode cM_load 45 = .ok (.invokevirtual 48, 3) := by decide +kernel
theorem dM_load_48 : decode cM_load 48 = .ok (.return_, 1) := by decide +kernel
def yM_factor : MethodName := ⟨RM, "factor", "(I)V"⟩
abbrev cM_factor : ByteArray := prog_5_method_21_code
theorem dM_factor_0 : decode cM_factor 0 = .ok (.aload_n 0, 1) := by decide +kernel
theorem dM_factor_1 : decode cM_factor 1 = .ok (.iconst 0, 1) := by decide +kernel
theorem dM_factor_2 : decode cM_factor 2 = .ok (.putfield 52, 3) := by decide +kernel
theorem dM_factor_5 : decode cM_factor 5 = .ok (.aload_n 0, 1) := by decide +kernel
theorem dM_factor_6 : decode cM_factor 6 = .ok (.iconst 4, 1) := by decide +kernel
theorem dM_factor_7 : decode cM_factor 7 = .ok (.lconst 1, 1) := by decide +kernel
theorem dM_factor_8 : decode cM_factor 8 = .ok (.invokevirtual 31, 3) := by decide +kernel
theorem dM_factor_11 : decode cM_factor 11 = .ok (.aload_n 0, 1) := by decide +kernel
theorem dM_factor_12 : decode cM_factor 12 = .ok (.iconst 4, 1) := by decide +kernel
theorem dM_factor_13 : decode cM_factor 13 = .ok (.iload_n 1, 1) := by decide +kernel
theorem dM_factor_14 : decode cM_factor 14 = .ok (.invokevirtual 35, 3) := by decide +kernel
theorem dM_factor_17 : decode cM_factor 17 = .ok (.return_, 1) := by decide +kernel
def yM_against : MethodName := ⟨RM, "against", "(JI)I"⟩
abbrev cM_against : ByteArray := prog_5_method_22_code
theorem dM_against_0 : decode cM_against 0 = .ok (.aload_n 0, 1) := by decide +kernel
theorem dM_against_1 : decode cM_against 1 = .ok (.iconst 2, 1) := by decide +kernel
theorem dM_against_2 : decode cM_against 2 = .ok (.lload_n 1, 1) := by decide +kernel
theorem dM_against_3 : decode cM_against 3 = .ok (.iload_n 3, 1) := by decide +kernel
theorem dM_against_4 : decode cM_against 4 = .ok (.bipush 124, 2) := by decide +kernel
theorem dM_against_6 : decode cM_against 6 = .ok (.invokevirtual 48, 3) := by decide +kernel
theorem dM_against_9 : decode cM_against 9 = .ok (.aload_n 0, 1) := by decide +kernel
theorem dM_against_10 : decode cM_against 10 = .ok (.iconst 2, 1) := by decide +kernel
theorem dM_against_11 : decode cM_against 11 = .ok (.aload_n 0, 1) := by decide +kernel
theorem dM_against_12 : decode cM_against 12 = .ok (.getfield 52, 3) := by decide +kernel
theorem dM_against_15 : decode cM_against 15 = .ok (.ifCond .eq 7, 3) := by decide +kernel
theorem dM_against_18 : decode cM_against 18 = .ok (.iconst 2, 1) := by decide +kernel
theorem dM_against_19 : decode cM_against 19 = .ok (.goto 4, 3) := by decide +kernel
theorem dM_against_22 : decode cM_against 22 = .ok (.iconst 4, 1) := by decide +kernel
theorem dM_against_23 : decode cM_against 23 = .ok (.iconst 3, 1) := by decide +kernel
theorem dM_against_24 : decode cM_against 24 = .ok (.invokevirtual 56, 3) := by decide +kernel
theorem dM_against_27 : decode cM_against 27 = .ok (.aload_n 0, 1) := by decide +kernel
theorem dM_against_28 : decode cM_against 28 = .ok (.iconst 0, 1) := by decide +kernel
theorem dM_against_29 : decode cM_against 29 = .ok (.iconst 3, 1) := by decide +kernel
theorem dM_against_30 : decode cM_against 30 = .ok (.invokevirtual 60, 3) := by decide +kernel
theorem dM_against_33 : decode cM_against 33 = .ok (.ireturn, 1) := by decide +kernel
def yM_rounded : MethodName := ⟨RM, "rounded", "(ZI)I"⟩
abbrev cM_rounded : ByteArray := prog_5_method_23_code
theorem dM_rounded_0 : decode cM_rounded 0 = .ok (.aload_n 0, 1) := by decide +kernel
theorem dM_rounded_1 : decode cM_rounded 1 = .ok (.iconst 0, 1) := by decide +kernel
theorem dM_rounded_2 : decode cM_rounded 2 = .ok (.invokevirtual 64, 3) := by decide +kernel
theorem dM_rounded_5 : decode cM_rounded 5 = .ok (.ifCond .eq 5, 3) := by decide +kernel
theorem dM_rounded_8 : decode cM_rounded 8 = .ok (.iconst 0, 1) := by decide +kernel
theorem dM_rounded_9 : decode cM_rounded 9 = .ok (.ireturn, 1) := by decide +kernel
theorem dM_rounded_10 : decode cM_rounded 10 = .ok (.lconst 1, 1) := by decide +kernel
theorem dM_rounded_11 : decode cM_rounded 11 = .ok (.lstore_n 3, 1) := by decide +kernel
theorem dM_rounded_12 : decode cM_rounded 12 = .ok (.lconst 1, 1) := by decide +kernel
theorem dM_rounded_13 : decode cM_rounded 13 = .ok (.iload_n 2, 1) := by decide +kernel
theorem dM_rounded_14 : decode cM_rounded 14 = .ok (.iconst 1, 1) := by decide +kernel
theorem dM_rounded_15 : decode cM_rounded 15 = .ok (.isub, 1) := by decide +kernel
theorem dM_rounded_16 : decode cM_rounded 16 = .ok (.lshl, 1) := by decide +kernel
theorem dM_rounded_17 : decode cM_rounded 17 = .ok (.lconst 1, 1) := by decide +kernel
theorem dM_rounded_18 : decode cM_rounded 18 = .ok (.lsub, 1) := by decide +kernel
theorem dM_rounded_19 : decode cM_rounded 19 = .ok (.lstore 5, 2) := by decide +kernel
theorem dM_rounded_21 : decode cM_rounded 21 = .ok (.lload_n 3, 1) := by decide +kernel
theorem dM_rounded_22 : decode cM_rounded 22 = .ok (.lstore 7, 2) := by decide +kernel
theorem dM_rounded_24 : decode cM_rounded 24 = .ok (.aload_n 0, 1) := by decide +kernel
theorem dM_rounded_25 : decode cM_rounded 25 = .ok (.lload 5, 2) := by decide +kernel
theorem dM_rounded_27 : decode cM_rounded 27 = .ok (.iload_n 2, 1) := by decide +kernel
theorem dM_rounded_28 : decode cM_rounded 28 = .ok (.invokevirtual 68, 3) := by decide +kernel
theorem dM_rounded_31 : decode cM_rounded 31 = .ok (.ifCond .le 10, 3) := by decide +kernel
theorem dM_rounded_34 : decode cM_rounded 34 = .ok (.lload 5, 2) := by decide +kernel
theorem dM_rounded_36 : decode cM_rounded 36 = .ok (.lstore 7, 2) := by decide +kernel
theorem dM_rounded_38 : decode cM_rounded 38 = .ok (.goto 118, 3) := by decide +kernel
theorem dM_rounded_41 : decode cM_rounded 41 = .ok (.aload_n 0, 1) := by decide +kernel
theorem dM_rounded_42 : decode cM_rounded 42 = .ok (.lload_n 3, 1) := by decide +kernel
theorem dM_rounded_43 : decode cM_rounded 43 = .ok (.iload_n 2, 1) := by decide +kernel
theorem dM_rounded_44 : decode cM_rounded 44 = .ok (.invokevirtual 68, 3) := by decide +kernel
theorem dM_rounded_47 : decode cM_rounded 47 = .ok (.ifCond .lt 109, 3) := by decide +kernel
theorem dM_rounded_50 : decode cM_rounded 50 = .ok (.lload_n 3, 1) := by decide +kernel
theorem dM_rounded_51 : decode cM_rounded 51 = .ok (.lload 5, 2) := by decide +kernel
theorem dM_rounded_53 : decode cM_rounded 53 = .ok (.lcmp, 1) := by decide +kernel
theorem dM_rounded_54 : decode cM_rounded 54 = .ok (.ifCond .ge 40, 3) := by decide +kernel
theorem dM_rounded_57 : decode cM_rounded 57 = .ok (.lload_n 3, 1) := by decide +kernel
theorem dM_rounded_58 : decode cM_rounded 58 = .ok (.lload 5, 2) := by decide +kernel
theorem dM_rounded_60 : decode cM_rounded 60 = .ok (.ladd, 1) := by decide +kernel
theorem dM_rounded_61 : decode cM_rounded 61 = .ok (.lconst 1, 1) := by decide +kernel
theorem dM_rounded_62 : decode cM_rounded 62 = .ok (.ladd, 1) := by decide +kernel
theorem dM_rounded_63 : decode cM_rounded 63 = .ok (.ldc2_w 72, 3) := by decide +kernel
theorem dM_rounded_66 : decode cM_rounded 66 = .ok (.ldiv, 1) := by decide +kernel
theorem dM_rounded_67 : decode cM_rounded 67 = .ok (.lstore 9, 2) := by decide +kernel
theorem dM_rounded_69 : decode cM_rounded 69 = .ok (.aload_n 0, 1) := by decide +kernel
theorem dM_rounded_70 : decode cM_rounded 70 = .ok (.lload 9, 2) := by decide +kernel
theorem dM_rounded_72 : decode cM_rounded 72 = .ok (.iload_n 2, 1) := by decide +kernel
theorem dM_rounded_73 : decode cM_rounded 73 = .ok (.invokevirtual 68, 3) := by decide +kernel
theorem dM_rounded_76 : decode cM_rounded 76 = .ok (.ifCond .lt 9, 3) := by decide +kernel
theorem dM_rounded_79 : decode cM_rounded 79 = .ok (.lload 9, 2) := by decide +kernel
theorem dM_rounded_81 : decode cM_rounded 81 = .ok (.lstore_n 3, 1) := by decide +kernel
theorem dM_rounded_82 : decode cM_rounded 82 = .ok (.goto 9, 3) := by decide +kernel
theorem dM_rounded_85 : decode cM_rounded 85 = .ok (.lload 9, 2) := by decide +kernel
theorem dM_rounded_87 : decode cM_rounded 87 = .ok (.lconst 1, 1) := by decide +kernel
theorem dM_rounded_88 : decode cM_rounded 88 = .ok (.lsub, 1) := by decide +kernel
theorem dM_rounded_89 : decode cM_rounded 89 = .ok (.lstore 5, 2) := by decide +kernel
theorem dM_rounded_91 : decode cM_rounded 91 = .ok (.goto (-41), 3) := by decide +kernel
theorem dM_rounded_94 : decode cM_rounded 94 = .ok (.lload_n 3, 1) := by decide +kernel
theorem dM_rounded_95 : decode cM_rounded 95 = .ok (.lstore 7, 2) := by decide +kernel
theorem dM_rounded_97 : decode cM_rounded 97 = .ok (.aload_n 0, 1) := by decide +kernel
theorem dM_rounded_98 : decode cM_rounded 98 = .ok (.lload 7, 2) := by decide +kernel
theorem dM_rounded_100 : decode cM_rounded 100 = .ok (.iload_n 2, 1) := by decide +kernel
theorem dM_rounded_101 : decode cM_rounded 101 = .ok (.invokevirtual 68, 3) := by decide +kernel
theorem dM_rounded_104 : decode cM_rounded 104 = .ok (.ifCond .eq 52, 3) := by decide +kernel
theorem dM_rounded_107 : decode cM_rounded 107 = .ok (.aload_n 0, 1) := by decide +kernel
theorem dM_rounded_108 : decode cM_rounded 108 = .ok (.ldc2_w 72, 3) := by decide +kernel
theorem dM_rounded_111 : decode cM_rounded 111 = .ok (.lload 7, 2) := by decide +kernel
theorem dM_rounded_113 : decode cM_rounded 113 = .ok (.lmul, 1) := by decide +kernel
theorem dM_rounded_114 : decode cM_rounded 114 = .ok (.lconst 1, 1) := by decide +kernel
theorem dM_rounded_115 : decode cM_rounded 115 = .ok (.ladd, 1) := by decide +kernel
theorem dM_rounded_116 : decode cM_rounded 116 = .ok (.iload_n 2, 1) := by decide +kernel
theorem dM_rounded_117 : decode cM_rounded 117 = .ok (.iconst 1, 1) := by decide +kernel
theorem dM_rounded_118 : decode cM_rounded 118 = .ok (.iadd, 1) := by decide +kernel
theorem dM_rounded_119 : decode cM_rounded 119 = .ok (.invokevirtual 68, 3) := by decide +kernel
theorem dM_rounded_122 : decode cM_rounded 122 = .ok (.istore 9, 2) := by decide +kernel
theorem dM_rounded_124 : decode cM_rounded 124 = .ok (.iload 9, 2) := by decide +kernel
theorem dM_rounded_126 : decode cM_rounded 126 = .ok (.ifCond .gt 19, 3) := by decide +kernel
theorem dM_rounded_129 : decode cM_rounded 129 = .ok (.iload 9, 2) := by decide +kernel
theorem dM_rounded_131 : decode cM_rounded 131 = .ok (.ifCond .ne 21, 3) := by decide +kernel
theorem dM_rounded_134 : decode cM_rounded 134 = .ok (.lload 7, 2) := by decide +kernel
theorem dM_rounded_136 : decode cM_rounded 136 = .ok (.ldc2_w 72, 3) := by decide +kernel
theorem dM_rounded_139 : decode cM_rounded 139 = .ok (.lrem, 1) := by decide +kernel
theorem dM_rounded_140 : decode cM_rounded 140 = .ok (.lconst 1, 1) := by decide +kernel
theorem dM_rounded_141 : decode cM_rounded 141 = .ok (.lcmp, 1) := by decide +kernel
theorem dM_rounded_142 : decode cM_rounded 142 = .ok (.ifCond .ne 10, 3) := by decide +kernel
theorem dM_rounded_145 : decode cM_rounded 145 = .ok (.lload 7, 2) := by decide +kernel
theorem dM_rounded_147 : decode cM_rounded 147 = .ok (.lconst 1, 1) := by decide +kernel
theorem dM_rounded_148 : decode cM_rounded 148 = .ok (.ladd, 1) := by decide +kernel
theorem dM_rounded_149 : decode cM_rounded 149 = .ok (.goto 5, 3) := by decide +kernel
theorem dM_rounded_152 : decode cM_rounded 152 = .ok (.lload 7, 2) := by decide +kernel
theorem dM_rounded_154 : decode cM_rounded 154 = .ok (.lstore 7, 2) := by decide +kernel
theorem dM_rounded_156 : decode cM_rounded 156 = .ok (.iload_n 1, 1) := by decide +kernel
theorem dM_rounded_157 : decode cM_rounded 157 = .ok (.ifCond .eq 9, 3) := by decide +kernel
theorem dM_rounded_160 : decode cM_rounded 160 = .ok (.lload 7, 2) := by decide +kernel
theorem dM_rounded_162 : decode cM_rounded 162 = .ok (.lneg, 1) := by decide +kernel
theorem dM_rounded_163 : decode cM_rounded 163 = .ok (.goto 5, 3) := by decide +kernel
theorem dM_rounded_166 : decode cM_rounded 166 = .ok (.lload 7, 2) := by decide +kernel
theorem dM_rounded_168 : decode cM_rounded 168 = .ok (.l2i, 1) := by decide +kernel
theorem dM_rounded_169 : decode cM_rounded 169 = .ok (.ireturn, 1) := by decide +kernel
def yM_joined : MethodName := ⟨RM, "joined", "(ZZ)Z"⟩
abbrev cM_joined : ByteArray := prog_5_method_24_code
theorem dM_joined_0 : decode cM_joined 0 = .ok (.iload_n 1, 1) := by decide +kernel
theorem dM_joined_1 : decode cM_joined 1 = .ok (.iload_n 2, 1) := by decide +kernel
theorem dM_joined_2 : decode cM_joined 2 = .ok (.if_icmp .ne 11, 3) := by decide +kernel
theorem dM_joined_5 : decode cM_joined 5 = .ok (.aload_n 0, 1) := by decide +kernel
theorem dM_joined_6 : decode cM_joined 6 = .ok (.iconst 0, 1) := by decide +kernel
theorem dM_joined_7 : decode cM_joined 7 = .ok (.iconst 1, 1) := by decide +kernel
theorem dM_joined_8 : decode cM_joined 8 = .ok (.invokevirtual 74, 3) := by decide +kernel
theorem dM_joined_11 : decode cM_joined 11 = .ok (.iload_n 1, 1) := by decide +kernel
theorem dM_joined_12 : decode cM_joined 12 = .ok (.ireturn, 1) := by decide +kernel
theorem dM_joined_13 : decode cM_joined 13 = .ok (.aload_n 0, 1) := by decide +kernel
theorem dM_joined_14 : decode cM_joined 14 = .ok (.iconst 0, 1) := by decide +kernel
theorem dM_joined_15 : decode cM_joined 15 = .ok (.iconst 1, 1) := by decide +kernel
theorem dM_joined_16 : decode cM_joined 16 = .ok (.invokevirtual 60, 3) := by decide +kernel
theorem dM_joined_19 : decode cM_joined 19 = .ok (.ifCond .lt 12, 3) := by decide +kernel
theorem dM_joined_22 : decode cM_joined 22 = .ok (.aload_n 0, 1) := by decide +kernel
theorem dM_joined_23 : decode cM_joined 23 = .ok (.iconst 0, 1) := by decide +kernel
theorem dM_joined_24 : decode cM_joined 24 = .ok (.iconst 1, 1) := by decide +kernel
theorem dM_joined_25 : decode cM_joined 25 = .ok (.iconst 0, 1) := by decide +kernel
theorem dM_joined_26 : decode cM_joined 26 = .ok (.invokevirtual 77, 3) := by decide +kernel
theorem dM_joined_29 : decode cM_joined 29 = .ok (.iload_n 1, 1) := by decide +kernel
theorem dM_joined_30 : decode cM_joined 30 = .ok (.ireturn, 1) := by decide +kernel
theorem dM_joined_31 : decode cM_joined 31 = .ok (.aload_n 0, 1) := by decide +kernel
theorem dM_joined_32 : decode cM_joined 32 = .ok (.iconst 1, 1) := by decide +kernel
theorem dM_joined_33 : decode cM_joined 33 = .ok (.iconst 0, 1) := by decide +kernel
theorem dM_joined_34 : decode cM_joined 34 = .ok (.iconst 0, 1) := by decide +kernel
theorem dM_joined_35 : decode cM_joined 35 = .ok (.invokevirtual 77, 3) := by decide +kernel
theorem dM_joined_38 : decode cM_joined 38 = .ok (.iload_n 2, 1) := by decide +kernel
theorem dM_joined_39 : decode cM_joined 39 = .ok (.ireturn, 1) := by decide +kernel
def yM_together : MethodName := ⟨RM, "together", "(IIZ)I"⟩
abbrev cM_together : ByteArray := prog_5_method_25_code
theorem dM_together_0 : decode cM_together 0 = .ok (.aload_n 0, 1) := by decide +kernel
theorem dM_together_1 : decode cM_together 1 = .ok (.iload_n 1, 1) := by decide +kernel
theorem dM_together_2 : decode cM_together 2 = .ok (.invokevirtual 80, 3) := by decide +kernel
theorem dM_together_5 : decode cM_together 5 = .ok (.ifCond .ne 11, 3) := by decide +kernel
theorem dM_together_8 : decode cM_together 8 = .ok (.aload_n 0, 1) := by decide +kernel
theorem dM_together_9 : decode cM_together 9 = .ok (.iload_n 2, 1) := by decide +kernel
theorem dM_together_10 : decode cM_together 10 = .ok (.invokevirtual 80, 3) := by decide +kernel
theorem dM_together_13 : decode cM_together 13 = .ok (.ifCond .eq 11, 3) := by decide +kernel
theorem dM_together_16 : decode cM_together 16 = .ok (.aload_n 0, 1) := by decide +kernel
theorem dM_together_17 : decode cM_together 17 = .ok (.getfield 20, 3) := by decide +kernel
theorem dM_together_20 : decode cM_together 20 = .ok (.invokestatic 45, 3) := by decide +kernel
theorem dM_together_23 : decode cM_together 23 = .ok (.ireturn, 1) := by decide +kernel
theorem dM_together_24 : decode cM_together 24 = .ok (.aload_n 0, 1) := by decide +kernel
theorem dM_together_25 : decode cM_together 25 = .ok (.iconst 0, 1) := by decide +kernel
theorem dM_together_26 : decode cM_together 26 = .ok (.iload_n 1, 1) := by decide +kernel
theorem dM_together_27 : decode cM_together 27 = .ok (.bipush 124, 2) := by decide +kernel
theorem dM_together_29 : decode cM_together 29 = .ok (.invokevirtual 83, 3) := by decide +kernel
theorem dM_together_32 : decode cM_together 32 = .ok (.aload_n 0, 1) := by decide +kernel
theorem dM_together_33 : decode cM_together 33 = .ok (.iconst 1, 1) := by decide +kernel
theorem dM_together_34 : decode cM_together 34 = .ok (.iload_n 2, 1) := by decide +kernel
theorem dM_together_35 : decode cM_together 35 = .ok (.bipush 124, 2) := by decide +kernel
theorem dM_together_37 : decode cM_together 37 = .ok (.invokevirtual 83, 3) := by decide +kernel
theorem dM_together_40 : decode cM_together 40 = .ok (.aload_n 0, 1) := by decide +kernel
theorem dM_together_41 : decode cM_together 41 = .ok (.aload_n 0, 1) := by decide +kernel
theorem dM_together_42 : decode cM_together 42 = .ok (.iload_n 1, 1) := by decide +kernel
theorem dM_together_43 : decode cM_together 43 = .ok (.invokevirtual 86, 3) := by decide +kernel
theorem dM_together_46 : decode cM_together 46 = .ok (.aload_n 0, 1) := by decide +kernel
theorem dM_together_47 : decode cM_together 47 = .ok (.iload_n 2, 1) := by decide +kernel
theorem dM_together_48 : decode cM_together 48 = .ok (.invokevirtual 86, 3) := by decide +kernel
theorem dM_together_51 : decode cM_together 51 = .ok (.iload_n 3, 1) := by decide +kernel
theorem dM_together_52 : decode cM_together 52 = .ok (.if_icmp .eq 7, 3) := by decide +kernel
theorem dM_together_55 : decode cM_together 55 = .ok (.iconst 1, 1) := by decide +kernel
theorem dM_together_56 : decode cM_together 56 = .ok (.goto 4, 3) := by decide +kernel
theorem dM_together_59 : decode cM_together 59 = .ok (.iconst 0, 1) := by decide +kernel
theorem dM_together_60 : decode cM_together 60 = .ok (.invokevirtual 89, 3) := by decide +kernel
theorem dM_together_63 : decode cM_together 63 = .ok (.istore 4, 2) := by decide +kernel
theorem dM_together_65 : decode cM_together 65 = .ok (.aload_n 0, 1) := by decide +kernel
theorem dM_together_66 : decode cM_together 66 = .ok (.iconst 0, 1) := by decide +kernel
theorem dM_together_67 : decode cM_together 67 = .ok (.invokevirtual 93, 3) := by decide +kernel
theorem dM_together_70 : decode cM_together 70 = .ok (.aload_n 0, 1) := by decide +kernel
theorem dM_together_71 : decode cM_together 71 = .ok (.iload 4, 2) := by decide +kernel
theorem dM_together_73 : decode cM_together 73 = .ok (.aload_n 0, 1) := by decide +kernel
theorem dM_together_74 : decode cM_together 74 = .ok (.getfield 20, 3) := by decide +kernel
theorem dM_together_77 : decode cM_together 77 = .ok (.invokevirtual 96, 3) := by decide +kernel
theorem dM_together_80 : decode cM_together 80 = .ok (.ireturn, 1) := by decide +kernel
def yM_add : MethodName := ⟨RM, "add", "(II)I"⟩
abbrev cM_add : ByteArray := prog_5_method_26_code
theorem dM_add_0 : decode cM_add 0 = .ok (.aload_n 0, 1) := by decide +kernel
theorem dM_add_1 : decode cM_add 1 = .ok (.iload_n 1, 1) := by decide +kernel
theorem dM_add_2 : decode cM_add 2 = .ok (.iload_n 2, 1) := by decide +kernel
theorem dM_add_3 : decode cM_add 3 = .ok (.iconst 0, 1) := by decide +kernel
theorem dM_add_4 : decode cM_add 4 = .ok (.invokevirtual 100, 3) := by decide +kernel
theorem dM_add_7 : decode cM_add 7 = .ok (.ireturn, 1) := by decide +kernel
def yM_subtract : MethodName := ⟨RM, "subtract", "(II)I"⟩
abbrev cM_subtract : ByteArray := prog_5_method_27_code
theorem dM_subtract_0 : decode cM_subtract 0 = .ok (.aload_n 0, 1) := by decide +kernel
theorem dM_subtract_1 : decode cM_subtract 1 = .ok (.iload_n 1, 1) := by decide +kernel
theorem dM_subtract_2 : decode cM_subtract 2 = .ok (.iload_n 2, 1) := by decide +kernel
theorem dM_subtract_3 : decode cM_subtract 3 = .ok (.iconst 1, 1) := by decide +kernel
theorem dM_subtract_4 : decode cM_subtract 4 = .ok (.invokevirtual 100, 3) := by decide +kernel
theorem dM_subtract_7 : decode cM_subtract 7 = .ok (.ireturn, 1) := by decide +kernel
def yM_multiply : MethodName := ⟨RM, "multiply", "(II)I"⟩
abbrev cM_multiply : ByteArray := prog_5_method_28_code
theorem dM_multiply_0 : decode cM_multiply 0 = .ok (.aload_n 0, 1) := by decide +kernel
theorem dM_multiply_1 : decode cM_multiply 1 = .ok (.iload_n 1, 1) := by decide +kernel
theorem dM_multiply_2 : decode cM_multiply 2 = .ok (.iload_n 2, 1) := by decide +kernel
theorem dM_multiply_3 : decode cM_multiply 3 = .ok (.iconst 0, 1) := by decide +kernel
theorem dM_multiply_4 : decode cM_multiply 4 = .ok (.invokevirtual 104, 3) := by decide +kernel
theorem dM_multiply_7 : decode cM_multiply 7 = .ok (.ireturn, 1) := by decide +kernel
def yM_divide : MethodName := ⟨RM, "divide", "(II)I"⟩
abbrev cM_divide : ByteArray := prog_5_method_29_code
theorem dM_divide_0 : decode cM_divide 0 = .ok (.aload_n 0, 1) := by decide +kernel
theorem dM_divide_1 : decode cM_divide 1 = .ok (.iload_n 1, 1) := by decide +kernel
theorem dM_divide_2 : decode cM_divide 2 = .ok (.invokevirtual 80, 3) := by decide +kernel
theorem dM_divide_5 : decode cM_divide 5 = .ok (.ifCond .ne 19, 3) := by decide +kernel
theorem dM_divide_8 : decode cM_divide 8 = .ok (.aload_n 0, 1) := by decide +kernel
theorem dM_divide_9 : decode cM_divide 9 = .ok (.iload_n 2, 1) := by decide +kernel
theorem dM_divide_10 : decode cM_divide 10 = .ok (.invokevirtual 80, 3) := by decide +kernel
theorem dM_divide_13 : decode cM_divide 13 = .ok (.ifCond .ne 11, 3) := by decide +kernel
theorem dM_divide_16 : decode cM_divide 16 = .ok (.aload_n 0, 1) := by decide +kernel
theorem dM_divide_17 : decode cM_divide 17 = .ok (.iload_n 2, 1) := by decide +kernel
theorem dM_divide_18 : decode cM_divide 18 = .ok (.invokevirtual 42, 3) := by decide +kernel
theorem dM_divide_21 : decode cM_divide 21 = .ok (.ifCond .ne 11, 3) := by decide +kernel
theorem dM_divide_24 : decode cM_divide 24 = .ok (.aload_n 0, 1) := by decide +kernel
theorem dM_divide_25 : decode cM_divide 25 = .ok (.getfield 20, 3) := by decide +kernel
theorem dM_divide_28 : decode cM_divide 28 = .ok (.invokestatic 45, 3) := by decide +kernel
theorem dM_divide_31 : decode cM_divide 31 = .ok (.ireturn, 1) := by decide +kernel
theorem dM_divide_32 : decode cM_divide 32 = .ok (.aload_n 0, 1) := by decide +kernel
theorem dM_divide_33 : decode cM_divide 33 = .ok (.iconst 0, 1) := by decide +kernel
theorem dM_divide_34 : decode cM_divide 34 = .ok (.iload_n 1, 1) := by decide +kernel
theorem dM_divide_35 : decode cM_divide 35 = .ok (.bipush 124, 2) := by decide +kernel
theorem dM_divide_37 : decode cM_divide 37 = .ok (.invokevirtual 83, 3) := by decide +kernel
theorem dM_divide_40 : decode cM_divide 40 = .ok (.aload_n 0, 1) := by decide +kernel
theorem dM_divide_41 : decode cM_divide 41 = .ok (.iconst 0, 1) := by decide +kernel
theorem dM_divide_42 : decode cM_divide 42 = .ok (.bipush 124, 2) := by decide +kernel
theorem dM_divide_44 : decode cM_divide 44 = .ok (.invokevirtual 35, 3) := by decide +kernel
theorem dM_divide_47 : decode cM_divide 47 = .ok (.aload_n 0, 1) := by decide +kernel
theorem dM_divide_48 : decode cM_divide 48 = .ok (.iconst 0, 1) := by decide +kernel
theorem dM_divide_49 : decode cM_divide 49 = .ok (.putfield 52, 3) := by decide +kernel
theorem dM_divide_52 : decode cM_divide 52 = .ok (.aload_n 0, 1) := by decide +kernel
theorem dM_divide_53 : decode cM_divide 53 = .ok (.iconst 4, 1) := by decide +kernel
theorem dM_divide_54 : decode cM_divide 54 = .ok (.iload_n 2, 1) := by decide +kernel
theorem dM_divide_55 : decode cM_divide 55 = .ok (.bipush 124, 2) := by decide +kernel
theorem dM_divide_57 : decode cM_divide 57 = .ok (.invokevirtual 83, 3) := by decide +kernel
theorem dM_divide_60 : decode cM_divide 60 = .ok (.aload_n 0, 1) := by decide +kernel
theorem dM_divide_61 : decode cM_divide 61 = .ok (.aload_n 0, 1) := by decide +kernel
theorem dM_divide_62 : decode cM_divide 62 = .ok (.iload_n 1, 1) := by decide +kernel
theorem dM_divide_63 : decode cM_divide 63 = .ok (.invokevirtual 86, 3) := by decide +kernel
theorem dM_divide_66 : decode cM_divide 66 = .ok (.aload_n 0, 1) := by decide +kernel
theorem dM_divide_67 : decode cM_divide 67 = .ok (.iload_n 2, 1) := by decide +kernel
theorem dM_divide_68 : decode cM_divide 68 = .ok (.invokevirtual 86, 3) := by decide +kernel
theorem dM_divide_71 : decode cM_divide 71 = .ok (.if_icmp .eq 7, 3) := by decide +kernel
theorem dM_divide_74 : decode cM_divide 74 = .ok (.iconst 1, 1) := by decide +kernel
theorem dM_divide_75 : decode cM_divide 75 = .ok (.goto 4, 3) := by decide +kernel
theorem dM_divide_78 : decode cM_divide 78 = .ok (.iconst 0, 1) := by decide +kernel
theorem dM_divide_79 : decode cM_divide 79 = .ok (.aload_n 0, 1) := by decide +kernel
theorem dM_divide_80 : decode cM_divide 80 = .ok (.getfield 20, 3) := by decide +kernel
theorem dM_divide_83 : decode cM_divide 83 = .ok (.invokevirtual 96, 3) := by decide +kernel
theorem dM_divide_86 : decode cM_divide 86 = .ok (.ireturn, 1) := by decide +kernel
def yM_root : MethodName := ⟨RM, "root", "(I)I"⟩
abbrev cM_root : ByteArray := prog_5_method_30_code
theorem dM_root_0 : decode cM_root 0 = .ok (.aload_n 0, 1) := by decide +kernel
theorem dM_root_1 : decode cM_root 1 = .ok (.iload_n 1, 1) := by decide +kernel
theorem dM_root_2 : decode cM_root 2 = .ok (.invokevirtual 80, 3) := by decide +kernel
theorem dM_root_5 : decode cM_root 5 = .ok (.ifCond .ne 11, 3) := by decide +kernel
theorem dM_root_8 : decode cM_root 8 = .ok (.aload_n 0, 1) := by decide +kernel
theorem dM_root_9 : decode cM_root 9 = .ok (.iload_n 1, 1) := by decide +kernel
theorem dM_root_10 : decode cM_root 10 = .ok (.invokevirtual 86, 3) := by decide +kernel
theorem dM_root_13 : decode cM_root 13 = .ok (.ifCond .eq 11, 3) := by decide +kernel
theorem dM_root_16 : decode cM_root 16 = .ok (.aload_n 0, 1) := by decide +kernel
theorem dM_root_17 : decode cM_root 17 = .ok (.getfield 20, 3) := by decide +kernel
theorem dM_root_20 : decode cM_root 20 = .ok (.invokestatic 45, 3) := by decide +kernel
theorem dM_root_23 : decode cM_root 23 = .ok (.ireturn, 1) := by decide +kernel
theorem dM_root_24 : decode cM_root 24 = .ok (.aload_n 0, 1) := by decide +kernel
theorem dM_root_25 : decode cM_root 25 = .ok (.iconst 0, 1) := by decide +kernel
theorem dM_root_26 : decode cM_root 26 = .ok (.iload_n 1, 1) := by decide +kernel
theorem dM_root_27 : decode cM_root 27 = .ok (.bipush 124, 2) := by decide +kernel
theorem dM_root_29 : decode cM_root 29 = .ok (.invokevirtual 83, 3) := by decide +kernel
theorem dM_root_32 : decode cM_root 32 = .ok (.aload_n 0, 1) := by decide +kernel
theorem dM_root_33 : decode cM_root 33 = .ok (.iconst 0, 1) := by decide +kernel
theorem dM_root_34 : decode cM_root 34 = .ok (.bipush 124, 2) := by decide +kernel
theorem dM_root_36 : decode cM_root 36 = .ok (.invokevirtual 35, 3) := by decide +kernel
theorem dM_root_39 : decode cM_root 39 = .ok (.aload_n 0, 1) := by decide +kernel
theorem dM_root_40 : decode cM_root 40 = .ok (.iconst 1, 1) := by decide +kernel
theorem dM_root_41 : decode cM_root 41 = .ok (.putfield 52, 3) := by decide +kernel
theorem dM_root_44 : decode cM_root 44 = .ok (.aload_n 0, 1) := by decide +kernel
theorem dM_root_45 : decode cM_root 45 = .ok (.iconst 0, 1) := by decide +kernel
theorem dM_root_46 : decode cM_root 46 = .ok (.aload_n 0, 1) := by decide +kernel
theorem dM_root_47 : decode cM_root 47 = .ok (.getfield 20, 3) := by decide +kernel
theorem dM_root_50 : decode cM_root 50 = .ok (.invokevirtual 96, 3) := by decide +kernel
theorem dM_root_53 : decode cM_root 53 = .ok (.ireturn, 1) := by decide +kernel
def yM_fused : MethodName := ⟨RM, "fused", "(III)I"⟩
abbrev cM_fused : ByteArray := prog_5_method_31_code
theorem dM_fused_0 : decode cM_fused 0 = .ok (.aload_n 0, 1) := by decide +kernel
theorem dM_fused_1 : decode cM_fused 1 = .ok (.iload_n 1, 1) := by decide +kernel
theorem dM_fused_2 : decode cM_fused 2 = .ok (.invokevirtual 80, 3) := by decide +kernel
theorem dM_fused_5 : decode cM_fused 5 = .ok (.ifCond .ne 19, 3) := by decide +kernel
theorem dM_fused_8 : decode cM_fused 8 = .ok (.aload_n 0, 1) := by decide +kernel
theorem dM_fused_9 : decode cM_fused 9 = .ok (.iload_n 2, 1) := by decide +kernel
theorem dM_fused_10 : decode cM_fused 10 = .ok (.invokevirtual 80, 3) := by decide +kernel
theorem dM_fused_13 : decode cM_fused 13 = .ok (.ifCond .ne 11, 3) := by decide +kernel
theorem dM_fused_16 : decode cM_fused 16 = .ok (.aload_n 0, 1) := by decide +kernel
theorem dM_fused_17 : decode cM_fused 17 = .ok (.iload_n 3, 1) := by decide +kernel
theorem dM_fused_18 : decode cM_fused 18 = .ok (.invokevirtual 80, 3) := by decide +kernel
theorem dM_fused_21 : decode cM_fused 21 = .ok (.ifCond .eq 11, 3) := by decide +kernel
theorem dM_fused_24 : decode cM_fused 24 = .ok (.aload_n 0, 1) := by decide +kernel
theorem dM_fused_25 : decode cM_fused 25 = .ok (.getfield 20, 3) := by decide +kernel
theorem dM_fused_28 : decode cM_fused 28 = .ok (.invokestatic 45, 3) := by decide +kernel
theorem dM_fused_31 : decode cM_fused 31 = .ok (.ireturn, 1) := by decide +kernel
theorem dM_fused_32 : decode cM_fused 32 = .ok (.aload_n 0, 1) := by decide +kernel
theorem dM_fused_33 : decode cM_fused 33 = .ok (.iconst 1, 1) := by decide +kernel
theorem dM_fused_34 : decode cM_fused 34 = .ok (.iload_n 1, 1) := by decide +kernel
theorem dM_fused_35 : decode cM_fused 35 = .ok (.bipush 124, 2) := by decide +kernel
theorem dM_fused_37 : decode cM_fused 37 = .ok (.invokevirtual 83, 3) := by decide +kernel
theorem dM_fused_40 : decode cM_fused 40 = .ok (.aload_n 0, 1) := by decide +kernel
theorem dM_fused_41 : decode cM_fused 41 = .ok (.iconst 2, 1) := by decide +kernel
theorem dM_fused_42 : decode cM_fused 42 = .ok (.iload_n 2, 1) := by decide +kernel
theorem dM_fused_43 : decode cM_fused 43 = .ok (.bipush 124, 2) := by decide +kernel
theorem dM_fused_45 : decode cM_fused 45 = .ok (.invokevirtual 83, 3) := by decide +kernel
theorem dM_fused_48 : decode cM_fused 48 = .ok (.aload_n 0, 1) := by decide +kernel
theorem dM_fused_49 : decode cM_fused 49 = .ok (.iconst 1, 1) := by decide +kernel
theorem dM_fused_50 : decode cM_fused 50 = .ok (.iconst 2, 1) := by decide +kernel
theorem dM_fused_51 : decode cM_fused 51 = .ok (.iconst 0, 1) := by decide +kernel
theorem dM_fused_52 : decode cM_fused 52 = .ok (.invokevirtual 56, 3) := by decide +kernel
theorem dM_fused_55 : decode cM_fused 55 = .ok (.aload_n 0, 1) := by decide +kernel
theorem dM_fused_56 : decode cM_fused 56 = .ok (.iconst 1, 1) := by decide +kernel
theorem dM_fused_57 : decode cM_fused 57 = .ok (.iload_n 3, 1) := by decide +kernel
theorem dM_fused_58 : decode cM_fused 58 = .ok (.bipush 124, 2) := by decide +kernel
theorem dM_fused_60 : decode cM_fused 60 = .ok (.invokevirtual 83, 3) := by decide +kernel
theorem dM_fused_63 : decode cM_fused 63 = .ok (.aload_n 0, 1) := by decide +kernel
theorem dM_fused_64 : decode cM_fused 64 = .ok (.iconst 1, 1) := by decide +kernel
theorem dM_fused_65 : decode cM_fused 65 = .ok (.bipush 124, 2) := by decide +kernel
theorem dM_fused_67 : decode cM_fused 67 = .ok (.invokevirtual 35, 3) := by decide +kernel
theorem dM_fused_70 : decode cM_fused 70 = .ok (.aload_n 0, 1) := by decide +kernel
theorem dM_fused_71 : decode cM_fused 71 = .ok (.aload_n 0, 1) := by decide +kernel
theorem dM_fused_72 : decode cM_fused 72 = .ok (.iload_n 1, 1) := by decide +kernel
theorem dM_fused_73 : decode cM_fused 73 = .ok (.invokevirtual 86, 3) := by decide +kernel
theorem dM_fused_76 : decode cM_fused 76 = .ok (.aload_n 0, 1) := by decide +kernel
theorem dM_fused_77 : decode cM_fused 77 = .ok (.iload_n 2, 1) := by decide +kernel
theorem dM_fused_78 : decode cM_fused 78 = .ok (.invokevirtual 86, 3) := by decide +kernel
theorem dM_fused_81 : decode cM_fused 81 = .ok (.if_icmp .eq 7, 3) := by decide +kernel
theorem dM_fused_84 : decode cM_fused 84 = .ok (.iconst 1, 1) := by decide +kernel
theorem dM_fused_85 : decode cM_fused 85 = .ok (.goto 4, 3) := by decide +kernel
theorem dM_fused_88 : decode cM_fused 88 = .ok (.iconst 0, 1) := by decide +kernel
theorem dM_fused_89 : decode cM_fused 89 = .ok (.aload_n 0, 1) := by decide +kernel
theorem dM_fused_90 : decode cM_fused 90 = .ok (.iload_n 3, 1) := by decide +kernel
theorem dM_fused_91 : decode cM_fused 91 = .ok (.invokevirtual 86, 3) := by decide +kernel
theorem dM_fused_94 : decode cM_fused 94 = .ok (.invokevirtual 89, 3) := by decide +kernel
theorem dM_fused_97 : decode cM_fused 97 = .ok (.istore 4, 2) := by decide +kernel
theorem dM_fused_99 : decode cM_fused 99 = .ok (.aload_n 0, 1) := by decide +kernel
theorem dM_fused_100 : decode cM_fused 100 = .ok (.bipush 124, 2) := by decide +kernel
theorem dM_fused_102 : decode cM_fused 102 = .ok (.invokevirtual 93, 3) := by decide +kernel
theorem dM_fused_105 : decode cM_fused 105 = .ok (.aload_n 0, 1) := by decide +kernel
theorem dM_fused_106 : decode cM_fused 106 = .ok (.iload 4, 2) := by decide +kernel
theorem dM_fused_108 : decode cM_fused 108 = .ok (.aload_n 0, 1) := by decide +kernel
theorem dM_fused_109 : decode cM_fused 109 = .ok (.getfield 20, 3) := by decide +kernel
theorem dM_fused_112 : decode cM_fused 112 = .ok (.invokevirtual 96, 3) := by decide +kernel
theorem dM_fused_115 : decode cM_fused 115 = .ok (.ireturn, 1) := by decide +kernel
def yM_nearest : MethodName := ⟨RM, "nearest", "(I)V"⟩
abbrev cM_nearest : ByteArray := prog_5_method_32_code
theorem dM_nearest_0 : decode cM_nearest 0 = .ok (.aload_n 0, 1) := by decide +kernel
theorem dM_nearest_1 : decode cM_nearest 1 = .ok (.iconst 0, 1) := by decide +kernel
theorem dM_nearest_2 : decode cM_nearest 2 = .ok (.iload_n 1, 1) := by decide +kernel
theorem dM_nearest_3 : decode cM_nearest 3 = .ok (.bipush 124, 2) := by decide +kernel
theorem dM_nearest_5 : decode cM_nearest 5 = .ok (.invokevirtual 83, 3) := by decide +kernel
theorem dM_nearest_8 : decode cM_nearest 8 = .ok (.aload_n 0, 1) := by decide +kernel
theorem dM_nearest_9 : decode cM_nearest 9 = .ok (.iconst 0, 1) := by decide +kernel
theorem dM_nearest_10 : decode cM_nearest 10 = .ok (.bipush 123, 2) := by decide +kernel
theorem dM_nearest_12 : decode cM_nearest 12 = .ok (.invokevirtual 108, 3) := by decide +kernel
theorem dM_nearest_15 : decode cM_nearest 15 = .ok (.iconst 1, 1) := by decide +kernel
theorem dM_nearest_16 : decode cM_nearest 16 = .ok (.if_icmp .ne 7, 3) := by decide +kernel
theorem dM_nearest_19 : decode cM_nearest 19 = .ok (.iconst 1, 1) := by decide +kernel
theorem dM_nearest_20 : decode cM_nearest 20 = .ok (.goto 4, 3) := by decide +kernel
theorem dM_nearest_23 : decode cM_nearest 23 = .ok (.iconst 0, 1) := by decide +kernel
theorem dM_nearest_24 : decode cM_nearest 24 = .ok (.istore_n 2, 1) := by decide +kernel
theorem dM_nearest_25 : decode cM_nearest 25 = .ok (.iconst 0, 1) := by decide +kernel
theorem dM_nearest_26 : decode cM_nearest 26 = .ok (.istore_n 3, 1) := by decide +kernel
theorem dM_nearest_27 : decode cM_nearest 27 = .ok (.iconst 0, 1) := by decide +kernel
theorem dM_nearest_28 : decode cM_nearest 28 = .ok (.istore 4, 2) := by decide +kernel
theorem dM_nearest_30 : decode cM_nearest 30 = .ok (.iload 4, 2) := by decide +kernel
theorem dM_nearest_32 : decode cM_nearest 32 = .ok (.bipush 123, 2) := by decide +kernel
theorem dM_nearest_34 : decode cM_nearest 34 = .ok (.if_icmp .ge 30, 3) := by decide +kernel
theorem dM_nearest_37 : decode cM_nearest 37 = .ok (.iload_n 3, 1) := by decide +kernel
theorem dM_nearest_38 : decode cM_nearest 38 = .ok (.ifCond .ne 14, 3) := by decide +kernel
theorem dM_nearest_41 : decode cM_nearest 41 = .ok (.aload_n 0, 1) := by decide +kernel
theorem dM_nearest_42 : decode cM_nearest 42 = .ok (.iconst 0, 1) := by decide +kernel
theorem dM_nearest_43 : decode cM_nearest 43 = .ok (.iload 4, 2) := by decide +kernel
theorem dM_nearest_45 : decode cM_nearest 45 = .ok (.invokevirtual 108, 3) := by decide +kernel
theorem dM_nearest_48 : decode cM_nearest 48 = .ok (.iconst 1, 1) := by decide +kernel
theorem dM_nearest_49 : decode cM_nearest 49 = .ok (.if_icmp .ne 7, 3) := by decide +kernel
theorem dM_nearest_52 : decode cM_nearest 52 = .ok (.iconst 1, 1) := by decide +kernel
theorem dM_nearest_53 : decode cM_nearest 53 = .ok (.goto 4, 3) := by decide +kernel
theorem dM_nearest_56 : decode cM_nearest 56 = .ok (.iconst 0, 1) := by decide +kernel
theorem dM_nearest_57 : decode cM_nearest 57 = .ok (.istore_n 3, 1) := by decide +kernel
theorem dM_nearest_58 : decode cM_nearest 58 = .ok (.iinc 4 1, 3) := by decide +kernel
theorem dM_nearest_61 : decode cM_nearest 61 = .ok (.goto (-31), 3) := by decide +kernel
theorem dM_nearest_64 : decode cM_nearest 64 = .ok (.aload_n 0, 1) := by decide +kernel
theorem dM_nearest_65 : decode cM_nearest 65 = .ok (.iconst 0, 1) := by decide +kernel
theorem dM_nearest_66 : decode cM_nearest 66 = .ok (.bipush 124, 2) := by decide +kernel
theorem dM_nearest_68 : decode cM_nearest 68 = .ok (.invokevirtual 39, 3) := by decide +kernel
theorem dM_nearest_71 : decode cM_nearest 71 = .ok (.iload_n 2, 1) := by decide +kernel
theorem dM_nearest_72 : decode cM_nearest 72 = .ok (.ifCond .eq 29, 3) := by decide +kernel
theorem dM_nearest_75 : decode cM_nearest 75 = .ok (.iload_n 3, 1) := by decide +kernel
theorem dM_nearest_76 : decode cM_nearest 76 = .ok (.ifCond .ne 13, 3) := by decide +kernel
theorem dM_nearest_79 : decode cM_nearest 79 = .ok (.aload_n 0, 1) := by decide +kernel
theorem dM_nearest_80 : decode cM_nearest 80 = .ok (.iconst 0, 1) := by decide +kernel
theorem dM_nearest_81 : decode cM_nearest 81 = .ok (.iconst 0, 1) := by decide +kernel
theorem dM_nearest_82 : decode cM_nearest 82 = .ok (.invokevirtual 108, 3) := by decide +kernel
theorem dM_nearest_85 : decode cM_nearest 85 = .ok (.iconst 1, 1) := by decide +kernel
theorem dM_nearest_86 : decode cM_nearest 86 = .ok (.if_icmp .ne 15, 3) := by decide +kernel
theorem dM_nearest_89 : decode cM_nearest 89 = .ok (.aload_n 0, 1) := by decide +kernel
theorem dM_nearest_90 : decode cM_nearest 90 = .ok (.iconst 1, 1) := by decide +kernel
theorem dM_nearest_91 : decode cM_nearest 91 = .ok (.lconst 1, 1) := by decide +kernel
theorem dM_nearest_92 : decode cM_nearest 92 = .ok (.invokevirtual 31, 3) := by decide +kernel
theorem dM_nearest_95 : decode cM_nearest 95 = .ok (.aload_n 0, 1) := by decide +kernel
theorem dM_nearest_96 : decode cM_nearest 96 = .ok (.iconst 0, 1) := by decide +kernel
theorem dM_nearest_97 : decode cM_nearest 97 = .ok (.iconst 1, 1) := by decide +kernel
theorem dM_nearest_98 : decode cM_nearest 98 = .ok (.invokevirtual 74, 3) := by decide +kernel
theorem dM_nearest_101 : decode cM_nearest 101 = .ok (.return_, 1) := by decide +kernel
def yM_whole : MethodName := ⟨RM, "whole", "(I)I"⟩
abbrev cM_whole : ByteArray := prog_5_method_33_code
theorem dM_whole_0 : decode cM_whole 0 = .ok (.aload_n 0, 1) := by decide +kernel
theorem dM_whole_1 : decode cM_whole 1 = .ok (.iload_n 1, 1) := by decide +kernel
theorem dM_whole_2 : decode cM_whole 2 = .ok (.invokevirtual 80, 3) := by decide +kernel
theorem dM_whole_5 : decode cM_whole 5 = .ok (.ifCond .eq 11, 3) := by decide +kernel
theorem dM_whole_8 : decode cM_whole 8 = .ok (.aload_n 0, 1) := by decide +kernel
theorem dM_whole_9 : decode cM_whole 9 = .ok (.getfield 20, 3) := by decide +kernel
theorem dM_whole_12 : decode cM_whole 12 = .ok (.invokestatic 45, 3) := by decide +kernel
theorem dM_whole_15 : decode cM_whole 15 = .ok (.ireturn, 1) := by decide +kernel
theorem dM_whole_16 : decode cM_whole 16 = .ok (.aload_n 0, 1) := by decide +kernel
theorem dM_whole_17 : decode cM_whole 17 = .ok (.iload_n 1, 1) := by decide +kernel
theorem dM_whole_18 : decode cM_whole 18 = .ok (.invokevirtual 111, 3) := by decide +kernel
theorem dM_whole_21 : decode cM_whole 21 = .ok (.aload_n 0, 1) := by decide +kernel
theorem dM_whole_22 : decode cM_whole 22 = .ok (.iconst 0, 1) := by decide +kernel
theorem dM_whole_23 : decode cM_whole 23 = .ok (.bipush 124, 2) := by decide +kernel
theorem dM_whole_25 : decode cM_whole 25 = .ok (.invokevirtual 35, 3) := by decide +kernel
theorem dM_whole_28 : decode cM_whole 28 = .ok (.aload_n 0, 1) := by decide +kernel
theorem dM_whole_29 : decode cM_whole 29 = .ok (.iconst 0, 1) := by decide +kernel
theorem dM_whole_30 : decode cM_whole 30 = .ok (.invokevirtual 93, 3) := by decide +kernel
theorem dM_whole_33 : decode cM_whole 33 = .ok (.aload_n 0, 1) := by decide +kernel
theorem dM_whole_34 : decode cM_whole 34 = .ok (.aload_n 0, 1) := by decide +kernel
theorem dM_whole_35 : decode cM_whole 35 = .ok (.iload_n 1, 1) := by decide +kernel
theorem dM_whole_36 : decode cM_whole 36 = .ok (.invokevirtual 86, 3) := by decide +kernel
theorem dM_whole_39 : decode cM_whole 39 = .ok (.aload_n 0, 1) := by decide +kernel
theorem dM_whole_40 : decode cM_whole 40 = .ok (.getfield 20, 3) := by decide +kernel
theorem dM_whole_43 : decode cM_whole 43 = .ok (.invokevirtual 96, 3) := by decide +kernel
theorem dM_whole_46 : decode cM_whole 46 = .ok (.ireturn, 1) := by decide +kernel
def yM_next : MethodName := ⟨RM, "next", "(I)I"⟩
abbrev cM_next : ByteArray := prog_5_method_34_code
theorem dM_next_0 : decode cM_next 0 = .ok (.aload_n 0, 1) := by decide +kernel
theorem dM_next_1 : decode cM_next 1 = .ok (.iload_n 1, 1) := by decide +kernel
theorem dM_next_2 : decode cM_next 2 = .ok (.iconst 1, 1) := by decide +kernel
theorem dM_next_3 : decode cM_next 3 = .ok (.iadd, 1) := by decide +kernel
theorem dM_next_4 : decode cM_next 4 = .ok (.invokevirtual 42, 3) := by decide +kernel
theorem dM_next_7 : decode cM_next 7 = .ok (.ireturn, 1) := by decide +kernel
def yM_fromLong : MethodName := ⟨RM, "fromLong", "(J)I"⟩
abbrev cM_fromLong : ByteArray := prog_5_method_35_code
theorem dM_fromLong_0 : decode cM_fromLong 0 = .ok (.lload_n 1, 1) := by decide +kernel
theorem dM_fromLong_1 : decode cM_fromLong 1 = .ok (.lconst 0, 1) := by decide +kernel
theorem dM_fromLong_2 : decode cM_fromLong 2 = .ok (.lcmp, 1) := by decide +kernel
theorem dM_fromLong_3 : decode cM_fromLong 3 = .ok (.ifCond .ge 18, 3) := by decide +kernel
theorem dM_fromLong_6 : decode cM_fromLong 6 = .ok (.lload_n 1, 1) := by decide +kernel
theorem dM_fromLong_7 : decode cM_fromLong 7 = .ok (.lload_n 1, 1) := by decide +kernel
theorem dM_fromLong_8 : decode cM_fromLong 8 = .ok (.lneg, 1) := by decide +kernel
theorem dM_fromLong_9 : decode cM_fromLong 9 = .ok (.lcmp, 1) := by decide +kernel
theorem dM_fromLong_10 : decode cM_fromLong 10 = .ok (.ifCond .ne 11, 3) := by decide +kernel
theorem dM_fromLong_13 : decode cM_fromLong 13 = .ok (.aload_n 0, 1) := by decide +kernel
theorem dM_fromLong_14 : decode cM_fromLong 14 = .ok (.getfield 20, 3) := by decide +kernel
theorem dM_fromLong_17 : decode cM_fromLong 17 = .ok (.invokestatic 45, 3) := by decide +kernel
theorem dM_fromLong_20 : decode cM_fromLong 20 = .ok (.ireturn, 1) := by decide +kernel
theorem dM_fromLong_21 : decode cM_fromLong 21 = .ok (.aload_n 0, 1) := by decide +kernel
theorem dM_fromLong_22 : decode cM_fromLong 22 = .ok (.iconst 0, 1) := by decide +kernel
theorem dM_fromLong_23 : decode cM_fromLong 23 = .ok (.lload_n 1, 1) := by decide +kernel
theorem dM_fromLong_24 : decode cM_fromLong 24 = .ok (.lconst 0, 1) := by decide +kernel
theorem dM_fromLong_25 : decode cM_fromLong 25 = .ok (.lcmp, 1) := by decide +kernel
theorem dM_fromLong_26 : decode cM_fromLong 26 = .ok (.ifCond .ge 8, 3) := by decide +kernel
theorem dM_fromLong_29 : decode cM_fromLong 29 = .ok (.lload_n 1, 1) := by decide +kernel
theorem dM_fromLong_30 : decode cM_fromLong 30 = .ok (.lneg, 1) := by decide +kernel
theorem dM_fromLong_31 : decode cM_fromLong 31 = .ok (.goto 4, 3) := by decide +kernel
theorem dM_fromLong_34 : decode cM_fromLong 34 = .ok (.lload_n 1, 1) := by decide +kernel
theorem dM_fromLong_35 : decode cM_fromLong 35 = .ok (.invokevirtual 31, 3) := by decide +kernel
theorem dM_fromLong_38 : decode cM_fromLong 38 = .ok (.aload_n 0, 1) := by decide +kernel
theorem dM_fromLong_39 : decode cM_fromLong 39 = .ok (.iconst 0, 1) := by decide +kernel
theorem dM_fromLong_40 : decode cM_fromLong 40 = .ok (.bipush 124, 2) := by decide +kernel
theorem dM_fromLong_42 : decode cM_fromLong 42 = .ok (.invokevirtual 35, 3) := by decide +kernel
theorem dM_fromLong_45 : decode cM_fromLong 45 = .ok (.aload_n 0, 1) := by decide +kernel
theorem dM_fromLong_46 : decode cM_fromLong 46 = .ok (.iconst 0, 1) := by decide +kernel
theorem dM_fromLong_47 : decode cM_fromLong 47 = .ok (.invokevirtual 93, 3) := by decide +kernel
theorem dM_fromLong_50 : decode cM_fromLong 50 = .ok (.aload_n 0, 1) := by decide +kernel
theorem dM_fromLong_51 : decode cM_fromLong 51 = .ok (.lload_n 1, 1) := by decide +kernel
theorem dM_fromLong_52 : decode cM_fromLong 52 = .ok (.lconst 0, 1) := by decide +kernel
theorem dM_fromLong_53 : decode cM_fromLong 53 = .ok (.lcmp, 1) := by decide +kernel
theorem dM_fromLong_54 : decode cM_fromLong 54 = .ok (.ifCond .ge 7, 3) := by decide +kernel
theorem dM_fromLong_57 : decode cM_fromLong 57 = .ok (.iconst 1, 1) := by decide +kernel
theorem dM_fromLong_58 : decode cM_fromLong 58 = .ok (.goto 4, 3) := by decide +kernel
theorem dM_fromLong_61 : decode cM_fromLong 61 = .ok (.iconst 0, 1) := by decide +kernel
theorem dM_fromLong_62 : decode cM_fromLong 62 = .ok (.aload_n 0, 1) := by decide +kernel
theorem dM_fromLong_63 : decode cM_fromLong 63 = .ok (.getfield 20, 3) := by decide +kernel
theorem dM_fromLong_66 : decode cM_fromLong 66 = .ok (.invokevirtual 96, 3) := by decide +kernel
theorem dM_fromLong_69 : decode cM_fromLong 69 = .ok (.ireturn, 1) := by decide +kernel
def yM_toLong : MethodName := ⟨RM, "toLong", "(I)J"⟩
abbrev cM_toLong : ByteArray := prog_5_method_36_code
theorem dM_toLong_0 : decode cM_toLong 0 = .ok (.ldc2_w 114, 3) := by decide +kernel
theorem dM_toLong_3 : decode cM_toLong 3 = .ok (.lstore_n 2, 1) := by decide +kernel
theorem dM_toLong_4 : decode cM_toLong 4 = .ok (.aload_n 0, 1) := by decide +kernel
theorem dM_toLong_5 : decode cM_toLong 5 = .ok (.iload_n 1, 1) := by decide +kernel
theorem dM_toLong_6 : decode cM_toLong 6 = .ok (.invokevirtual 80, 3) := by decide +kernel
theorem dM_toLong_9 : decode cM_toLong 9 = .ok (.ifCond .eq 5, 3) := by decide +kernel
theorem dM_toLong_12 : decode cM_toLong 12 = .ok (.lload_n 2, 1) := by decide +kernel
theorem dM_toLong_13 : decode cM_toLong 13 = .ok (.lreturn, 1) := by decide +kernel
theorem dM_toLong_14 : decode cM_toLong 14 = .ok (.aload_n 0, 1) := by decide +kernel
theorem dM_toLong_15 : decode cM_toLong 15 = .ok (.iload_n 1, 1) := by decide +kernel
theorem dM_toLong_16 : decode cM_toLong 16 = .ok (.invokevirtual 111, 3) := by decide +kernel
theorem dM_toLong_19 : decode cM_toLong 19 = .ok (.lconst 0, 1) := by decide +kernel
theorem dM_toLong_20 : decode cM_toLong 20 = .ok (.lstore 4, 2) := by decide +kernel
theorem dM_toLong_22 : decode cM_toLong 22 = .ok (.aload_n 0, 1) := by decide +kernel
theorem dM_toLong_23 : decode cM_toLong 23 = .ok (.iconst 0, 1) := by decide +kernel
theorem dM_toLong_24 : decode cM_toLong 24 = .ok (.bipush 63, 2) := by decide +kernel
theorem dM_toLong_26 : decode cM_toLong 26 = .ok (.invokevirtual 108, 3) := by decide +kernel
theorem dM_toLong_29 : decode cM_toLong 29 = .ok (.ifCond .ne 7, 3) := by decide +kernel
theorem dM_toLong_32 : decode cM_toLong 32 = .ok (.iconst 1, 1) := by decide +kernel
theorem dM_toLong_33 : decode cM_toLong 33 = .ok (.goto 4, 3) := by decide +kernel
theorem dM_toLong_36 : decode cM_toLong 36 = .ok (.iconst 0, 1) := by decide +kernel
theorem dM_toLong_37 : decode cM_toLong 37 = .ok (.istore 6, 2) := by decide +kernel
theorem dM_toLong_39 : decode cM_toLong 39 = .ok (.bipush 39, 2) := by decide +kernel
theorem dM_toLong_41 : decode cM_toLong 41 = .ok (.istore 7, 2) := by decide +kernel
theorem dM_toLong_43 : decode cM_toLong 43 = .ok (.iload 7, 2) := by decide +kernel
theorem dM_toLong_45 : decode cM_toLong 45 = .ok (.ifCond .lt 68, 3) := by decide +kernel
theorem dM_toLong_48 : decode cM_toLong 48 = .ok (.iload 6, 2) := by decide +kernel
theorem dM_toLong_50 : decode cM_toLong 50 = .ok (.ifCond .eq 25, 3) := by decide +kernel
theorem dM_toLong_53 : decode cM_toLong 53 = .ok (.iload 7, 2) := by decide +kernel
theorem dM_toLong_55 : decode cM_toLong 55 = .ok (.iconst 4, 1) := by decide +kernel
theorem dM_toLong_56 : decode cM_toLong 56 = .ok (.if_icmp .lt 15, 3) := by decide +kernel
theorem dM_toLong_59 : decode cM_toLong 59 = .ok (.aload_n 0, 1) := by decide +kernel
theorem dM_toLong_60 : decode cM_toLong 60 = .ok (.getfield 7, 3) := by decide +kernel
theorem dM_toLong_63 : decode cM_toLong 63 = .ok (.iconst 0, 1) := by decide +kernel
theorem dM_toLong_64 : decode cM_toLong 64 = .ok (.iload 7, 2) := by decide +kernel
theorem dM_toLong_66 : decode cM_toLong 66 = .ok (.iadd, 1) := by decide +kernel
theorem dM_toLong_67 : decode cM_toLong 67 = .ok (.iaload, 1) := by decide +kernel
theorem dM_toLong_68 : decode cM_toLong 68 = .ok (.ifCond .ne 7, 3) := by decide +kernel
theorem dM_toLong_71 : decode cM_toLong 71 = .ok (.iconst 1, 1) := by decide +kernel
theorem dM_toLong_72 : decode cM_toLong 72 = .ok (.goto 4, 3) := by decide +kernel
theorem dM_toLong_75 : decode cM_toLong 75 = .ok (.iconst 0, 1) := by decide +kernel
theorem dM_toLong_76 : decode cM_toLong 76 = .ok (.istore 6, 2) := by decide +kernel
theorem dM_toLong_78 : decode cM_toLong 78 = .ok (.iload 7, 2) := by decide +kernel
theorem dM_toLong_80 : decode cM_toLong 80 = .ok (.iconst 4, 1) := by decide +kernel
theorem dM_toLong_81 : decode cM_toLong 81 = .ok (.if_icmp .ge 22, 3) := by decide +kernel
theorem dM_toLong_84 : decode cM_toLong 84 = .ok (.lload 4, 2) := by decide +kernel
theorem dM_toLong_86 : decode cM_toLong 86 = .ok (.bipush 16, 2) := by decide +kernel
theorem dM_toLong_88 : decode cM_toLong 88 = .ok (.lshl, 1) := by decide +kernel
theorem dM_toLong_89 : decode cM_toLong 89 = .ok (.aload_n 0, 1) := by decide +kernel
theorem dM_toLong_90 : decode cM_toLong 90 = .ok (.getfield 7, 3) := by decide +kernel
theorem dM_toLong_93 : decode cM_toLong 93 = .ok (.iconst 0, 1) := by decide +kernel
theorem dM_toLong_94 : decode cM_toLong 94 = .ok (.iload 7, 2) := by decide +kernel
theorem dM_toLong_96 : decode cM_toLong 96 = .ok (.iadd, 1) := by decide +kernel
theorem dM_toLong_97 : decode cM_toLong 97 = .ok (.iaload, 1) := by decide +kernel
theorem dM_toLong_98 : decode cM_toLong 98 = .ok (.i2l, 1) := by decide +kernel
theorem dM_toLong_99 : decode cM_toLong 99 = .ok (.lor, 1) := by decide +kernel
theorem dM_toLong_100 : decode cM_toLong 100 = .ok (.goto 5, 3) := by decide +kernel
theorem dM_toLong_103 : decode cM_toLong 103 = .ok (.lload 4, 2) := by decide +kernel
theorem dM_toLong_105 : decode cM_toLong 105 = .ok (.lstore 4, 2) := by decide +kernel
theorem dM_toLong_107 : decode cM_toLong 107 = .ok (.iinc 7 (-1), 3) := by decide +kernel
theorem dM_toLong_110 : decode cM_toLong 110 = .ok (.goto (-67), 3) := by decide +kernel
theorem dM_toLong_113 : decode cM_toLong 113 = .ok (.iload 6, 2) := by decide +kernel
theorem dM_toLong_115 : decode cM_toLong 115 = .ok (.ifCond .ne 7, 3) := by decide +kernel
theorem dM_toLong_118 : decode cM_toLong 118 = .ok (.lload_n 2, 1) := by decide +kernel
theorem dM_toLong_119 : decode cM_toLong 119 = .ok (.goto 19, 3) := by decide +kernel
theorem dM_toLong_122 : decode cM_toLong 122 = .ok (.aload_n 0, 1) := by decide +kernel
theorem dM_toLong_123 : decode cM_toLong 123 = .ok (.iload_n 1, 1) := by decide +kernel
theorem dM_toLong_124 : decode cM_toLong 124 = .ok (.invokevirtual 86, 3) := by decide +kernel
theorem dM_toLong_127 : decode cM_toLong 127 = .ok (.ifCond .eq 9, 3) := by decide +kernel
theorem dM_toLong_130 : decode cM_toLong 130 = .ok (.lload 4, 2) := by decide +kernel
theorem dM_toLong_132 : decode cM_toLong 132 = .ok (.lneg, 1) := by decide +kernel
theorem dM_toLong_133 : decode cM_toLong 133 = .ok (.goto 5, 3) := by decide +kernel
theorem dM_toLong_136 : decode cM_toLong 136 = .ok (.lload 4, 2) := by decide +kernel
theorem dM_toLong_138 : decode cM_toLong 138 = .ok (.lreturn, 1) := by decide +kernel
def yM_convert : MethodName := ⟨RM, "convert", "(II)I"⟩
abbrev cM_convert : ByteArray := prog_5_method_37_code
theorem dM_convert_0 : decode cM_convert 0 = .ok (.iload_n 2, 1) := by decide +kernel
theorem dM_convert_1 : decode cM_convert 1 = .ok (.invokestatic 16, 3) := by decide +kernel
theorem dM_convert_4 : decode cM_convert 4 = .ok (.istore_n 3, 1) := by decide +kernel
theorem dM_convert_5 : decode cM_convert 5 = .ok (.aload_n 0, 1) := by decide +kernel
theorem dM_convert_6 : decode cM_convert 6 = .ok (.iload_n 1, 1) := by decide +kernel
theorem dM_convert_7 : decode cM_convert 7 = .ok (.invokevirtual 80, 3) := by decide +kernel
theorem dM_convert_10 : decode cM_convert 10 = .ok (.ifCond .eq 8, 3) := by decide +kernel
theorem dM_convert_13 : decode cM_convert 13 = .ok (.iload_n 3, 1) := by decide +kernel
theorem dM_convert_14 : decode cM_convert 14 = .ok (.invokestatic 45, 3) := by decide +kernel
theorem dM_convert_17 : decode cM_convert 17 = .ok (.ireturn, 1) := by decide +kernel
theorem dM_convert_18 : decode cM_convert 18 = .ok (.aload_n 0, 1) := by decide +kernel
theorem dM_convert_19 : decode cM_convert 19 = .ok (.iconst 0, 1) := by decide +kernel
theorem dM_convert_20 : decode cM_convert 20 = .ok (.iload_n 1, 1) := by decide +kernel
theorem dM_convert_21 : decode cM_convert 21 = .ok (.bipush 124, 2) := by decide +kernel
theorem dM_convert_23 : decode cM_convert 23 = .ok (.invokevirtual 83, 3) := by decide +kernel
theorem dM_convert_26 : decode cM_convert 26 = .ok (.aload_n 0, 1) := by decide +kernel
theorem dM_convert_27 : decode cM_convert 27 = .ok (.iconst 0, 1) := by decide +kernel
theorem dM_convert_28 : decode cM_convert 28 = .ok (.invokevirtual 93, 3) := by decide +kernel
theorem dM_convert_31 : decode cM_convert 31 = .ok (.aload_n 0, 1) := by decide +kernel
theorem dM_convert_32 : decode cM_convert 32 = .ok (.aload_n 0, 1) := by decide +kernel
theorem dM_convert_33 : decode cM_convert 33 = .ok (.iload_n 1, 1) := by decide +kernel
theorem dM_convert_34 : decode cM_convert 34 = .ok (.invokevirtual 86, 3) := by decide +kernel
theorem dM_convert_37 : decode cM_convert 37 = .ok (.iload_n 3, 1) := by decide +kernel
theorem dM_convert_38 : decode cM_convert 38 = .ok (.invokevirtual 96, 3) := by decide +kernel
theorem dM_convert_41 : decode cM_convert 41 = .ok (.ireturn, 1) := by decide +kernel
def yM_isSum : MethodName := ⟨RM, "isSum", "(I)Z"⟩
abbrev cM_isSum : ByteArray := prog_5_method_38_code
theorem dM_isSum_0 : decode cM_isSum 0 = .ok (.iload_n 0, 1) := by decide +kernel
theorem dM_isSum_1 : decode cM_isSum 1 = .ok (.ifCond .eq 8, 3) := by decide +kernel
theorem dM_isSum_4 : decode cM_isSum 4 = .ok (.iload_n 0, 1) := by decide +kernel
theorem dM_isSum_5 : decode cM_isSum 5 = .ok (.iconst 1, 1) := by decide +kernel
theorem dM_isSum_6 : decode cM_isSum 6 = .ok (.if_icmp .ne 7, 3) := by decide +kernel
theorem dM_isSum_9 : decode cM_isSum 9 = .ok (.iconst 1, 1) := by decide +kernel
theorem dM_isSum_10 : decode cM_isSum 10 = .ok (.goto 4, 3) := by decide +kernel
theorem dM_isSum_13 : decode cM_isSum 13 = .ok (.iconst 0, 1) := by decide +kernel
theorem dM_isSum_14 : decode cM_isSum 14 = .ok (.ireturn, 1) := by decide +kernel
def yM_lost : MethodName := ⟨RM, "lost", "(I)Z"⟩
abbrev cM_lost : ByteArray := prog_5_method_39_code
theorem dM_lost_0 : decode cM_lost 0 = .ok (.aload_n 0, 1) := by decide +kernel
theorem dM_lost_1 : decode cM_lost 1 = .ok (.getfield 13, 3) := by decide +kernel
theorem dM_lost_4 : decode cM_lost 4 = .ok (.bipush 32, 2) := by decide +kernel
theorem dM_lost_6 : decode cM_lost 6 = .ok (.iload_n 1, 1) := by decide +kernel
theorem dM_lost_7 : decode cM_lost 7 = .ok (.imul, 1) := by decide +kernel
theorem dM_lost_8 : decode cM_lost 8 = .ok (.aload_n 0, 1) := by decide +kernel
theorem dM_lost_9 : decode cM_lost 9 = .ok (.getfield 20, 3) := by decide +kernel
theorem dM_lost_12 : decode cM_lost 12 = .ok (.iadd, 1) := by decide +kernel
theorem dM_lost_13 : decode cM_lost 13 = .ok (.iconst 1, 1) := by decide +kernel
theorem dM_lost_14 : decode cM_lost 14 = .ok (.isub, 1) := by decide +kernel
theorem dM_lost_15 : decode cM_lost 15 = .ok (.iaload, 1) := by decide +kernel
theorem dM_lost_16 : decode cM_lost 16 = .ok (.ldc 116, 2) := by decide +kernel
theorem dM_lost_18 : decode cM_lost 18 = .ok (.if_icmp .ne 7, 3) := by decide +kernel
theorem dM_lost_21 : decode cM_lost 21 = .ok (.iconst 1, 1) := by decide +kernel
theorem dM_lost_22 : decode cM_lost 22 = .ok (.goto 4, 3) := by decide +kernel
theorem dM_lost_25 : decode cM_lost 25 = .ok (.iconst 0, 1) := by decide +kernel
theorem dM_lost_26 : decode cM_lost 26 = .ok (.istore_n 2, 1) := by decide +kernel
theorem dM_lost_27 : decode cM_lost 27 = .ok (.iconst 0, 1) := by decide +kernel
theorem dM_lost_28 : decode cM_lost 28 = .ok (.istore_n 3, 1) := by decide +kernel
theorem dM_lost_29 : decode cM_lost 29 = .ok (.iload_n 3, 1) := by decide +kernel
theorem dM_lost_30 : decode cM_lost 30 = .ok (.aload_n 0, 1) := by decide +kernel
theorem dM_lost_31 : decode cM_lost 31 = .ok (.getfield 20, 3) := by decide +kernel
theorem dM_lost_34 : decode cM_lost 34 = .ok (.iconst 1, 1) := by decide +kernel
theorem dM_lost_35 : decode cM_lost 35 = .ok (.isub, 1) := by decide +kernel
theorem dM_lost_36 : decode cM_lost 36 = .ok (.if_icmp .ge 33, 3) := by decide +kernel
theorem dM_lost_39 : decode cM_lost 39 = .ok (.iload_n 2, 1) := by decide +kernel
theorem dM_lost_40 : decode cM_lost 40 = .ok (.ifCond .eq 21, 3) := by decide +kernel
theorem dM_lost_43 : decode cM_lost 43 = .ok (.aload_n 0, 1) := by decide +kernel
theorem dM_lost_44 : decode cM_lost 44 = .ok (.getfield 13, 3) := by decide +kernel
theorem dM_lost_47 : decode cM_lost 47 = .ok (.bipush 32, 2) := by decide +kernel
theorem dM_lost_49 : decode cM_lost 49 = .ok (.iload_n 1, 1) := by decide +kernel
theorem dM_lost_50 : decode cM_lost 50 = .ok (.imul, 1) := by decide +kernel
theorem dM_lost_51 : decode cM_lost 51 = .ok (.iload_n 3, 1) := by decide +kernel
theorem dM_lost_52 : decode cM_lost 52 = .ok (.iadd, 1) := by decide +kernel
theorem dM_lost_53 : decode cM_lost 53 = .ok (.iaload, 1) := by decide +kernel
theorem dM_lost_54 : decode cM_lost 54 = .ok (.ifCond .ne 7, 3) := by decide +kernel
theorem dM_lost_57 : decode cM_lost 57 = .ok (.iconst 1, 1) := by decide +kernel
theorem dM_lost_58 : decode cM_lost 58 = .ok (.goto 4, 3) := by decide +kernel
theorem dM_lost_61 : decode cM_lost 61 = .ok (.iconst 0, 1) := by decide +kernel
theorem dM_lost_62 : decode cM_lost 62 = .ok (.istore_n 2, 1) := by decide +kernel
theorem dM_lost_63 : decode cM_lost 63 = .ok (.iinc 3 1, 3) := by decide +kernel
theorem dM_lost_66 : decode cM_lost 66 = .ok (.goto (-37), 3) := by decide +kernel
theorem dM_lost_69 : decode cM_lost 69 = .ok (.iload_n 2, 1) := by decide +kernel
theorem dM_lost_70 : decode cM_lost 70 = .ok (.ireturn, 1) := by decide +kernel
def yM_lose : MethodName := ⟨RM, "lose", "(I)V"⟩
abbrev cM_lose : ByteArray := prog_5_method_40_code
theorem dM_lose_0 : decode cM_lose 0 = .ok (.iconst 0, 1) := by decide +kernel
theorem dM_lose_1 : decode cM_lose 1 = .ok (.istore_n 2, 1) := by decide +kernel
theorem dM_lose_2 : decode cM_lose 2 = .ok (.iload_n 2, 1) := by decide +kernel
theorem dM_lose_3 : decode cM_lose 3 = .ok (.aload_n 0, 1) := by decide +kernel
theorem dM_lose_4 : decode cM_lose 4 = .ok (.getfield 20, 3) := by decide +kernel
theorem dM_lose_7 : decode cM_lose 7 = .ok (.if_icmp .ge 36, 3) := by decide +kernel
theorem dM_lose_10 : decode cM_lose 10 = .ok (.aload_n 0, 1) := by decide +kernel
theorem dM_lose_11 : decode cM_lose 11 = .ok (.getfield 13, 3) := by decide +kernel
theorem dM_lose_14 : decode cM_lose 14 = .ok (.bipush 32, 2) := by decide +kernel
theorem dM_lose_16 : decode cM_lose 16 = .ok (.iload_n 1, 1) := by decide +kernel
theorem dM_lose_17 : decode cM_lose 17 = .ok (.imul, 1) := by decide +kernel
theorem dM_lose_18 : decode cM_lose 18 = .ok (.iload_n 2, 1) := by decide +kernel
theorem dM_lose_19 : decode cM_lose 19 = .ok (.iadd, 1) := by decide +kernel
theorem dM_lose_20 : decode cM_lose 20 = .ok (.iload_n 2, 1) := by decide +kernel
theorem dM_lose_21 : decode cM_lose 21 = .ok (.aload_n 0, 1) := by decide +kernel
theorem dM_lose_22 : decode cM_lose 22 = .ok (.getfield 20, 3) := by decide +kernel
theorem dM_lose_25 : decode cM_lose 25 = .ok (.iconst 1, 1) := by decide +kernel
theorem dM_lose_26 : decode cM_lose 26 = .ok (.isub, 1) := by decide +kernel
theorem dM_lose_27 : decode cM_lose 27 = .ok (.if_icmp .ne 8, 3) := by decide +kernel
theorem dM_lose_30 : decode cM_lose 30 = .ok (.ldc 116, 2) := by decide +kernel
theorem dM_lose_32 : decode cM_lose 32 = .ok (.goto 4, 3) := by decide +kernel
theorem dM_lose_35 : decode cM_lose 35 = .ok (.iconst 0, 1) := by decide +kernel
theorem dM_lose_36 : decode cM_lose 36 = .ok (.iastore, 1) := by decide +kernel
theorem dM_lose_37 : decode cM_lose 37 = .ok (.iinc 2 1, 3) := by decide +kernel
theorem dM_lose_40 : decode cM_lose 40 = .ok (.goto (-38), 3) := by decide +kernel
theorem dM_lose_43 : decode cM_lose 43 = .ok (.return_, 1) := by decide +kernel
def yM_clear : MethodName := ⟨RM, "clear", "(I)Z"⟩
abbrev cM_clear : ByteArray := prog_5_method_41_code
theorem dM_clear_0 : decode cM_clear 0 = .ok (.iload_n 1, 1) := by decide +kernel
theorem dM_clear_1 : decode cM_clear 1 = .ok (.invokestatic 117, 3) := by decide +kernel
theorem dM_clear_4 : decode cM_clear 4 = .ok (.ifCond .ne 5, 3) := by decide +kernel
theorem dM_clear_7 : decode cM_clear 7 = .ok (.iconst 0, 1) := by decide +kernel
theorem dM_clear_8 : decode cM_clear 8 = .ok (.ireturn, 1) := by decide +kernel
theorem dM_clear_9 : decode cM_clear 9 = .ok (.iconst 0, 1) := by decide +kernel
theorem dM_clear_10 : decode cM_clear 10 = .ok (.istore_n 2, 1) := by decide +kernel
theorem dM_clear_11 : decode cM_clear 11 = .ok (.iload_n 2, 1) := by decide +kernel
theorem dM_clear_12 : decode cM_clear 12 = .ok (.aload_n 0, 1) := by decide +kernel
theorem dM_clear_13 : decode cM_clear 13 = .ok (.getfield 20, 3) := by decide +kernel
theorem dM_clear_16 : decode cM_clear 16 = .ok (.if_icmp .ge 21, 3) := by decide +kernel
theorem dM_clear_19 : decode cM_clear 19 = .ok (.aload_n 0, 1) := by decide +kernel
theorem dM_clear_20 : decode cM_clear 20 = .ok (.getfield 13, 3) := by decide +kernel
theorem dM_clear_23 : decode cM_clear 23 = .ok (.bipush 32, 2) := by decide +kernel
theorem dM_clear_25 : decode cM_clear 25 = .ok (.iload_n 1, 1) := by decide +kernel
theorem dM_clear_26 : decode cM_clear 26 = .ok (.imul, 1) := by decide +kernel
theorem dM_clear_27 : decode cM_clear 27 = .ok (.iload_n 2, 1) := by decide +kernel
theorem dM_clear_28 : decode cM_clear 28 = .ok (.iadd, 1) := by decide +kernel
theorem dM_clear_29 : decode cM_clear 29 = .ok (.iconst 0, 1) := by decide +kernel
theorem dM_clear_30 : decode cM_clear 30 = .ok (.iastore, 1) := by decide +kernel
theorem dM_clear_31 : decode cM_clear 31 = .ok (.iinc 2 1, 3) := by decide +kernel
theorem dM_clear_34 : decode cM_clear 34 = .ok (.goto (-23), 3) := by decide +kernel
theorem dM_clear_37 : decode cM_clear 37 = .ok (.iconst 1, 1) := by decide +kernel
theorem dM_clear_38 : decode cM_clear 38 = .ok (.ireturn, 1) := by decide +kernel
def yM_pour : MethodName := ⟨RM, "pour", "(IIZ)V"⟩
abbrev cM_pour : ByteArray := prog_5_method_42_code
theorem dM_pour_0 : decode cM_pour 0 = .ok (.iconst 0, 1) := by decide +kernel
theorem dM_pour_1 : decode cM_pour 1 = .ok (.istore 4, 2) := by decide +kernel
theorem dM_pour_3 : decode cM_pour 3 = .ok (.iconst 0, 1) := by decide +kernel
theorem dM_pour_4 : decode cM_pour 4 = .ok (.istore 5, 2) := by decide +kernel
theorem dM_pour_6 : decode cM_pour 6 = .ok (.iload 5, 2) := by decide +kernel
theorem dM_pour_8 : decode cM_pour 8 = .ok (.aload_n 0, 1) := by decide +kernel
theorem dM_pour_9 : decode cM_pour 9 = .ok (.getfield 20, 3) := by decide +kernel
theorem dM_pour_12 : decode cM_pour 12 = .ok (.if_icmp .ge 83, 3) := by decide +kernel
theorem dM_pour_15 : decode cM_pour 15 = .ok (.aload_n 0, 1) := by decide +kernel
theorem dM_pour_16 : decode cM_pour 16 = .ok (.getfield 13, 3) := by decide +kernel
theorem dM_pour_19 : decode cM_pour 19 = .ok (.bipush 32, 2) := by decide +kernel
theorem dM_pour_21 : decode cM_pour 21 = .ok (.iload_n 1, 1) := by decide +kernel
theorem dM_pour_22 : decode cM_pour 22 = .ok (.imul, 1) := by decide +kernel
theorem dM_pour_23 : decode cM_pour 23 = .ok (.iload 5, 2) := by decide +kernel
theorem dM_pour_25 : decode cM_pour 25 = .ok (.iadd, 1) := by decide +kernel
theorem dM_pour_26 : decode cM_pour 26 = .ok (.iaload, 1) := by decide +kernel
theorem dM_pour_27 : decode cM_pour 27 = .ok (.iload_n 3, 1) := by decide +kernel
theorem dM_pour_28 : decode cM_pour 28 = .ok (.ifCond .eq 19, 3) := by decide +kernel
theorem dM_pour_31 : decode cM_pour 31 = .ok (.aload_n 0, 1) := by decide +kernel
theorem dM_pour_32 : decode cM_pour 32 = .ok (.getfield 7, 3) := by decide +kernel
theorem dM_pour_35 : decode cM_pour 35 = .ok (.bipush 40, 2) := by decide +kernel
theorem dM_pour_37 : decode cM_pour 37 = .ok (.iload_n 2, 1) := by decide +kernel
theorem dM_pour_38 : decode cM_pour 38 = .ok (.imul, 1) := by decide +kernel
theorem dM_pour_39 : decode cM_pour 39 = .ok (.iload 5, 2) := by decide +kernel
theorem dM_pour_41 : decode cM_pour 41 = .ok (.iadd, 1) := by decide +kernel
theorem dM_pour_42 : decode cM_pour 42 = .ok (.iaload, 1) := by decide +kernel
theorem dM_pour_43 : decode cM_pour 43 = .ok (.ineg, 1) := by decide +kernel
theorem dM_pour_44 : decode cM_pour 44 = .ok (.goto 15, 3) := by decide +kernel
theorem dM_pour_47 : decode cM_pour 47 = .ok (.aload_n 0, 1) := by decide +kernel
theorem dM_pour_48 : decode cM_pour 48 = .ok (.getfield 7, 3) := by decide +kernel
theorem dM_pour_51 : decode cM_pour 51 = .ok (.bipush 40, 2) := by decide +kernel
theorem dM_pour_53 : decode cM_pour 53 = .ok (.iload_n 2, 1) := by decide +kernel
theorem dM_pour_54 : decode cM_pour 54 = .ok (.imul, 1) := by decide +kernel
theorem dM_pour_55 : decode cM_pour 55 = .ok (.iload 5, 2) := by decide +kernel
theorem dM_pour_57 : decode cM_pour 57 = .ok (.iadd, 1) := by decide +kernel
theorem dM_pour_58 : decode cM_pour 58 = .ok (.iaload, 1) := by decide +kernel
theorem dM_pour_59 : decode cM_pour 59 = .ok (.iadd, 1) := by decide +kernel
theorem dM_pour_60 : decode cM_pour 60 = .ok (.iload 4, 2) := by decide +kernel
theorem dM_pour_62 : decode cM_pour 62 = .ok (.iadd, 1) := by decide +kernel
theorem dM_pour_63 : decode cM_pour 63 = .ok (.istore 6, 2) := by decide +kernel
theorem dM_pour_65 : decode cM_pour 65 = .ok (.aload_n 0, 1) := by decide +kernel
theorem dM_pour_66 : decode cM_pour 66 = .ok (.getfield 13, 3) := by decide +kernel
theorem dM_pour_69 : decode cM_pour 69 = .ok (.bipush 32, 2) := by decide +kernel
theorem dM_pour_71 : decode cM_pour 71 = .ok (.iload_n 1, 1) := by decide +kernel
theorem dM_pour_72 : decode cM_pour 72 = .ok (.imul, 1) := by decide +kernel
theorem dM_pour_73 : decode cM_pour 73 = .ok (.iload 5, 2) := by decide +kernel
theorem dM_pour_75 : decode cM_pour 75 = .ok (.iadd, 1) := by decide +kernel
theorem dM_pour_76 : decode cM_pour 76 = .ok (.iload 6, 2) := by decide +kernel
theorem dM_pour_78 : decode cM_pour 78 = .ok (.ldc 24, 2) := by decide +kernel
theorem dM_pour_80 : decode cM_pour 80 = .ok (.iand, 1) := by decide +kernel
theorem dM_pour_81 : decode cM_pour 81 = .ok (.iastore, 1) := by decide +kernel
theorem dM_pour_82 : decode cM_pour 82 = .ok (.iload 6, 2) := by decide +kernel
theorem dM_pour_84 : decode cM_pour 84 = .ok (.bipush 16, 2) := by decide +kernel
theorem dM_pour_86 : decode cM_pour 86 = .ok (.ishr, 1) := by decide +kernel
theorem dM_pour_87 : decode cM_pour 87 = .ok (.istore 4, 2) := by decide +kernel
theorem dM_pour_89 : decode cM_pour 89 = .ok (.iinc 5 1, 3) := by decide +kernel
theorem dM_pour_92 : decode cM_pour 92 = .ok (.goto (-86), 3) := by decide +kernel
theorem dM_pour_95 : decode cM_pour 95 = .ok (.return_, 1) := by decide +kernel
def yM_collect : MethodName := ⟨RM, "collect", "(IIIZ)Z"⟩
abbrev cM_collect : ByteArray := prog_5_method_43_code
theorem dM_collect_0 : decode cM_collect 0 = .ok (.iload_n 1, 1) := by decide +kernel
theorem dM_collect_1 : decode cM_collect 1 = .ok (.invokestatic 117, 3) := by decide +kernel
theorem dM_collect_4 : decode cM_collect 4 = .ok (.ifCond .ne 5, 3) := by decide +kernel
theorem dM_collect_7 : decode cM_collect 7 = .ok (.iconst 0, 1) := by decide +kernel
theorem dM_collect_8 : decode cM_collect 8 = .ok (.ireturn, 1) := by decide +kernel
theorem dM_collect_9 : decode cM_collect 9 = .ok (.aload_n 0, 1) := by decide +kernel
theorem dM_collect_10 : decode cM_collect 10 = .ok (.iload_n 2, 1) := by decide +kernel
theorem dM_collect_11 : decode cM_collect 11 = .ok (.invokevirtual 80, 3) := by decide +kernel
theorem dM_collect_14 : decode cM_collect 14 = .ok (.ifCond .ne 11, 3) := by decide +kernel
theorem dM_collect_17 : decode cM_collect 17 = .ok (.aload_n 0, 1) := by decide +kernel
theorem dM_collect_18 : decode cM_collect 18 = .ok (.iload_n 3, 1) := by decide +kernel
theorem dM_collect_19 : decode cM_collect 19 = .ok (.invokevirtual 80, 3) := by decide +kernel
theorem dM_collect_22 : decode cM_collect 22 = .ok (.ifCond .eq 8, 3) := by decide +kernel
theorem dM_collect_25 : decode cM_collect 25 = .ok (.aload_n 0, 1) := by decide +kernel
theorem dM_collect_26 : decode cM_collect 26 = .ok (.iload_n 1, 1) := by decide +kernel
theorem dM_collect_27 : decode cM_collect 27 = .ok (.invokevirtual 120, 3) := by decide +kernel
theorem dM_collect_30 : decode cM_collect 30 = .ok (.aload_n 0, 1) := by decide +kernel
theorem dM_collect_31 : decode cM_collect 31 = .ok (.iload_n 1, 1) := by decide +kernel
theorem dM_collect_32 : decode cM_collect 32 = .ok (.invokevirtual 123, 3) := by decide +kernel
theorem dM_collect_35 : decode cM_collect 35 = .ok (.ifCond .eq 5, 3) := by decide +kernel
theorem dM_collect_38 : decode cM_collect 38 = .ok (.iconst 1, 1) := by decide +kernel
theorem dM_collect_39 : decode cM_collect 39 = .ok (.ireturn, 1) := by decide +kernel
theorem dM_collect_40 : decode cM_collect 40 = .ok (.aload_n 0, 1) := by decide +kernel
theorem dM_collect_41 : decode cM_collect 41 = .ok (.iconst 1, 1) := by decide +kernel
theorem dM_collect_42 : decode cM_collect 42 = .ok (.iload_n 2, 1) := by decide +kernel
theorem dM_collect_43 : decode cM_collect 43 = .ok (.iconst 4, 1) := by decide +kernel
theorem dM_collect_44 : decode cM_collect 44 = .ok (.aload_n 0, 1) := by decide +kernel
theorem dM_collect_45 : decode cM_collect 45 = .ok (.getfield 20, 3) := by decide +kernel
theorem dM_collect_48 : decode cM_collect 48 = .ok (.imul, 1) := by decide +kernel
theorem dM_collect_49 : decode cM_collect 49 = .ok (.bipush 8, 2) := by decide +kernel
theorem dM_collect_51 : decode cM_collect 51 = .ok (.isub, 1) := by decide +kernel
theorem dM_collect_52 : decode cM_collect 52 = .ok (.invokevirtual 83, 3) := by decide +kernel
theorem dM_collect_55 : decode cM_collect 55 = .ok (.aload_n 0, 1) := by decide +kernel
theorem dM_collect_56 : decode cM_collect 56 = .ok (.iconst 2, 1) := by decide +kernel
theorem dM_collect_57 : decode cM_collect 57 = .ok (.iload_n 3, 1) := by decide +kernel
theorem dM_collect_58 : decode cM_collect 58 = .ok (.iconst 4, 1) := by decide +kernel
theorem dM_collect_59 : decode cM_collect 59 = .ok (.aload_n 0, 1) := by decide +kernel
theorem dM_collect_60 : decode cM_collect 60 = .ok (.getfield 20, 3) := by decide +kernel
theorem dM_collect_63 : decode cM_collect 63 = .ok (.imul, 1) := by decide +kernel
theorem dM_collect_64 : decode cM_collect 64 = .ok (.bipush 8, 2) := by decide +kernel
theorem dM_collect_66 : decode cM_collect 66 = .ok (.isub, 1) := by decide +kernel
theorem dM_collect_67 : decode cM_collect 67 = .ok (.invokevirtual 83, 3) := by decide +kernel
theorem dM_collect_70 : decode cM_collect 70 = .ok (.aload_n 0, 1) := by decide +kernel
theorem dM_collect_71 : decode cM_collect 71 = .ok (.iconst 1, 1) := by decide +kernel
theorem dM_collect_72 : decode cM_collect 72 = .ok (.iconst 2, 1) := by decide +kernel
theorem dM_collect_73 : decode cM_collect 73 = .ok (.iconst 0, 1) := by decide +kernel
theorem dM_collect_74 : decode cM_collect 74 = .ok (.invokevirtual 56, 3) := by decide +kernel
theorem dM_collect_77 : decode cM_collect 77 = .ok (.aload_n 0, 1) := by decide +kernel
theorem dM_collect_78 : decode cM_collect 78 = .ok (.iload_n 1, 1) := by decide +kernel
theorem dM_collect_79 : decode cM_collect 79 = .ok (.iconst 0, 1) := by decide +kernel
theorem dM_collect_80 : decode cM_collect 80 = .ok (.iload 4, 2) := by decide +kernel
theorem dM_collect_82 : decode cM_collect 82 = .ok (.aload_n 0, 1) := by decide +kernel
theorem dM_collect_83 : decode cM_collect 83 = .ok (.iload_n 2, 1) := by decide +kernel
theorem dM_collect_84 : decode cM_collect 84 = .ok (.invokevirtual 86, 3) := by decide +kernel
theorem dM_collect_87 : decode cM_collect 87 = .ok (.aload_n 0, 1) := by decide +kernel
theorem dM_collect_88 : decode cM_collect 88 = .ok (.iload_n 3, 1) := by decide +kernel
theorem dM_collect_89 : decode cM_collect 89 = .ok (.invokevirtual 86, 3) := by decide +kernel
theorem dM_collect_92 : decode cM_collect 92 = .ok (.if_icmp .eq 7, 3) := by decide +kernel
theorem dM_collect_95 : decode cM_collect 95 = .ok (.iconst 1, 1) := by decide +kernel
theorem dM_collect_96 : decode cM_collect 96 = .ok (.goto 4, 3) := by decide +kernel
theorem dM_collect_99 : decode cM_collect 99 = .ok (.iconst 0, 1) := by decide +kernel
theorem dM_collect_100 : decode cM_collect 100 = .ok (.if_icmp .eq 7, 3) := by decide +kernel
theorem dM_collect_103 : decode cM_collect 103 = .ok (.iconst 1, 1) := by decide +kernel
theorem dM_collect_104 : decode cM_collect 104 = .ok (.goto 4, 3) := by decide +kernel
theorem dM_collect_107 : decode cM_collect 107 = .ok (.iconst 0, 1) := by decide +kernel
theorem dM_collect_108 : decode cM_collect 108 = .ok (.invokevirtual 126, 3) := by decide +kernel
theorem dM_collect_111 : decode cM_collect 111 = .ok (.iconst 1, 1) := by decide +kernel
theorem dM_collect_112 : decode cM_collect 112 = .ok (.ireturn, 1) := by decide +kernel
def yM_draw : MethodName := ⟨RM, "draw", "(II)V"⟩
abbrev cM_draw : ByteArray := prog_5_method_44_code
theorem dM_draw_0 : decode cM_draw 0 = .ok (.aload_n 0, 1) := by decide +kernel
theorem dM_draw_1 : decode cM_draw 1 = .ok (.iload_n 2, 1) := by decide +kernel
theorem dM_draw_2 : decode cM_draw 2 = .ok (.invokevirtual 25, 3) := by decide +kernel
theorem dM_draw_5 : decode cM_draw 5 = .ok (.iconst 0, 1) := by decide +kernel
theorem dM_draw_6 : decode cM_draw 6 = .ok (.istore_n 3, 1) := by decide +kernel
theorem dM_draw_7 : decode cM_draw 7 = .ok (.iload_n 3, 1) := by decide +kernel
theorem dM_draw_8 : decode cM_draw 8 = .ok (.aload_n 0, 1) := by decide +kernel
theorem dM_draw_9 : decode cM_draw 9 = .ok (.getfield 20, 3) := by decide +kernel
theorem dM_draw_12 : decode cM_draw 12 = .ok (.if_icmp .ge 31, 3) := by decide +kernel
theorem dM_draw_15 : decode cM_draw 15 = .ok (.aload_n 0, 1) := by decide +kernel
theorem dM_draw_16 : decode cM_draw 16 = .ok (.getfield 7, 3) := by decide +kernel
theorem dM_draw_19 : decode cM_draw 19 = .ok (.bipush 40, 2) := by decide +kernel
theorem dM_draw_21 : decode cM_draw 21 = .ok (.iload_n 2, 1) := by decide +kernel
theorem dM_draw_22 : decode cM_draw 22 = .ok (.imul, 1) := by decide +kernel
theorem dM_draw_23 : decode cM_draw 23 = .ok (.iload_n 3, 1) := by decide +kernel
theorem dM_draw_24 : decode cM_draw 24 = .ok (.iadd, 1) := by decide +kernel
theorem dM_draw_25 : decode cM_draw 25 = .ok (.aload_n 0, 1) := by decide +kernel
theorem dM_draw_26 : decode cM_draw 26 = .ok (.getfield 13, 3) := by decide +kernel
theorem dM_draw_29 : decode cM_draw 29 = .ok (.bipush 32, 2) := by decide +kernel
theorem dM_draw_31 : decode cM_draw 31 = .ok (.iload_n 1, 1) := by decide +kernel
theorem dM_draw_32 : decode cM_draw 32 = .ok (.imul, 1) := by decide +kernel
theorem dM_draw_33 : decode cM_draw 33 = .ok (.iload_n 3, 1) := by decide +kernel
theorem dM_draw_34 : decode cM_draw 34 = .ok (.iadd, 1) := by decide +kernel
theorem dM_draw_35 : decode cM_draw 35 = .ok (.iaload, 1) := by decide +kernel
theorem dM_draw_36 : decode cM_draw 36 = .ok (.iastore, 1) := by decide +kernel
theorem dM_draw_37 : decode cM_draw 37 = .ok (.iinc 3 1, 3) := by decide +kernel
theorem dM_draw_40 : decode cM_draw 40 = .ok (.goto (-33), 3) := by decide +kernel
theorem dM_draw_43 : decode cM_draw 43 = .ok (.return_, 1) := by decide +kernel
def yM_merge : MethodName := ⟨RM, "merge", "(I)Z"⟩
abbrev cM_merge : ByteArray := prog_5_method_45_code
theorem dM_merge_0 : decode cM_merge 0 = .ok (.iload_n 1, 1) := by decide +kernel
theorem dM_merge_1 : decode cM_merge 1 = .ok (.invokestatic 117, 3) := by decide +kernel
theorem dM_merge_4 : decode cM_merge 4 = .ok (.ifCond .ne 5, 3) := by decide +kernel
theorem dM_merge_7 : decode cM_merge 7 = .ok (.iconst 0, 1) := by decide +kernel
theorem dM_merge_8 : decode cM_merge 8 = .ok (.ireturn, 1) := by decide +kernel
theorem dM_merge_9 : decode cM_merge 9 = .ok (.aload_n 0, 1) := by decide +kernel
theorem dM_merge_10 : decode cM_merge 10 = .ok (.iconst 1, 1) := by decide +kernel
theorem dM_merge_11 : decode cM_merge 11 = .ok (.iload_n 1, 1) := by decide +kernel
theorem dM_merge_12 : decode cM_merge 12 = .ok (.isub, 1) := by decide +kernel
theorem dM_merge_13 : decode cM_merge 13 = .ok (.invokevirtual 123, 3) := by decide +kernel
theorem dM_merge_16 : decode cM_merge 16 = .ok (.ifCond .eq 8, 3) := by decide +kernel
theorem dM_merge_19 : decode cM_merge 19 = .ok (.aload_n 0, 1) := by decide +kernel
theorem dM_merge_20 : decode cM_merge 20 = .ok (.iload_n 1, 1) := by decide +kernel
theorem dM_merge_21 : decode cM_merge 21 = .ok (.invokevirtual 120, 3) := by decide +kernel
theorem dM_merge_24 : decode cM_merge 24 = .ok (.aload_n 0, 1) := by decide +kernel
theorem dM_merge_25 : decode cM_merge 25 = .ok (.iload_n 1, 1) := by decide +kernel
theorem dM_merge_26 : decode cM_merge 26 = .ok (.invokevirtual 123, 3) := by decide +kernel
theorem dM_merge_29 : decode cM_merge 29 = .ok (.ifCond .eq 5, 3) := by decide +kernel
theorem dM_merge_32 : decode cM_merge 32 = .ok (.iconst 1, 1) := by decide +kernel
theorem dM_merge_33 : decode cM_merge 33 = .ok (.ireturn, 1) := by decide +kernel
theorem dM_merge_34 : decode cM_merge 34 = .ok (.aload_n 0, 1) := by decide +kernel
theorem dM_merge_35 : decode cM_merge 35 = .ok (.iconst 1, 1) := by decide +kernel
theorem dM_merge_36 : decode cM_merge 36 = .ok (.iload_n 1, 1) := by decide +kernel
theorem dM_merge_37 : decode cM_merge 37 = .ok (.isub, 1) := by decide +kernel
theorem dM_merge_38 : decode cM_merge 38 = .ok (.iconst 0, 1) := by decide +kernel
theorem dM_merge_39 : decode cM_merge 39 = .ok (.invokevirtual 130, 3) := by decide +kernel
theorem dM_merge_42 : decode cM_merge 42 = .ok (.aload_n 0, 1) := by decide +kernel
theorem dM_merge_43 : decode cM_merge 43 = .ok (.iload_n 1, 1) := by decide +kernel
theorem dM_merge_44 : decode cM_merge 44 = .ok (.iconst 0, 1) := by decide +kernel
theorem dM_merge_45 : decode cM_merge 45 = .ok (.iconst 0, 1) := by decide +kernel
theorem dM_merge_46 : decode cM_merge 46 = .ok (.invokevirtual 126, 3) := by decide +kernel
theorem dM_merge_49 : decode cM_merge 49 = .ok (.iconst 1, 1) := by decide +kernel
theorem dM_merge_50 : decode cM_merge 50 = .ok (.ireturn, 1) := by decide +kernel
def yM_negate : MethodName := ⟨RM, "negate", "(I)Z"⟩
abbrev cM_negate : ByteArray := prog_5_method_46_code
theorem dM_negate_0 : decode cM_negate 0 = .ok (.iload_n 1, 1) := by decide +kernel
theorem dM_negate_1 : decode cM_negate 1 = .ok (.invokestatic 117, 3) := by decide +kernel
theorem dM_negate_4 : decode cM_negate 4 = .ok (.ifCond .ne 5, 3) := by decide +kernel
theorem dM_negate_7 : decode cM_negate 7 = .ok (.iconst 0, 1) := by decide +kernel
theorem dM_negate_8 : decode cM_negate 8 = .ok (.ireturn, 1) := by decide +kernel
theorem dM_negate_9 : decode cM_negate 9 = .ok (.aload_n 0, 1) := by decide +kernel
theorem dM_negate_10 : decode cM_negate 10 = .ok (.iload_n 1, 1) := by decide +kernel
theorem dM_negate_11 : decode cM_negate 11 = .ok (.iconst 0, 1) := by decide +kernel
theorem dM_negate_12 : decode cM_negate 12 = .ok (.invokevirtual 130, 3) := by decide +kernel
theorem dM_negate_15 : decode cM_negate 15 = .ok (.aload_n 0, 1) := by decide +kernel
theorem dM_negate_16 : decode cM_negate 16 = .ok (.iload_n 1, 1) := by decide +kernel
theorem dM_negate_17 : decode cM_negate 17 = .ok (.iconst 0, 1) := by decide +kernel
theorem dM_negate_18 : decode cM_negate 18 = .ok (.iconst 1, 1) := by decide +kernel
theorem dM_negate_19 : decode cM_negate 19 = .ok (.invokevirtual 126, 3) := by decide +kernel
theorem dM_negate_22 : decode cM_negate 22 = .ok (.aload_n 0, 1) := by decide +kernel
theorem dM_negate_23 : decode cM_negate 23 = .ok (.iload_n 1, 1) := by decide +kernel
theorem dM_negate_24 : decode cM_negate 24 = .ok (.iconst 0, 1) := by decide +kernel
theorem dM_negate_25 : decode cM_negate 25 = .ok (.iconst 1, 1) := by decide +kernel
theorem dM_negate_26 : decode cM_negate 26 = .ok (.invokevirtual 126, 3) := by decide +kernel
theorem dM_negate_29 : decode cM_negate 29 = .ok (.iconst 1, 1) := by decide +kernel
theorem dM_negate_30 : decode cM_negate 30 = .ok (.ireturn, 1) := by decide +kernel
def yM_total : MethodName := ⟨RM, "total", "(I)I"⟩
abbrev cM_total : ByteArray := prog_5_method_47_code
theorem dM_total_0 : decode cM_total 0 = .ok (.iload_n 1, 1) := by decide +kernel
theorem dM_total_1 : decode cM_total 1 = .ok (.invokestatic 117, 3) := by decide +kernel
theorem dM_total_4 : decode cM_total 4 = .ok (.ifCond .eq 11, 3) := by decide +kernel
theorem dM_total_7 : decode cM_total 7 = .ok (.aload_n 0, 1) := by decide +kernel
theorem dM_total_8 : decode cM_total 8 = .ok (.iload_n 1, 1) := by decide +kernel
theorem dM_total_9 : decode cM_total 9 = .ok (.invokevirtual 123, 3) := by decide +kernel
theorem dM_total_12 : decode cM_total 12 = .ok (.ifCond .eq 11, 3) := by decide +kernel
theorem dM_total_15 : decode cM_total 15 = .ok (.aload_n 0, 1) := by decide +kernel
theorem dM_total_16 : decode cM_total 16 = .ok (.getfield 20, 3) := by decide +kernel
theorem dM_total_19 : decode cM_total 19 = .ok (.invokestatic 45, 3) := by decide +kernel
theorem dM_total_22 : decode cM_total 22 = .ok (.ireturn, 1) := by decide +kernel
theorem dM_total_23 : decode cM_total 23 = .ok (.aload_n 0, 1) := by decide +kernel
theorem dM_total_24 : decode cM_total 24 = .ok (.getfield 13, 3) := by decide +kernel
theorem dM_total_27 : decode cM_total 27 = .ok (.bipush 32, 2) := by decide +kernel
theorem dM_total_29 : decode cM_total 29 = .ok (.iload_n 1, 1) := by decide +kernel
theorem dM_total_30 : decode cM_total 30 = .ok (.imul, 1) := by decide +kernel
theorem dM_total_31 : decode cM_total 31 = .ok (.aload_n 0, 1) := by decide +kernel
theorem dM_total_32 : decode cM_total 32 = .ok (.getfield 20, 3) := by decide +kernel
theorem dM_total_35 : decode cM_total 35 = .ok (.iadd, 1) := by decide +kernel
theorem dM_total_36 : decode cM_total 36 = .ok (.iconst 1, 1) := by decide +kernel
theorem dM_total_37 : decode cM_total 37 = .ok (.isub, 1) := by decide +kernel
theorem dM_total_38 : decode cM_total 38 = .ok (.iaload, 1) := by decide +kernel
theorem dM_total_39 : decode cM_total 39 = .ok (.ldc 116, 2) := by decide +kernel
theorem dM_total_41 : decode cM_total 41 = .ok (.if_icmp .lt 7, 3) := by decide +kernel
theorem dM_total_44 : decode cM_total 44 = .ok (.iconst 1, 1) := by decide +kernel
theorem dM_total_45 : decode cM_total 45 = .ok (.goto 4, 3) := by decide +kernel
theorem dM_total_48 : decode cM_total 48 = .ok (.iconst 0, 1) := by decide +kernel
theorem dM_total_49 : decode cM_total 49 = .ok (.istore_n 2, 1) := by decide +kernel
theorem dM_total_50 : decode cM_total 50 = .ok (.iload_n 2, 1) := by decide +kernel
theorem dM_total_51 : decode cM_total 51 = .ok (.ifCond .eq 9, 3) := by decide +kernel
theorem dM_total_54 : decode cM_total 54 = .ok (.aload_n 0, 1) := by decide +kernel
theorem dM_total_55 : decode cM_total 55 = .ok (.iload_n 1, 1) := by decide +kernel
theorem dM_total_56 : decode cM_total 56 = .ok (.invokevirtual 133, 3) := by decide +kernel
theorem dM_total_59 : decode cM_total 59 = .ok (.pop, 1) := by decide +kernel
theorem dM_total_60 : decode cM_total 60 = .ok (.aload_n 0, 1) := by decide +kernel
theorem dM_total_61 : decode cM_total 61 = .ok (.iload_n 1, 1) := by decide +kernel
theorem dM_total_62 : decode cM_total 62 = .ok (.iconst 1, 1) := by decide +kernel
theorem dM_total_63 : decode cM_total 63 = .ok (.invokevirtual 130, 3) := by decide +kernel
theorem dM_total_66 : decode cM_total 66 = .ok (.iload_n 2, 1) := by decide +kernel
theorem dM_total_67 : decode cM_total 67 = .ok (.ifCond .eq 9, 3) := by decide +kernel
theorem dM_total_70 : decode cM_total 70 = .ok (.aload_n 0, 1) := by decide +kernel
theorem dM_total_71 : decode cM_total 71 = .ok (.iload_n 1, 1) := by decide +kernel
theorem dM_total_72 : decode cM_total 72 = .ok (.invokevirtual 133, 3) := by decide +kernel
theorem dM_total_75 : decode cM_total 75 = .ok (.pop, 1) := by decide +kernel
theorem dM_total_76 : decode cM_total 76 = .ok (.aload_n 0, 1) := by decide +kernel
theorem dM_total_77 : decode cM_total 77 = .ok (.iconst 1, 1) := by decide +kernel
theorem dM_total_78 : decode cM_total 78 = .ok (.iconst 0, 1) := by decide +kernel
theorem dM_total_79 : decode cM_total 79 = .ok (.invokevirtual 136, 3) := by decide +kernel
theorem dM_total_82 : decode cM_total 82 = .ok (.aload_n 0, 1) := by decide +kernel
theorem dM_total_83 : decode cM_total 83 = .ok (.iconst 0, 1) := by decide +kernel
theorem dM_total_84 : decode cM_total 84 = .ok (.sipush 264, 3) := by decide +kernel
theorem dM_total_87 : decode cM_total 87 = .ok (.bipush 8, 2) := by decide +kernel
theorem dM_total_89 : decode cM_total 89 = .ok (.aload_n 0, 1) := by decide +kernel
theorem dM_total_90 : decode cM_total 90 = .ok (.getfield 20, 3) := by decide +kernel
theorem dM_total_93 : decode cM_total 93 = .ok (.imul, 1) := by decide +kernel
theorem dM_total_94 : decode cM_total 94 = .ok (.isub, 1) := by decide +kernel
theorem dM_total_95 : decode cM_total 95 = .ok (.invokevirtual 35, 3) := by decide +kernel
theorem dM_total_98 : decode cM_total 98 = .ok (.aload_n 0, 1) := by decide +kernel
theorem dM_total_99 : decode cM_total 99 = .ok (.bipush 124, 2) := by decide +kernel
theorem dM_total_101 : decode cM_total 101 = .ok (.invokevirtual 93, 3) := by decide +kernel
theorem dM_total_104 : decode cM_total 104 = .ok (.aload_n 0, 1) := by decide +kernel
theorem dM_total_105 : decode cM_total 105 = .ok (.iload_n 2, 1) := by decide +kernel
theorem dM_total_106 : decode cM_total 106 = .ok (.aload_n 0, 1) := by decide +kernel
theorem dM_total_107 : decode cM_total 107 = .ok (.getfield 20, 3) := by decide +kernel
theorem dM_total_110 : decode cM_total 110 = .ok (.invokevirtual 96, 3) := by decide +kernel
theorem dM_total_113 : decode cM_total 113 = .ok (.ireturn, 1) := by decide +kernel
def yM_word : MethodName := ⟨RM, "word", "(II)J"⟩
abbrev cM_word : ByteArray := prog_5_method_48_code
theorem dM_word_0 : decode cM_word 0 = .ok (.iload_n 1, 1) := by decide +kernel
theorem dM_word_1 : decode cM_word 1 = .ok (.invokestatic 117, 3) := by decide +kernel
theorem dM_word_4 : decode cM_word 4 = .ok (.ifCond .eq 17, 3) := by decide +kernel
theorem dM_word_7 : decode cM_word 7 = .ok (.iload_n 2, 1) := by decide +kernel
theorem dM_word_8 : decode cM_word 8 = .ok (.ifCond .lt 13, 3) := by decide +kernel
theorem dM_word_11 : decode cM_word 11 = .ok (.iload_n 2, 1) := by decide +kernel
theorem dM_word_12 : decode cM_word 12 = .ok (.aload_n 0, 1) := by decide +kernel
theorem dM_word_13 : decode cM_word 13 = .ok (.getfield 20, 3) := by decide +kernel
theorem dM_word_16 : decode cM_word 16 = .ok (.iconst 4, 1) := by decide +kernel
theorem dM_word_17 : decode cM_word 17 = .ok (.idiv, 1) := by decide +kernel
theorem dM_word_18 : decode cM_word 18 = .ok (.if_icmp .lt 5, 3) := by decide +kernel
theorem dM_word_21 : decode cM_word 21 = .ok (.lconst 0, 1) := by decide +kernel
theorem dM_word_22 : decode cM_word 22 = .ok (.lreturn, 1) := by decide +kernel
theorem dM_word_23 : decode cM_word 23 = .ok (.lconst 0, 1) := by decide +kernel
theorem dM_word_24 : decode cM_word 24 = .ok (.lstore_n 3, 1) := by decide +kernel
theorem dM_word_25 : decode cM_word 25 = .ok (.iconst 3, 1) := by decide +kernel
theorem dM_word_26 : decode cM_word 26 = .ok (.istore 5, 2) := by decide +kernel
theorem dM_word_28 : decode cM_word 28 = .ok (.iload 5, 2) := by decide +kernel
theorem dM_word_30 : decode cM_word 30 = .ok (.ifCond .lt 32, 3) := by decide +kernel
theorem dM_word_33 : decode cM_word 33 = .ok (.lload_n 3, 1) := by decide +kernel
theorem dM_word_34 : decode cM_word 34 = .ok (.bipush 16, 2) := by decide +kernel
theorem dM_word_36 : decode cM_word 36 = .ok (.lshl, 1) := by decide +kernel
theorem dM_word_37 : decode cM_word 37 = .ok (.aload_n 0, 1) := by decide +kernel
theorem dM_word_38 : decode cM_word 38 = .ok (.getfield 13, 3) := by decide +kernel
theorem dM_word_41 : decode cM_word 41 = .ok (.bipush 32, 2) := by decide +kernel
theorem dM_word_43 : decode cM_word 43 = .ok (.iload_n 1, 1) := by decide +kernel
theorem dM_word_44 : decode cM_word 44 = .ok (.imul, 1) := by decide +kernel
theorem dM_word_45 : decode cM_word 45 = .ok (.iconst 4, 1) := by decide +kernel
theorem dM_word_46 : decode cM_word 46 = .ok (.iload_n 2, 1) := by decide +kernel
theorem dM_word_47 : decode cM_word 47 = .ok (.imul, 1) := by decide +kernel
theorem dM_word_48 : decode cM_word 48 = .ok (.iadd, 1) := by decide +kernel
theorem dM_word_49 : decode cM_word 49 = .ok (.iload 5, 2) := by decide +kernel
theorem dM_word_51 : decode cM_word 51 = .ok (.iadd, 1) := by decide +kernel
theorem dM_word_52 : decode cM_word 52 = .ok (.iaload, 1) := by decide +kernel
theorem dM_word_53 : decode cM_word 53 = .ok (.i2l, 1) := by decide +kernel
theorem dM_word_54 : decode cM_word 54 = .ok (.lor, 1) := by decide +kernel
theorem dM_word_55 : decode cM_word 55 = .ok (.lstore_n 3, 1) := by decide +kernel
theorem dM_word_56 : decode cM_word 56 = .ok (.iinc 5 (-1), 3) := by decide +kernel
theorem dM_word_59 : decode cM_word 59 = .ok (.goto (-31), 3) := by decide +kernel
theorem dM_word_62 : decode cM_word 62 = .ok (.lload_n 3, 1) := by decide +kernel
theorem dM_word_63 : decode cM_word 63 = .ok (.lreturn, 1) := by decide +kernel
def yM_compare : MethodName := ⟨RM, "compare", "(II)I"⟩
abbrev cM_compare : ByteArray := prog_5_method_49_code
theorem dM_compare_0 : decode cM_compare 0 = .ok (.aload_n 0, 1) := by decide +kernel
theorem dM_compare_1 : decode cM_compare 1 = .ok (.iload_n 1, 1) := by decide +kernel
theorem dM_compare_2 : decode cM_compare 2 = .ok (.invokevirtual 42, 3) := by decide +kernel
theorem dM_compare_5 : decode cM_compare 5 = .ok (.istore_n 3, 1) := by decide +kernel
theorem dM_compare_6 : decode cM_compare 6 = .ok (.aload_n 0, 1) := by decide +kernel
theorem dM_compare_7 : decode cM_compare 7 = .ok (.iload_n 2, 1) := by decide +kernel
theorem dM_compare_8 : decode cM_compare 8 = .ok (.invokevirtual 42, 3) := by decide +kernel
theorem dM_compare_11 : decode cM_compare 11 = .ok (.istore 4, 2) := by decide +kernel
theorem dM_compare_13 : decode cM_compare 13 = .ok (.iload_n 3, 1) := by decide +kernel
theorem dM_compare_14 : decode cM_compare 14 = .ok (.iload 4, 2) := by decide +kernel
theorem dM_compare_16 : decode cM_compare 16 = .ok (.if_icmp .ne 7, 3) := by decide +kernel
theorem dM_compare_19 : decode cM_compare 19 = .ok (.iconst 0, 1) := by decide +kernel
theorem dM_compare_20 : decode cM_compare 20 = .ok (.goto 14, 3) := by decide +kernel
theorem dM_compare_23 : decode cM_compare 23 = .ok (.iload_n 3, 1) := by decide +kernel
theorem dM_compare_24 : decode cM_compare 24 = .ok (.iload 4, 2) := by decide +kernel
theorem dM_compare_26 : decode cM_compare 26 = .ok (.if_icmp .ge 7, 3) := by decide +kernel
theorem dM_compare_29 : decode cM_compare 29 = .ok (.iconst (-1), 1) := by decide +kernel
theorem dM_compare_30 : decode cM_compare 30 = .ok (.goto 4, 3) := by decide +kernel
theorem dM_compare_33 : decode cM_compare 33 = .ok (.iconst 1, 1) := by decide +kernel
theorem dM_compare_34 : decode cM_compare 34 = .ok (.ireturn, 1) := by decide +kernel
end
section
def tq_nm {α β : Type} (a : α) (k : α → β) : β := k a
def tq_bd {α β : Type} (x : Option α) (k : α → Option β) : Option β := x.bind k
theorem tq_nm_at {α β : Type} {z e : α} {k : α → β} {r : β} (h : z = e) (hf : tq_nm e k = r) : k z = r := by subst h; exact hf
theorem tq_bd_some {α β : Type} {x : Option α} {k : α → Option β} {r : β} (hf : tq_bd x k = some r) : ∃ u, x = some u ∧ k u = some r := by
  cases x with
  | none => cases hf
  | some u => exact ⟨u, rfl, hf⟩
theorem tq_nb_bool {v : Int32} (h : v = 0 ∨ v = 1) : narrow .boolean (.int v) = .int v := by
  rcases h with rfl | rfl <;> rfl
theorem tq_ft_bool {v : Int32} (h : v = 0 ∨ v = 1) : fits .boolean (.int v) = true := by
  rcases h with rfl | rfl <;> rfl
def sref (a b : Nat) : Nat → Option Nat := fun k => if k = 0 then some a else some b
end
section
def f_inlz_b73 (v0 : Int32) (v1 : Int32) : Int32 := (v1 - ((v0.toUInt32 >>> ((1 : Int32).toUInt32 &&& Int32.toUInt32 31)).toInt32))
def f_inlz_b61 (v0 : Int32) (v1 : Int32) : Int32 := if v0 < (4 : Int32) then f_inlz_b73 v0 v1 else tq_nm ((v0.toUInt32 >>> ((2 : Int32).toUInt32 &&& Int32.toUInt32 31)).toInt32) (fun x6 : Int32 => f_inlz_b73 x6 (v1 + (-2 : Int32)))
def f_inlz_b48 (v0 : Int32) (v1 : Int32) : Int32 := if v0 < (16 : Int32) then f_inlz_b61 v0 v1 else tq_nm ((v0.toUInt32 >>> ((4 : Int32).toUInt32 &&& Int32.toUInt32 31)).toInt32) (fun x7 : Int32 => f_inlz_b61 x7 (v1 + (-4 : Int32)))
def f_inlz_b33 (v0 : Int32) (v1 : Int32) : Int32 := if v0 < (256 : Int32) then f_inlz_b48 v0 v1 else tq_nm ((v0.toUInt32 >>> ((8 : Int32).toUInt32 &&& Int32.toUInt32 31)).toInt32) (fun x8 : Int32 => f_inlz_b48 x8 (v1 + (-8 : Int32)))
def f_inlz (x : Int32) : Int32 := if 0 < x then if x < (65536 : Int32) then f_inlz_b33 x (31 : Int32) else tq_nm ((x.toUInt32 >>> ((16 : Int32).toUInt32 &&& Int32.toUInt32 31)).toInt32) (fun x9 : Int32 => f_inlz_b33 x9 ((31 : Int32) + (-16 : Int32))) else if ¬ x = 0 then (0 : Int32) else (32 : Int32)
def f_intz_b74 (v0 : Int32) (v1 : Int32) : Int32 := (v1 + ((v0.toUInt32 >>> ((1 : Int32).toUInt32 &&& Int32.toUInt32 31)).toInt32))
def f_intz_b62 (v0 : Int32) (v1 : Int32) : Int32 := if v0 ≤ (4 : Int32) then f_intz_b74 v0 v1 else tq_nm ((v0.toUInt32 >>> ((2 : Int32).toUInt32 &&& Int32.toUInt32 31)).toInt32) (fun x7 : Int32 => f_intz_b74 x7 (v1 + (2 : Int32)))
def f_intz_b49 (v0 : Int32) (v1 : Int32) : Int32 := if v0 ≤ (16 : Int32) then f_intz_b62 v0 v1 else tq_nm ((v0.toUInt32 >>> ((4 : Int32).toUInt32 &&& Int32.toUInt32 31)).toInt32) (fun x8 : Int32 => f_intz_b62 x8 (v1 + (4 : Int32)))
def f_intz_b34 (v0 : Int32) (v1 : Int32) : Int32 := if v0 ≤ (256 : Int32) then f_intz_b49 v0 v1 else tq_nm ((v0.toUInt32 >>> ((8 : Int32).toUInt32 &&& Int32.toUInt32 31)).toInt32) (fun x9 : Int32 => f_intz_b49 x9 (v1 + (8 : Int32)))
def f_intz (x : Int32) : Int32 := tq_nm ((x ^^^ (-1 : Int32)) &&& (x - (1 : Int32))) (fun x1 : Int32 => if 0 < x1 then if x1 ≤ (65536 : Int32) then f_intz_b34 x1 (1 : Int32) else tq_nm ((x1.toUInt32 >>> ((16 : Int32).toUInt32 &&& Int32.toUInt32 31)).toInt32) (fun x10 : Int32 => f_intz_b34 x10 ((1 : Int32) + (16 : Int32))) else (x1 &&& (32 : Int32)))
def f_lnlz (x : Int64) : Int32 := tq_nm (((x.toUInt64 >>> ((32 : Int32).toInt64.toUInt64 &&& Int64.toUInt64 63)).toInt64).toInt32) (fun x1 : Int32 => if ¬ x1 = 0 then (f_inlz x1) else ((32 : Int32) + (f_inlz x.toInt32)))
def f_lntz (x : Int64) : Int32 := tq_nm x.toInt32 (fun x1 : Int32 => if ¬ x1 = 0 then (f_intz x1) else ((32 : Int32) + (f_intz (((x.toUInt64 >>> ((32 : Int32).toInt64.toUInt64 &&& Int64.toUInt64 63)).toInt64).toInt32))))
def f_sizeOfWidth (width : Int32) : Int32 := if ¬ width = 0 then if ¬ width = (1 : Int32) then (32 : Int32) else (16 : Int32) else (8 : Int32)
def f_patternOf (x : Int32) (size : Int32) : Int32 := ((x <<< (((32 : Int32) - size) &&& 31)) >>> (((32 : Int32) - size) &&& 31))
def f_notOf (size : Int32) : Int32 := ((-1 : Int32) <<< ((size - (1 : Int32)) &&& 31))
def f_isSum (q : Int32) : Int32 := if q = 0 then (1 : Int32) else if ¬ q = (1 : Int32) then (0 : Int32) else (1 : Int32)
def f_floorRoot_b6 (radicand : Int64) : Nat → Int64 → Int32 → Option (Int64)
  | 0, _, _ => none
  | n + 1, v2, v4 => if v4 < 0 then some v2 else tq_nm (v2 ||| ((1 : Int64) <<< (v4.toInt64 &&& 63))) (fun x2 : Int64 => if 0 < (lg_cmp (x2 * x2) radicand) then (f_floorRoot_b6 radicand n) v2 (v4 + (-1 : Int32)) else (f_floorRoot_b6 radicand n) x2 (v4 + (-1 : Int32)))
def f_floorRoot (radicand : Int64) : Option (Int64) := f_floorRoot_b6 radicand 32 (0 : Int64) (30 : Int32)
def f_positivePattern_b200 (v13 : Int32) (t0 : Int32) : Int32 := if t0 = 0 then v13 else (v13 + (1 : Int32))
def f_positivePattern_b175 (v13 : Int32) (v16 : Int32) (t0 : Int32) : Int32 := if v16 = 0 then f_positivePattern_b200 v13 (0 : Int32) else if ¬ t0 = 0 then f_positivePattern_b200 v13 (1 : Int32) else if ¬ (v13 &&& (1 : Int32)) = (1 : Int32) then f_positivePattern_b200 v13 (0 : Int32) else f_positivePattern_b200 v13 (1 : Int32)
def f_positivePattern_b154 (v11 : Int32) (v13 : Int32) (v14 : Int64) (t0 : Int32) : Int32 := if ¬ (lg_cmp (v14 <<< ((1 : Int32).toInt64 &&& 63)) (0 : Int64)) = 0 then f_positivePattern_b175 v13 t0 (1 : Int32) else if v11 = 0 then f_positivePattern_b175 v13 t0 (0 : Int32) else f_positivePattern_b175 v13 t0 (1 : Int32)
def f_positivePattern_b106 (size : Int32) (v7 : Int32) (v8 : Int32) (v9 : Int64) (t0 : Int32) : Int32 := tq_nm ((size - (1 : Int32)) - v7) (fun x9 : Int32 => tq_nm ((v8 <<< (x9 &&& 31)) ||| (((((v9.toUInt64 >>> ((1 : Int32).toInt64.toUInt64 &&& Int64.toUInt64 63)).toInt64).toUInt64 >>> (((63 : Int32) - x9).toInt64.toUInt64 &&& Int64.toUInt64 63)).toInt64).toInt32)) (fun x10 : Int32 => tq_nm (v9 <<< (x9.toInt64 &&& 63)) (fun x11 : Int64 => if 0 ≤ (lg_cmp x11 (0 : Int64)) then f_positivePattern_b154 t0 x10 x11 (0 : Int32) else f_positivePattern_b154 t0 x10 x11 (1 : Int32))))
def f_positivePattern_b69 (size : Int32) (scale : Int32) (significand : Int64) (more : Int32) (v7 : Int32) (t0 : Int32) : Int32 := tq_nm ((((scale &&& (3 : Int32)).toInt64) <<< ((62 : Int32).toInt64 &&& 63)) ||| (((significand &&& (9223372036854775807 : Int64)).toUInt64 >>> ((1 : Int32).toInt64.toUInt64 &&& Int64.toUInt64 63)).toInt64)) (fun x7 : Int64 => if ¬ more = 0 then f_positivePattern_b106 size v7 t0 x7 (1 : Int32) else if (lg_cmp (significand &&& (1 : Int64)) (0 : Int64)) = 0 then f_positivePattern_b106 size v7 t0 x7 (0 : Int32) else f_positivePattern_b106 size v7 t0 x7 (1 : Int32))
def f_positivePattern_b52 (size : Int32) (scale : Int32) (significand : Int64) (more : Int32) (v6 : Int32) (t0 : Int32) : Int32 := if v6 < 0 then f_positivePattern_b69 size scale significand more t0 (1 : Int32) else f_positivePattern_b69 size scale significand more t0 (((1 : Int32) <<< (t0 &&& 31)) - (2 : Int32))
def f_positivePattern (size : Int32) (scale : Int32) (significand : Int64) (more : Int32) : Int32 := tq_nm (((4 : Int32) * size) - (8 : Int32)) (fun x1 : Int32 => if scale < x1 then if (-x1) ≤ scale then tq_nm (scale >>> ((2 : Int32) &&& 31)) (fun x4 : Int32 => if x4 < 0 then f_positivePattern_b52 size scale significand more x4 ((1 : Int32) - x4) else f_positivePattern_b52 size scale significand more x4 (x4 + (2 : Int32))) else (1 : Int32) else (((1 : Int32) <<< ((size - (1 : Int32)) &&& 31)) - (1 : Int32)))
def f_signedPattern (size : Int32) (negative : Int32) (scale : Int32) (significand : Int64) (more : Int32) : Int32 := tq_nm (f_positivePattern size scale significand more) (fun x2 : Int32 => if negative = 0 then x2 else (-x2))
def f_rounded (size : Int32) (negative : Int32) (magnitude : Int64) (exponent : Int32) (more : Int32) : Int32 := if ¬ (lg_cmp magnitude (0 : Int64)) = 0 then tq_nm (f_lnlz magnitude) (fun x3 : Int32 => (f_signedPattern size negative ((exponent + (63 : Int32)) - x3) (magnitude <<< (x3.toInt64 &&& 63)) more)) else (0 : Int32)
def f_nearestWhole_b84 (v2 : Int64) (t0 : Int32) : Int64 := if t0 = 0 then v2 else (v2 + (1 : Int64))
def f_nearestWhole (nt0 : Int32) (ng0 : Int32) (mg0 : Int64) (ex0 : Int32) : Int64 := if ex0 < 0 then tq_nm (-ex0) (fun x2 : Int32 => if x2 ≤ (60 : Int32) then tq_nm (mg0 >>> (x2.toInt64 &&& 63)) (fun x4 : Int64 => tq_nm (mg0 - (x4 <<< (x2.toInt64 &&& 63))) (fun x5 : Int64 => tq_nm ((1 : Int64) <<< ((x2 - (1 : Int32)).toInt64 &&& 63)) (fun x6 : Int64 => if 0 < (lg_cmp x5 x6) then f_nearestWhole_b84 x4 (1 : Int32) else if ¬ (lg_cmp x5 x6) = 0 then f_nearestWhole_b84 x4 (0 : Int32) else if ¬ (lg_cmp (x4 &&& (1 : Int64)) (1 : Int64)) = 0 then f_nearestWhole_b84 x4 (0 : Int32) else f_nearestWhole_b84 x4 (1 : Int32)))) else (0 : Int64)) else (mg0 <<< (ex0.toInt64 &&& 63))
def f_readBody_b37 (body : Int32) (v3 : Int32) (t0 : Int32) (nt0 : Int32) (ng0 : Int32) (mg0 : Int64) (ex0 : Int32) : Int32 × Int32 × Int64 × Int32 := tq_nm ((body <<< (v3 &&& 31)) <<< ((1 : Int32) &&& 31)) (fun x6 : Int32 => tq_nm (((4 : Int32) * t0) + ((x6.toUInt32 >>> ((30 : Int32).toUInt32 &&& Int32.toUInt32 31)).toInt32)) (fun x7 : Int32 => tq_nm (((x6 <<< ((2 : Int32) &&& 31)).toInt64) &&& (4294967295 : Int64)) (fun x8 : Int64 => tq_nm ((4294967296 : Int64) ||| x8) (fun x9 : Int64 => tq_nm (f_lntz x9) (fun x11 : Int32 => (nt0, ng0, x9 >>> (x11.toInt64 &&& 63), (x7 - (32 : Int32)) + x11))))))
def f_readBody_b21 (body : Int32) (v2 : Int32) (t0 : Int32) (nt0 : Int32) (ng0 : Int32) (mg0 : Int64) (ex0 : Int32) : Int32 × Int32 × Int64 × Int32 := tq_nm (f_inlz t0) (fun x4 : Int32 => if v2 = 0 then f_readBody_b37 body x4 (-x4) nt0 ng0 mg0 ex0 else f_readBody_b37 body x4 (x4 - (1 : Int32)) nt0 ng0 mg0 ex0)
def f_readBody_b9 (body : Int32) (t0 : Int32) (nt0 : Int32) (ng0 : Int32) (mg0 : Int64) (ex0 : Int32) : Int32 × Int32 × Int64 × Int32 := if t0 = 0 then f_readBody_b21 body t0 body nt0 ng0 mg0 ex0 else f_readBody_b21 body t0 (body ^^^ (-1 : Int32)) nt0 ng0 mg0 ex0
def f_readBody (nt0 : Int32) (ng0 : Int32) (mg0 : Int64) (ex0 : Int32) (body : Int32) : Int32 × Int32 × Int64 × Int32 := if 0 ≤ body then f_readBody_b9 body (0 : Int32) nt0 ng0 mg0 ex0 else f_readBody_b9 body (1 : Int32) nt0 ng0 mg0 ex0
def f_read_b33 (size : Int32) (v3 : Int32) (t0 : Int32) (nt0 : Int32) (ng0 : Int32) (mg0 : Int64) (ex0 : Int32) : Int32 × Int32 × Int64 × Int32 := if v3 = 0 then (nt0, t0, (0 : Int64), (0 : Int32)) else if ¬ nt0 = 0 then (nt0, t0, (0 : Int64), (0 : Int32)) else tq_nm (f_readBody nt0 t0 (0 : Int64) (0 : Int32) ((if 0 ≤ v3 then v3 else 0 - v3) <<< (((33 : Int32) - size) &&& 31))) (fun u : Int32 × Int32 × Int64 × Int32 => tq_nm u.1 (fun nt014 : Int32 => tq_nm u.2.1 (fun ng015 : Int32 => tq_nm u.2.2.1 (fun mg016 : Int64 => tq_nm u.2.2.2 (fun ex017 : Int32 => (nt014, ng015, mg016, ex017))))))
def f_read_b20 (size : Int32) (v3 : Int32) (t0 : Int32) (nt0 : Int32) (ng0 : Int32) (mg0 : Int64) (ex0 : Int32) : Int32 × Int32 × Int64 × Int32 := if 0 ≤ v3 then f_read_b33 size v3 (0 : Int32) t0 ng0 mg0 ex0 else f_read_b33 size v3 (1 : Int32) t0 ng0 mg0 ex0
def f_read (nt0 : Int32) (ng0 : Int32) (mg0 : Int64) (ex0 : Int32) (x : Int32) (size : Int32) : Int32 × Int32 × Int64 × Int32 := tq_nm (f_patternOf x size) (fun x2 : Int32 => if ¬ x2 = (f_notOf size) then f_read_b20 size x2 (0 : Int32) nt0 ng0 mg0 ex0 else f_read_b20 size x2 (1 : Int32) nt0 ng0 mg0 ex0)
def f_setZero_b2 (N0 : Nat) : Nat → Int32 → (Nat → Int64) → Option ((Nat → Int64))
  | 0, _, _ => none
  | n + 1, v1, f0 => if (nI N0) ≤ v1 then some f0 else if (v1 < 0 ∨ N0 ≤ v1.toNatClampNeg) then none else (f_setZero_b2 N0 n) (v1 + (1 : Int32)) (vp_updL f0 v1.toNatClampNeg (0 : Int64))
def f_setZero (N0 : Nat) (f0 : Nat → Int64) : Option ((Nat → Int64)) := f_setZero_b2 N0 9 (0 : Int32) f0
def f_setNot (N0 : Nat) (f0 : Nat → Int64) : Option ((Nat → Int64)) := tq_bd (f_setZero N0 f0) (fun f01 : Nat → Int64 => if (((nI N0) - (1 : Int32)) < 0 ∨ N0 ≤ ((nI N0) - (1 : Int32)).toNatClampNeg) then none else some (vp_updL f01 ((nI N0) - (1 : Int32)).toNatClampNeg (-9223372036854775808 : Int64)))
def f_hasBitsBelow_b2 (N0 : Nat) (f0 : Nat → Int64) (place : Int32) : Nat → Int32 → Option (Int32)
  | 0, _ => none
  | n + 1, v2 => if (nI N0) ≤ v2 then some (0 : Int32) else if place ≤ ((64 : Int32) * v2) then some (0 : Int32) else tq_nm (if (place - ((64 : Int32) * v2)) < (64 : Int32) then (place - ((64 : Int32) * v2)) else (64 : Int32)) (fun x3 : Int32 => if (v2 < 0 ∨ N0 ≤ v2.toNatClampNeg) then none else if (lg_cmp ((f0 v2.toNatClampNeg) <<< (((64 : Int32) - x3).toInt64 &&& 63)) (0 : Int64)) = 0 then (f_hasBitsBelow_b2 N0 f0 place n) (v2 + (1 : Int32)) else some (1 : Int32))
def f_hasBitsBelow (N0 : Nat) (f0 : Nat → Int64) (place : Int32) : Option (Int32) := f_hasBitsBelow_b2 N0 f0 place 9 (0 : Int32)
def f_isNot (N0 : Nat) (f0 : Nat → Int64) : Option (Int32) := tq_nm ((nI N0) - (1 : Int32)) (fun x1 : Int32 => if (x1 < 0 ∨ N0 ≤ x1.toNatClampNeg) then none else if ¬ (lg_cmp (f0 x1.toNatClampNeg) (-9223372036854775808 : Int64)) = 0 then some (0 : Int32) else tq_bd (f_hasBitsBelow N0 f0 ((64 : Int32) * x1)) (fun r4 : Int32 => if ¬ r4 = 0 then some (0 : Int32) else some (1 : Int32)))
def f_isNegative (N0 : Nat) (f0 : Nat → Int64) : Option (Int32) := if (((nI N0) - (1 : Int32)) < 0 ∨ N0 ≤ ((nI N0) - (1 : Int32)).toNatClampNeg) then none else if 0 ≤ (lg_cmp (f0 ((nI N0) - (1 : Int32)).toNatClampNeg) (0 : Int64)) then some (0 : Int32) else some (1 : Int32)
def f_flip_b53 (k4 : Int64 → Int32 → (Nat → Int64) → Option ((Nat → Int64))) (v3 : Int32) (t0 : Int64) (f0 : Nat → Int64) : Option ((Nat → Int64)) := k4 t0 (v3 + (1 : Int32)) f0
def f_flip_b4 (N0 : Nat) : Nat → Int64 → Int32 → (Nat → Int64) → Option ((Nat → Int64))
  | 0, _, _, _ => none
  | n + 1, v1, v3, f0 => if (nI N0) ≤ v3 then some f0 else if (v3 < 0 ∨ N0 ≤ v3.toNatClampNeg) then none else if (v3 < 0 ∨ N0 ≤ v3.toNatClampNeg) then none else if ¬ (lg_cmp v1 (1 : Int64)) = 0 then f_flip_b53 (f_flip_b4 N0 n) v3 (0 : Int64) (vp_updL f0 v3.toNatClampNeg (((f0 v3.toNatClampNeg) ^^^ (-1 : Int64)) + v1)) else if (v3 < 0 ∨ N0 ≤ v3.toNatClampNeg) then none else if ¬ (lg_cmp ((vp_updL f0 v3.toNatClampNeg (((f0 v3.toNatClampNeg) ^^^ (-1 : Int64)) + v1)) v3.toNatClampNeg) (0 : Int64)) = 0 then f_flip_b53 (f_flip_b4 N0 n) v3 (0 : Int64) (vp_updL f0 v3.toNatClampNeg (((f0 v3.toNatClampNeg) ^^^ (-1 : Int64)) + v1)) else f_flip_b53 (f_flip_b4 N0 n) v3 (1 : Int64) (vp_updL f0 v3.toNatClampNeg (((f0 v3.toNatClampNeg) ^^^ (-1 : Int64)) + v1))
def f_flip (N0 : Nat) (f0 : Nat → Int64) : Option ((Nat → Int64)) := f_flip_b4 N0 9 (1 : Int64) (0 : Int32) f0
def f_topBit_b8 (N0 : Nat) (f0 : Nat → Int64) : Nat → Int32 → Option (Int32)
  | 0, _ => none
  | n + 1, v1 => if v1 < 0 then some (-1 : Int32) else if (v1 < 0 ∨ N0 ≤ v1.toNatClampNeg) then none else if (lg_cmp (f0 v1.toNatClampNeg) (0 : Int64)) = 0 then (f_topBit_b8 N0 f0 n) (v1 + (-1 : Int32)) else if (v1 < 0 ∨ N0 ≤ v1.toNatClampNeg) then none else some ((((64 : Int32) * v1) + (63 : Int32)) - (f_lnlz (f0 v1.toNatClampNeg)))
def f_topBit (N0 : Nat) (f0 : Nat → Int64) : Option (Int32) := tq_nm ((nI N0) - (1 : Int32)) (fun x1 : Int32 => f_topBit_b8 N0 f0 9 x1)
def f_leadingBits_b44 (N0 : Nat) (f0 : Nat → Int64) (v2 : Int32) (v3 : Int32) (t0 : Int64) : Option (Int64) := if (v2 < 0 ∨ N0 ≤ v2.toNatClampNeg) then none else some (((f0 v2.toNatClampNeg) <<< (v3.toInt64 &&& 63)) ||| ((((t0.toUInt64 >>> ((1 : Int32).toInt64.toUInt64 &&& Int64.toUInt64 63)).toInt64).toUInt64 >>> (((63 : Int32) - v3).toInt64.toUInt64 &&& Int64.toUInt64 63)).toInt64))
def f_leadingBits (N0 : Nat) (f0 : Nat → Int64) (top : Int32) : Option (Int64) := tq_nm (top >>> ((6 : Int32) &&& 31)) (fun x1 : Int32 => if x1 < 0 then some (0 : Int64) else if x1 < (nI N0) then tq_nm ((63 : Int32) - (top &&& (63 : Int32))) (fun x4 : Int32 => if x1 ≤ 0 then f_leadingBits_b44 N0 f0 x1 x4 (0 : Int64) else if ((x1 - (1 : Int32)) < 0 ∨ N0 ≤ (x1 - (1 : Int32)).toNatClampNeg) then none else f_leadingBits_b44 N0 f0 x1 x4 (f0 (x1 - (1 : Int32)).toNatClampNeg)) else some (0 : Int64))
def f_setBits_b38 (N0 : Nat) (value : Int64) (v4 : Int32) (v5 : Int32) (f0 : Nat → Int64) : Option ((Nat → Int64)) := if v4 < 0 then some f0 else if (nI N0) ≤ (v4 + (1 : Int32)) then some f0 else if ((v4 + (1 : Int32)) < 0 ∨ N0 ≤ (v4 + (1 : Int32)).toNatClampNeg) then none else some (vp_updL f0 (v4 + (1 : Int32)).toNatClampNeg ((((value.toUInt64 >>> ((1 : Int32).toInt64.toUInt64 &&& Int64.toUInt64 63)).toInt64).toUInt64 >>> (((63 : Int32) - v5).toInt64.toUInt64 &&& Int64.toUInt64 63)).toInt64))
def f_setBits (N0 : Nat) (f0 : Nat → Int64) (value : Int64) (position : Int32) : Option ((Nat → Int64)) := tq_nm (position >>> ((6 : Int32) &&& 31)) (fun x1 : Int32 => tq_nm (position &&& (63 : Int32)) (fun x2 : Int32 => if x1 < 0 then f_setBits_b38 N0 value x1 x2 f0 else if (nI N0) ≤ x1 then f_setBits_b38 N0 value x1 x2 f0 else if (x1 < 0 ∨ N0 ≤ x1.toNatClampNeg) then none else f_setBits_b38 N0 value x1 x2 (vp_updL f0 x1.toNatClampNeg (value <<< (x2.toInt64 &&& 63)))))
def f_copy_b2 (N0 : Nat) (N1 : Nat) (f1 : Nat → Int64) : Nat → Int32 → (Nat → Int64) → Option ((Nat → Int64))
  | 0, _, _ => none
  | n + 1, v2, f0 => if (nI N0) ≤ v2 then some f0 else if (nI N1) ≤ v2 then some f0 else if (v2 < 0 ∨ N1 ≤ v2.toNatClampNeg) then none else if (v2 < 0 ∨ N0 ≤ v2.toNatClampNeg) then none else (f_copy_b2 N0 N1 f1 n) (v2 + (1 : Int32)) (vp_updL f0 v2.toNatClampNeg (f1 v2.toNatClampNeg))
def f_copy (N0 : Nat) (f0 : Nat → Int64) (N1 : Nat) (f1 : Nat → Int64) : Option ((Nat → Int64)) := f_copy_b2 N0 N1 f1 9 (0 : Int32) f0
def f_include_b14 (N0 : Nat) (f0 : Nat → Int64) : Option ((Nat → Int64)) := tq_bd (f_setNot N0 f0) (fun f03 : Nat → Int64 => some f03)
def f_include_b24 (N0 : Nat) (N1 : Nat) (f1 : Nat → Int64) : Nat → Int64 → Int32 → (Nat → Int64) → Option ((Nat → Int64))
  | 0, _, _, _ => none
  | n + 1, v2, v4, f0 => if (nI N0) ≤ v4 then some f0 else if (nI N1) ≤ v4 then some f0 else if (v4 < 0 ∨ N0 ≤ v4.toNatClampNeg) then none else tq_nm (f0 v4.toNatClampNeg) (fun x9 : Int64 => if (v4 < 0 ∨ N1 ≤ v4.toNatClampNeg) then none else tq_nm (f1 v4.toNatClampNeg) (fun x11 : Int64 => tq_nm ((x9 + x11) + v2) (fun x12 : Int64 => tq_nm ((((x9 &&& x11) ||| ((x9 ||| x11) &&& (x12 ^^^ (-1 : Int64)))).toUInt64 >>> ((63 : Int32).toInt64.toUInt64 &&& Int64.toUInt64 63)).toInt64) (fun x13 : Int64 => if (v4 < 0 ∨ N0 ≤ v4.toNatClampNeg) then none else (f_include_b24 N0 N1 f1 n) x13 (v4 + (1 : Int32)) (vp_updL f0 v4.toNatClampNeg x12)))))
def f_include (N0 : Nat) (f0 : Nat → Int64) (N1 : Nat) (f1 : Nat → Int64) : Option ((Nat → Int64)) := tq_bd (f_isNot N0 f0) (fun r1 : Int32 => if ¬ r1 = 0 then f_include_b14 N0 f0 else tq_bd (f_isNot N1 f1) (fun r4 : Int32 => if r4 = 0 then f_include_b24 N0 N1 f1 9 (0 : Int64) (0 : Int32) f0 else f_include_b14 N0 f0))
def f_sumProduct_b14 (N0 : Nat) (f0 : Nat → Int64) : Option ((Nat → Int64)) := tq_bd (f_setNot N0 f0) (fun f02 : Nat → Int64 => some f02)
def f_sumProduct (p0 : Int32) (N0 : Nat) (f0 : Nat → Int64) (nt0 : Int32) (ng0 : Int32) (mg0 : Int64) (ex0 : Int32) (nt1 : Int32) (ng1 : Int32) (mg1 : Int64) (ex1 : Int32) : Option ((Nat → Int64)) := if ¬ nt0 = 0 then f_sumProduct_b14 N0 f0 else if nt1 = 0 then tq_bd (f_setZero N0 f0) (fun f04 : Nat → Int64 => tq_bd (f_setBits N0 f04 (mg0 * mg1) ((ex0 + ex1) + p0)) (fun f05 : Nat → Int64 => if ng0 = ng1 then some f05 else tq_bd (f_flip N0 f05) (fun f07 : Nat → Int64 => some f07))) else f_sumProduct_b14 N0 f0
def f_bits (size : Int32) : Int32 := size
def f_one (size : Int32) : Int32 := ((1 : Int32) <<< ((size - (2 : Int32)) &&& 31))
def f_next (size : Int32) (x : Int32) : Int32 := (f_patternOf (x + (1 : Int32)) size)
def f_compare (size : Int32) (x : Int32) (y : Int32) : Int32 := tq_nm (f_patternOf x size) (fun x2 : Int32 => tq_nm (f_patternOf y size) (fun x4 : Int32 => if ¬ x2 = x4 then if x4 ≤ x2 then (1 : Int32) else (-1 : Int32) else (0 : Int32)))
def f_fromLong_b31 (v : Int64) (t0 : Int32) (t1 : Int32) : Int32 := (f_rounded t1 t0 (if 0 < v then v else -v) (0 : Int32) (0 : Int32))
def f_fromLong (size : Int32) (v : Int64) : Int32 := if ¬ (lg_cmp v (-9223372036854775808 : Int64)) = 0 then if 0 ≤ (lg_cmp v (0 : Int64)) then f_fromLong_b31 v (0 : Int32) size else f_fromLong_b31 v (1 : Int32) size else (f_notOf size)
def f_whole_b32 (size : Int32) (x : Int32) (nt0 : Int32) (ng0 : Int32) (mg0 : Int64) (ex0 : Int32) : Int32 × Int32 × Int32 × Int64 × Int32 := (f_patternOf x size, nt0, ng0, mg0, ex0)
def f_whole (size : Int32) (nt0 : Int32) (ng0 : Int32) (mg0 : Int64) (ex0 : Int32) (x : Int32) : Int32 × Int32 × Int32 × Int64 × Int32 := tq_nm (f_read nt0 ng0 mg0 ex0 x size) (fun u : Int32 × Int32 × Int64 × Int32 => tq_nm u.1 (fun nt01 : Int32 => tq_nm u.2.1 (fun ng02 : Int32 => tq_nm u.2.2.1 (fun mg03 : Int64 => tq_nm u.2.2.2 (fun ex04 : Int32 => if ¬ nt01 = 0 then f_whole_b32 size x nt01 ng02 mg03 ex04 else if ex04 < 0 then (f_rounded size ng02 (f_nearestWhole nt01 ng02 mg03 ex04) (0 : Int32) (0 : Int32), nt01, ng02, mg03, ex04) else f_whole_b32 size x nt01 ng02 mg03 ex04)))))
def f_toLong_b37 (t0 : Int32) (nt0 : Int32) (ng0 : Int32) (mg0 : Int64) (ex0 : Int32) : Int64 × Int32 × Int32 × Int64 × Int32 := if ¬ nt0 = 0 then ((-9223372036854775808 : Int64), nt0, ng0, mg0, ex0) else if t0 = 0 then tq_nm (f_nearestWhole nt0 ng0 mg0 ex0) (fun x10 : Int64 => if ng0 = 0 then (x10, nt0, ng0, mg0, ex0) else (-x10, nt0, ng0, mg0, ex0)) else ((-9223372036854775808 : Int64), nt0, ng0, mg0, ex0)
def f_toLong (size : Int32) (nt0 : Int32) (ng0 : Int32) (mg0 : Int64) (ex0 : Int32) (x : Int32) : Int64 × Int32 × Int32 × Int64 × Int32 := tq_nm (f_read nt0 ng0 mg0 ex0 x size) (fun u : Int32 × Int32 × Int64 × Int32 => tq_nm u.1 (fun nt01 : Int32 => tq_nm u.2.1 (fun ng02 : Int32 => tq_nm u.2.2.1 (fun mg03 : Int64 => tq_nm u.2.2.2 (fun ex04 : Int32 => if ex04 < (f_lnlz mg03) then f_toLong_b37 (0 : Int32) nt01 ng02 mg03 ex04 else f_toLong_b37 (1 : Int32) nt01 ng02 mg03 ex04)))))
def f_convert (size : Int32) (nt0 : Int32) (ng0 : Int32) (mg0 : Int64) (ex0 : Int32) (x : Int32) (width : Int32) : Int32 × Int32 × Int32 × Int64 × Int32 := tq_nm (f_sizeOfWidth width) (fun x2 : Int32 => tq_nm (f_read nt0 ng0 mg0 ex0 x size) (fun u : Int32 × Int32 × Int64 × Int32 => tq_nm u.1 (fun nt03 : Int32 => tq_nm u.2.1 (fun ng04 : Int32 => tq_nm u.2.2.1 (fun mg05 : Int64 => tq_nm u.2.2.2 (fun ex06 : Int32 => if nt03 = 0 then (f_rounded x2 ng04 mg05 ex06 (0 : Int32), nt03, ng04, mg05, ex06) else (f_notOf x2, nt03, ng04, mg05, ex06)))))))
def f_root_b32 (size : Int32) (nt0 : Int32) (ng0 : Int32) (mg0 : Int64) (ex0 : Int32) : Option (Int32 × Int32 × Int32 × Int64 × Int32) := some (f_notOf size, nt0, ng0, mg0, ex0)
def f_root_b115 (size : Int32) (v2 : Int32) (v5 : Int64) (t0 : Int32) (nt0 : Int32) (ng0 : Int32) (mg0 : Int64) (ex0 : Int32) : Option (Int32 × Int32 × Int32 × Int64 × Int32) := some (f_rounded size (0 : Int32) v5 ((ex0 - v2) >>> ((1 : Int32) &&& 31)) t0, nt0, ng0, mg0, ex0)
def f_root_b84 (size : Int32) (v2 : Int32) (nt0 : Int32) (ng0 : Int32) (mg0 : Int64) (ex0 : Int32) : Option (Int32 × Int32 × Int32 × Int64 × Int32) := tq_nm (mg0 <<< (v2.toInt64 &&& 63)) (fun x12 : Int64 => tq_bd (f_floorRoot x12) (fun r13 : Int64 => if (lg_cmp (r13 * r13) x12) = 0 then f_root_b115 size v2 r13 (0 : Int32) nt0 ng0 mg0 ex0 else f_root_b115 size v2 r13 (1 : Int32) nt0 ng0 mg0 ex0))
def f_root (size : Int32) (nt0 : Int32) (ng0 : Int32) (mg0 : Int64) (ex0 : Int32) (x : Int32) : Option (Int32 × Int32 × Int32 × Int64 × Int32) := tq_nm (f_read nt0 ng0 mg0 ex0 x size) (fun u : Int32 × Int32 × Int64 × Int32 => tq_nm u.1 (fun nt01 : Int32 => tq_nm u.2.1 (fun ng02 : Int32 => tq_nm u.2.2.1 (fun mg03 : Int64 => tq_nm u.2.2.2 (fun ex04 : Int32 => if ¬ nt01 = 0 then f_root_b32 size nt01 ng02 mg03 ex04 else if ng02 = 0 then if ¬ (lg_cmp mg03 (0 : Int64)) = 0 then tq_nm ((f_lnlz mg03) - (2 : Int32)) (fun x10 : Int32 => if ((ex04 - x10) &&& (1 : Int32)) = 0 then f_root_b84 size x10 nt01 ng02 mg03 ex04 else f_root_b84 size (x10 + (-1 : Int32)) nt01 ng02 mg03 ex04) else some ((0 : Int32), nt01, ng02, mg03, ex04) else f_root_b32 size nt01 ng02 mg03 ex04)))))
def f_divide_b56 (size : Int32) (nt0 : Int32) (ng0 : Int32) (mg0 : Int64) (ex0 : Int32) (nt1 : Int32) (ng1 : Int32) (mg1 : Int64) (ex1 : Int32) : Option (Int32 × Int32 × Int32 × Int64 × Int32 × Int32 × Int32 × Int64 × Int32) := some (f_notOf size, nt0, ng0, mg0, ex0, nt1, ng1, mg1, ex1)
def f_divide_b168 (v6 : Int64) (v8 : Int32) (v9 : Int32) (t0 : Int32) (t1 : Int32) (nt0 : Int32) (ng0 : Int32) (mg0 : Int64) (ex0 : Int32) (nt1 : Int32) (ng1 : Int32) (mg1 : Int64) (ex1 : Int32) : Option (Int32 × Int32 × Int32 × Int64 × Int32 × Int32 × Int32 × Int64 × Int32) := some (f_rounded t1 t0 v6 v9 v8, nt0, ng0, mg0, ex0, nt1, ng1, mg1, ex1)
def f_divide_b121 (size : Int32) (v3 : Int32) (v6 : Int64) (t0 : Int32) (nt0 : Int32) (ng0 : Int32) (mg0 : Int64) (ex0 : Int32) (nt1 : Int32) (ng1 : Int32) (mg1 : Int64) (ex1 : Int32) : Option (Int32 × Int32 × Int32 × Int64 × Int32 × Int32 × Int32 × Int64 × Int32) := tq_nm ((ex0 - v3) - ex1) (fun x19 : Int32 => if ng0 = ng1 then f_divide_b168 v6 t0 x19 (0 : Int32) size nt0 ng0 mg0 ex0 nt1 ng1 mg1 ex1 else f_divide_b168 v6 t0 x19 (1 : Int32) size nt0 ng0 mg0 ex0 nt1 ng1 mg1 ex1)
def f_divide (size : Int32) (nt0 : Int32) (ng0 : Int32) (mg0 : Int64) (ex0 : Int32) (nt1 : Int32) (ng1 : Int32) (mg1 : Int64) (ex1 : Int32) (x : Int32) (y : Int32) : Option (Int32 × Int32 × Int32 × Int64 × Int32 × Int32 × Int32 × Int64 × Int32) := tq_nm (f_read nt0 ng0 mg0 ex0 x size) (fun u : Int32 × Int32 × Int64 × Int32 => tq_nm u.1 (fun nt01 : Int32 => tq_nm u.2.1 (fun ng02 : Int32 => tq_nm u.2.2.1 (fun mg03 : Int64 => tq_nm u.2.2.2 (fun ex04 : Int32 => tq_nm (f_read nt1 ng1 mg1 ex1 y size) (fun u : Int32 × Int32 × Int64 × Int32 => tq_nm u.1 (fun nt05 : Int32 => tq_nm u.2.1 (fun ng06 : Int32 => tq_nm u.2.2.1 (fun mg07 : Int64 => tq_nm u.2.2.2 (fun ex08 : Int32 => if ¬ nt01 = 0 then f_divide_b56 size nt01 ng02 mg03 ex04 nt05 ng06 mg07 ex08 else if ¬ nt05 = 0 then f_divide_b56 size nt01 ng02 mg03 ex04 nt05 ng06 mg07 ex08 else if ¬ (lg_cmp mg07 (0 : Int64)) = 0 then tq_nm ((f_lnlz mg03) - (1 : Int32)) (fun x14 : Int32 => tq_nm (mg03 <<< (x14.toInt64 &&& 63)) (fun x15 : Int64 => if mg07 = 0 then none else tq_nm (x15 / mg07) (fun x17 : Int64 => if (lg_cmp (x17 * mg07) x15) = 0 then f_divide_b121 size x14 x17 (0 : Int32) nt01 ng02 mg03 ex04 nt05 ng06 mg07 ex08 else f_divide_b121 size x14 x17 (1 : Int32) nt01 ng02 mg03 ex04 nt05 ng06 mg07 ex08))) else f_divide_b56 size nt01 ng02 mg03 ex04 nt05 ng06 mg07 ex08))))))))))
def f_setProduct (size : Int32) (nt0 : Int32) (ng0 : Int32) (mg0 : Int64) (ex0 : Int32) (nt1 : Int32) (ng1 : Int32) (mg1 : Int64) (ex1 : Int32) (p0 : Int32) (N0 : Nat) (f : Nat → Int64) (x : Int32) (y : Int32) : Option (Int32 × Int32 × Int64 × Int32 × Int32 × Int32 × Int64 × Int32 × (Nat → Int64)) := tq_nm (f_read nt0 ng0 mg0 ex0 x size) (fun u : Int32 × Int32 × Int64 × Int32 => tq_nm u.1 (fun nt01 : Int32 => tq_nm u.2.1 (fun ng02 : Int32 => tq_nm u.2.2.1 (fun mg03 : Int64 => tq_nm u.2.2.2 (fun ex04 : Int32 => tq_nm (f_read nt1 ng1 mg1 ex1 y size) (fun u : Int32 × Int32 × Int64 × Int32 => tq_nm u.1 (fun nt05 : Int32 => tq_nm u.2.1 (fun ng06 : Int32 => tq_nm u.2.2.1 (fun mg07 : Int64 => tq_nm u.2.2.2 (fun ex08 : Int32 => tq_bd (f_sumProduct p0 N0 f nt01 ng02 mg03 ex04 nt05 ng06 mg07 ex08) (fun f09 : Nat → Int64 => some (nt01, ng02, mg03, ex04, nt05, ng06, mg07, ex08, f09))))))))))))
def f_roundedSum_b39 (size : Int32) (p0 : Int32) (N0 : Nat) (v2 : Int32) (f3 : Nat → Int64) : Option (Int32 × (Nat → Int64)) := tq_bd (f_topBit N0 f3) (fun r6 : Int32 => if 0 ≤ r6 then tq_bd (f_hasBitsBelow N0 f3 (r6 - (63 : Int32))) (fun r8 : Int32 => tq_bd (f_leadingBits N0 f3 r6) (fun r9 : Int64 => some (f_signedPattern size v2 (r6 - p0) r9 r8, f3))) else some ((0 : Int32), f3))
def f_roundedSum (size : Int32) (p0 : Int32) (N0 : Nat) (f : Nat → Int64) (f3 : Nat → Int64) : Option (Int32 × (Nat → Int64)) := tq_bd (f_isNot N0 f) (fun r1 : Int32 => if r1 = 0 then tq_bd (f_isNegative N0 f) (fun r3 : Int32 => tq_bd (f_copy N0 f3 N0 f) (fun f04 : Nat → Int64 => if r3 = 0 then f_roundedSum_b39 size p0 N0 r3 f04 else tq_bd (f_flip N0 f04) (fun f011 : Nat → Int64 => f_roundedSum_b39 size p0 N0 r3 f011))) else some (f_notOf size, f3))
def f_fused (size : Int32) (nt0 : Int32) (ng0 : Int32) (mg0 : Int64) (ex0 : Int32) (nt1 : Int32) (ng1 : Int32) (mg1 : Int64) (ex1 : Int32) (p0 : Int32) (N0 : Nat) (f2 : Nat → Int64) (f3 : Nat → Int64) (x : Int32) (y : Int32) (z : Int32) : Option (Int32 × Int32 × Int32 × Int64 × Int32 × Int32 × Int32 × Int64 × Int32 × (Nat → Int64) × (Nat → Int64)) := tq_bd (f_setProduct size nt0 ng0 mg0 ex0 nt1 ng1 mg1 ex1 p0 N0 f2 x y) (fun u : Int32 × Int32 × Int64 × Int32 × Int32 × Int32 × Int64 × Int32 × (Nat → Int64) => tq_nm u.1 (fun nt01 : Int32 => tq_nm u.2.1 (fun ng02 : Int32 => tq_nm u.2.2.1 (fun mg03 : Int64 => tq_nm u.2.2.2.1 (fun ex04 : Int32 => tq_nm u.2.2.2.2.1 (fun nt15 : Int32 => tq_nm u.2.2.2.2.2.1 (fun ng16 : Int32 => tq_nm u.2.2.2.2.2.2.1 (fun mg17 : Int64 => tq_nm u.2.2.2.2.2.2.2.1 (fun ex18 : Int32 => tq_nm u.2.2.2.2.2.2.2.2 (fun f9 : Nat → Int64 => tq_bd (f_setProduct size nt01 ng02 mg03 ex04 nt15 ng16 mg17 ex18 p0 N0 f3 z (f_one size)) (fun u : Int32 × Int32 × Int64 × Int32 × Int32 × Int32 × Int64 × Int32 × (Nat → Int64) => tq_nm u.1 (fun nt011 : Int32 => tq_nm u.2.1 (fun ng012 : Int32 => tq_nm u.2.2.1 (fun mg013 : Int64 => tq_nm u.2.2.2.1 (fun ex014 : Int32 => tq_nm u.2.2.2.2.1 (fun nt115 : Int32 => tq_nm u.2.2.2.2.2.1 (fun ng116 : Int32 => tq_nm u.2.2.2.2.2.2.1 (fun mg117 : Int64 => tq_nm u.2.2.2.2.2.2.2.1 (fun ex118 : Int32 => tq_nm u.2.2.2.2.2.2.2.2 (fun f19 : Nat → Int64 => tq_bd (f_include N0 f9 N0 f19) (fun f020 : Nat → Int64 => tq_bd (f_roundedSum size p0 N0 f020 f19) (fun u : Int32 × (Nat → Int64) => tq_nm u.1 (fun r21 : Int32 => tq_nm u.2 (fun f322 : Nat → Int64 => some (r21, nt011, ng012, mg013, ex014, nt115, ng116, mg117, ex118, f020, f322)))))))))))))))))))))))))
def f_add (size : Int32) (nt0 : Int32) (ng0 : Int32) (mg0 : Int64) (ex0 : Int32) (nt1 : Int32) (ng1 : Int32) (mg1 : Int64) (ex1 : Int32) (p0 : Int32) (N0 : Nat) (f2 : Nat → Int64) (f3 : Nat → Int64) (x : Int32) (y : Int32) : Option (Int32 × Int32 × Int32 × Int64 × Int32 × Int32 × Int32 × Int64 × Int32 × (Nat → Int64) × (Nat → Int64)) := tq_bd (f_fused size nt0 ng0 mg0 ex0 nt1 ng1 mg1 ex1 p0 N0 f2 f3 x (f_one size) y) (fun u : Int32 × Int32 × Int32 × Int64 × Int32 × Int32 × Int32 × Int64 × Int32 × (Nat → Int64) × (Nat → Int64) => tq_nm u.1 (fun r2 : Int32 => tq_nm u.2.1 (fun nt03 : Int32 => tq_nm u.2.2.1 (fun ng04 : Int32 => tq_nm u.2.2.2.1 (fun mg05 : Int64 => tq_nm u.2.2.2.2.1 (fun ex06 : Int32 => tq_nm u.2.2.2.2.2.1 (fun nt17 : Int32 => tq_nm u.2.2.2.2.2.2.1 (fun ng18 : Int32 => tq_nm u.2.2.2.2.2.2.2.1 (fun mg19 : Int64 => tq_nm u.2.2.2.2.2.2.2.2.1 (fun ex110 : Int32 => tq_nm u.2.2.2.2.2.2.2.2.2.1 (fun f211 : Nat → Int64 => tq_nm u.2.2.2.2.2.2.2.2.2.2 (fun f312 : Nat → Int64 => some (r2, nt03, ng04, mg05, ex06, nt17, ng18, mg19, ex110, f211, f312)))))))))))))
def f_subtract (size : Int32) (nt0 : Int32) (ng0 : Int32) (mg0 : Int64) (ex0 : Int32) (nt1 : Int32) (ng1 : Int32) (mg1 : Int64) (ex1 : Int32) (p0 : Int32) (N0 : Nat) (f2 : Nat → Int64) (f3 : Nat → Int64) (x : Int32) (y : Int32) : Option (Int32 × Int32 × Int32 × Int64 × Int32 × Int32 × Int32 × Int64 × Int32 × (Nat → Int64) × (Nat → Int64)) := tq_bd (f_fused size nt0 ng0 mg0 ex0 nt1 ng1 mg1 ex1 p0 N0 f2 f3 x (f_one size) (-y)) (fun u : Int32 × Int32 × Int32 × Int64 × Int32 × Int32 × Int32 × Int64 × Int32 × (Nat → Int64) × (Nat → Int64) => tq_nm u.1 (fun r2 : Int32 => tq_nm u.2.1 (fun nt03 : Int32 => tq_nm u.2.2.1 (fun ng04 : Int32 => tq_nm u.2.2.2.1 (fun mg05 : Int64 => tq_nm u.2.2.2.2.1 (fun ex06 : Int32 => tq_nm u.2.2.2.2.2.1 (fun nt17 : Int32 => tq_nm u.2.2.2.2.2.2.1 (fun ng18 : Int32 => tq_nm u.2.2.2.2.2.2.2.1 (fun mg19 : Int64 => tq_nm u.2.2.2.2.2.2.2.2.1 (fun ex110 : Int32 => tq_nm u.2.2.2.2.2.2.2.2.2.1 (fun f211 : Nat → Int64 => tq_nm u.2.2.2.2.2.2.2.2.2.2 (fun f312 : Nat → Int64 => some (r2, nt03, ng04, mg05, ex06, nt17, ng18, mg19, ex110, f211, f312)))))))))))))
def f_multiply (size : Int32) (nt0 : Int32) (ng0 : Int32) (mg0 : Int64) (ex0 : Int32) (nt1 : Int32) (ng1 : Int32) (mg1 : Int64) (ex1 : Int32) (p0 : Int32) (N0 : Nat) (f2 : Nat → Int64) (f3 : Nat → Int64) (x : Int32) (y : Int32) : Option (Int32 × Int32 × Int32 × Int64 × Int32 × Int32 × Int32 × Int64 × Int32 × (Nat → Int64) × (Nat → Int64)) := tq_bd (f_fused size nt0 ng0 mg0 ex0 nt1 ng1 mg1 ex1 p0 N0 f2 f3 x y (0 : Int32)) (fun u : Int32 × Int32 × Int32 × Int64 × Int32 × Int32 × Int32 × Int64 × Int32 × (Nat → Int64) × (Nat → Int64) => tq_nm u.1 (fun r1 : Int32 => tq_nm u.2.1 (fun nt02 : Int32 => tq_nm u.2.2.1 (fun ng03 : Int32 => tq_nm u.2.2.2.1 (fun mg04 : Int64 => tq_nm u.2.2.2.2.1 (fun ex05 : Int32 => tq_nm u.2.2.2.2.2.1 (fun nt16 : Int32 => tq_nm u.2.2.2.2.2.2.1 (fun ng17 : Int32 => tq_nm u.2.2.2.2.2.2.2.1 (fun mg18 : Int64 => tq_nm u.2.2.2.2.2.2.2.2.1 (fun ex19 : Int32 => tq_nm u.2.2.2.2.2.2.2.2.2.1 (fun f210 : Nat → Int64 => tq_nm u.2.2.2.2.2.2.2.2.2.2 (fun f311 : Nat → Int64 => some (r1, nt02, ng03, mg04, ex05, nt16, ng17, mg18, ex19, f210, f311)))))))))))))
def f_clear (p0 : Int32) (N0 : Nat) (f0 : Nat → Int64) (f1 : Nat → Int64) (q : Int32) : Option (Int32 × (Nat → Int64) × (Nat → Int64)) := if ¬ (f_isSum q) = 0 then if q = 0 then tq_bd (f_setZero N0 f0) (fun f04 : Nat → Int64 => some ((1 : Int32), f04, f1)) else if q = 1 then tq_bd (f_setZero N0 f1) (fun f06 : Nat → Int64 => some ((1 : Int32), f0, f06)) else none else some ((0 : Int32), f0, f1)
def f_merge (p0 : Int32) (N0 : Nat) (f0 : Nat → Int64) (f1 : Nat → Int64) (q : Int32) : Option (Int32 × (Nat → Int64) × (Nat → Int64)) := if ¬ (f_isSum q) = 0 then if q = 0 then tq_bd (f_include N0 f0 N0 f1) (fun f04 : Nat → Int64 => some ((1 : Int32), f04, f1)) else if q = 1 then tq_bd (f_include N0 f1 N0 f0) (fun f06 : Nat → Int64 => some ((1 : Int32), f0, f06)) else none else some ((0 : Int32), f0, f1)
def f_negate (p0 : Int32) (N0 : Nat) (f0 : Nat → Int64) (f1 : Nat → Int64) (q : Int32) : Option (Int32 × (Nat → Int64) × (Nat → Int64)) := if ¬ (f_isSum q) = 0 then if q = 0 then tq_bd (f_flip N0 f0) (fun f04 : Nat → Int64 => some ((1 : Int32), f04, f1)) else if q = 1 then tq_bd (f_flip N0 f1) (fun f06 : Nat → Int64 => some ((1 : Int32), f0, f06)) else none else some ((0 : Int32), f0, f1)
def f_word (p0 : Int32) (N0 : Nat) (f0 : Nat → Int64) (f1 : Nat → Int64) (q : Int32) (k : Int32) : Option (Int64) := if (f_isSum q) = 0 then some (0 : Int64) else if k < 0 then some (0 : Int64) else if q = 0 then if k < (nI N0) then if (k < 0 ∨ N0 ≤ k.toNatClampNeg) then none else some (f0 k.toNatClampNeg) else some (0 : Int64) else if q = 1 then if k < (nI N0) then if (k < 0 ∨ N0 ≤ k.toNatClampNeg) then none else some (f1 k.toNatClampNeg) else some (0 : Int64) else none
def f_total (size : Int32) (p0 : Int32) (N0 : Nat) (f0 : Nat → Int64) (f1 : Nat → Int64) (q : Int32) (f3 : Nat → Int64) : Option (Int32 × (Nat → Int64)) := if ¬ (f_isSum q) = 0 then if q = 0 then tq_bd (f_roundedSum size p0 N0 f0 f3) (fun u : Int32 × (Nat → Int64) => tq_nm u.1 (fun r4 : Int32 => tq_nm u.2 (fun f35 : Nat → Int64 => some (r4, f35)))) else if q = 1 then tq_bd (f_roundedSum size p0 N0 f1 f3) (fun u : Int32 × (Nat → Int64) => tq_nm u.1 (fun r7 : Int32 => tq_nm u.2 (fun f38 : Nat → Int64 => some (r7, f38)))) else none else some (f_notOf size, f3)
def f_collect_b31 (N0 : Nat) (q : Int32) (f0 : Nat → Int64) (f1 : Nat → Int64) (f3 : Nat → Int64) (nt0 : Int32) (ng0 : Int32) (mg0 : Int64) (ex0 : Int32) (nt1 : Int32) (ng1 : Int32) (mg1 : Int64) (ex1 : Int32) : Option (Int32 × (Nat → Int64) × (Nat → Int64) × (Nat → Int64) × Int32 × Int32 × Int64 × Int32 × Int32 × Int32 × Int64 × Int32) := if q = 0 then tq_bd (f_include N0 f0 N0 f3) (fun f014 : Nat → Int64 => some ((1 : Int32), f014, f1, f3, nt0, ng0, mg0, ex0, nt1, ng1, mg1, ex1)) else if q = 1 then tq_bd (f_include N0 f1 N0 f3) (fun f016 : Nat → Int64 => some ((1 : Int32), f0, f016, f3, nt0, ng0, mg0, ex0, nt1, ng1, mg1, ex1)) else none
def f_collect (size : Int32) (nt0 : Int32) (ng0 : Int32) (mg0 : Int64) (ex0 : Int32) (nt1 : Int32) (ng1 : Int32) (mg1 : Int64) (ex1 : Int32) (p0 : Int32) (N0 : Nat) (f0 : Nat → Int64) (f1 : Nat → Int64) (q : Int32) (f3 : Nat → Int64) (x : Int32) (y : Int32) (minus : Int32) : Option (Int32 × (Nat → Int64) × (Nat → Int64) × (Nat → Int64) × Int32 × Int32 × Int64 × Int32 × Int32 × Int32 × Int64 × Int32) := if ¬ (f_isSum q) = 0 then tq_bd (f_setProduct size nt0 ng0 mg0 ex0 nt1 ng1 mg1 ex1 p0 N0 f3 x y) (fun u : Int32 × Int32 × Int64 × Int32 × Int32 × Int32 × Int64 × Int32 × (Nat → Int64) => tq_nm u.1 (fun nt03 : Int32 => tq_nm u.2.1 (fun ng04 : Int32 => tq_nm u.2.2.1 (fun mg05 : Int64 => tq_nm u.2.2.2.1 (fun ex06 : Int32 => tq_nm u.2.2.2.2.1 (fun nt17 : Int32 => tq_nm u.2.2.2.2.2.1 (fun ng18 : Int32 => tq_nm u.2.2.2.2.2.2.1 (fun mg19 : Int64 => tq_nm u.2.2.2.2.2.2.2.1 (fun ex110 : Int32 => tq_nm u.2.2.2.2.2.2.2.2 (fun f11 : Nat → Int64 => if minus = 0 then f_collect_b31 N0 q f0 f1 f11 nt03 ng04 mg05 ex06 nt17 ng18 mg19 ex110 else tq_bd (f_flip N0 f11) (fun f017 : Nat → Int64 => f_collect_b31 N0 q f0 f1 f017 nt03 ng04 mg05 ex06 nt17 ng18 mg19 ex110))))))))))) else some ((0 : Int32), f0, f1, f3, nt0, ng0, mg0, ex0, nt1, ng1, mg1, ex1)
end
section
-- unsigned views
def tq_u32 (x : Int32) : Nat := x.toBitVec.toNat
def tq_u64 (x : Int64) : Nat := x.toBitVec.toNat
theorem tq_u32_lt (x : Int32) : tq_u32 x < 2 ^ 32 := x.toBitVec.isLt
theorem tq_u64_lt (x : Int64) : tq_u64 x < 2 ^ 64 := x.toBitVec.isLt
theorem tq_u32_inj {x y : Int32} (h : tq_u32 x = tq_u32 y) : x = y := Int32.toBitVec.inj (BitVec.eq_of_toNat_eq h)
theorem tq_u64_inj {x y : Int64} (h : tq_u64 x = tq_u64 y) : x = y := Int64.toBitVec.inj (BitVec.eq_of_toNat_eq h)
theorem tq_i32_u (x : Int32) : x.toInt = if tq_u32 x < 2 ^ 31 then (tq_u32 x : Int) else (tq_u32 x : Int) - 2 ^ 32 := by
  rw [← Int32.toInt_toBitVec, BitVec.toInt_eq_toNat_cond]; unfold tq_u32; split <;> split <;> omega
theorem tq_i64_u (x : Int64) : x.toInt = if tq_u64 x < 2 ^ 63 then (tq_u64 x : Int) else (tq_u64 x : Int) - 2 ^ 64 := by
  rw [← Int64.toInt_toBitVec, BitVec.toInt_eq_toNat_cond]; unfold tq_u64; split <;> split <;> omega
theorem tq_u32_i (x : Int32) : (tq_u32 x : Int) = x.toInt % 2 ^ 32 := by
  have h := tq_i32_u x; have := tq_u32_lt x; split at h <;> omega
theorem tq_u64_i (x : Int64) : (tq_u64 x : Int) = x.toInt % 2 ^ 64 := by
  have h := tq_i64_u x; have := tq_u64_lt x; split at h <;> omega
theorem tq_i32_rng (x : Int32) : -2 ^ 31 ≤ x.toInt ∧ x.toInt < 2 ^ 31 := ⟨x.le_toInt, x.toInt_lt⟩
theorem tq_i64_rng (x : Int64) : -2 ^ 63 ≤ x.toInt ∧ x.toInt < 2 ^ 63 := ⟨x.le_toInt, x.toInt_lt⟩
theorem tq_u32_of_i {x : Int32} {k : Nat} (h : x.toInt = k) : tq_u32 x = k := by
  have := tq_u32_i x; have := tq_i32_rng x; omega
theorem tq_u64_of_i {x : Int64} {k : Nat} (h : x.toInt = k) : tq_u64 x = k := by
  have := tq_u64_i x; have := tq_i64_rng x; omega
theorem tq_i32_of_u {x : Int32} {k : Nat} (h : tq_u32 x = k) (hk : k < 2 ^ 31) : x.toInt = k := by
  have h2 := tq_i32_u x; split at h2 <;> omega
theorem tq_i64_of_u {x : Int64} {k : Nat} (h : tq_u64 x = k) (hk : k < 2 ^ 63) : x.toInt = k := by
  have h2 := tq_i64_u x; split at h2 <;> omega
theorem tq_bmod_of {a : Int} {m : Nat} (h : -(m : Int) ≤ 2 * a ∧ 2 * a < m) : a.bmod m = a := by
  apply Int.bmod_eq_of_le <;> omega
theorem tq_i32_add {a b : Int32} (h : -2 ^ 31 ≤ a.toInt + b.toInt ∧ a.toInt + b.toInt < 2 ^ 31) : (a + b).toInt = a.toInt + b.toInt := by
  rw [Int32.toInt_add]; exact tq_bmod_of (by omega)
theorem tq_i32_sub {a b : Int32} (h : -2 ^ 31 ≤ a.toInt - b.toInt ∧ a.toInt - b.toInt < 2 ^ 31) : (a - b).toInt = a.toInt - b.toInt := by
  rw [Int32.toInt_sub]; exact tq_bmod_of (by omega)
theorem tq_i32_neg {a : Int32} (h : -2 ^ 31 < a.toInt) : (-a).toInt = -a.toInt := by
  rw [Int32.toInt_neg]; have := tq_i32_rng a; exact tq_bmod_of (by omega)
theorem tq_i32_mul {a b : Int32} (h : -2 ^ 31 ≤ a.toInt * b.toInt ∧ a.toInt * b.toInt < 2 ^ 31) : (a * b).toInt = a.toInt * b.toInt := by
  rw [Int32.toInt_mul]; exact tq_bmod_of (by omega)
theorem tq_i64_add {a b : Int64} (h : -2 ^ 63 ≤ a.toInt + b.toInt ∧ a.toInt + b.toInt < 2 ^ 63) : (a + b).toInt = a.toInt + b.toInt := by
  rw [Int64.toInt_add]; exact tq_bmod_of (by omega)
theorem tq_i64_sub {a b : Int64} (h : -2 ^ 63 ≤ a.toInt - b.toInt ∧ a.toInt - b.toInt < 2 ^ 63) : (a - b).toInt = a.toInt - b.toInt := by
  rw [Int64.toInt_sub]; exact tq_bmod_of (by omega)
theorem tq_i64_neg {a : Int64} (h : -2 ^ 63 < a.toInt) : (-a).toInt = -a.toInt := by
  rw [Int64.toInt_neg]; have := tq_i64_rng a; exact tq_bmod_of (by omega)
theorem tq_i64_mul {a b : Int64} (h : -2 ^ 63 ≤ a.toInt * b.toInt ∧ a.toInt * b.toInt < 2 ^ 63) : (a * b).toInt = a.toInt * b.toInt := by
  rw [Int64.toInt_mul]; exact tq_bmod_of (by omega)
theorem tq_u64_add (a b : Int64) : tq_u64 (a + b) = (tq_u64 a + tq_u64 b) % 2 ^ 64 := by
  unfold tq_u64; rw [Int64.toBitVec_add, BitVec.toNat_add]
theorem tq_u64_mul (a b : Int64) : tq_u64 (a * b) = (tq_u64 a * tq_u64 b) % 2 ^ 64 := by
  unfold tq_u64; rw [Int64.toBitVec_mul, BitVec.toNat_mul]
theorem tq_u32_add (a b : Int32) : tq_u32 (a + b) = (tq_u32 a + tq_u32 b) % 2 ^ 32 := by
  unfold tq_u32; rw [Int32.toBitVec_add, BitVec.toNat_add]
theorem tq_u64_and (a b : Int64) : tq_u64 (a &&& b) = tq_u64 a &&& tq_u64 b := by
  unfold tq_u64; rw [Int64.toBitVec_and, BitVec.toNat_and]
theorem tq_u64_or (a b : Int64) : tq_u64 (a ||| b) = tq_u64 a ||| tq_u64 b := by
  unfold tq_u64; rw [Int64.toBitVec_or, BitVec.toNat_or]
theorem tq_u64_xor (a b : Int64) : tq_u64 (a ^^^ b) = tq_u64 a ^^^ tq_u64 b := by
  unfold tq_u64; rw [Int64.toBitVec_xor, BitVec.toNat_xor]
theorem tq_u32_and (a b : Int32) : tq_u32 (a &&& b) = tq_u32 a &&& tq_u32 b := by
  unfold tq_u32; rw [Int32.toBitVec_and, BitVec.toNat_and]
theorem tq_u32_or (a b : Int32) : tq_u32 (a ||| b) = tq_u32 a ||| tq_u32 b := by
  unfold tq_u32; rw [Int32.toBitVec_or, BitVec.toNat_or]
theorem tq_u32_xor (a b : Int32) : tq_u32 (a ^^^ b) = tq_u32 a ^^^ tq_u32 b := by
  unfold tq_u32; rw [Int32.toBitVec_xor, BitVec.toNat_xor]
theorem tq_u64_not (a : Int64) : tq_u64 (a ^^^ (-1)) = 2 ^ 64 - 1 - tq_u64 a := by
  unfold tq_u64; rw [Int64.xor_neg_one, Int64.toBitVec_not, BitVec.toNat_not]
theorem tq_u32_not (a : Int32) : tq_u32 (a ^^^ (-1)) = 2 ^ 32 - 1 - tq_u32 a := by
  unfold tq_u32; rw [Int32.xor_neg_one, Int32.toBitVec_not, BitVec.toNat_not]
theorem tq_amt32 {y : Int32} {k : Nat} (h : y.toInt = k) (hk : k < 32) : (y &&& 31).toBitVec.smod 32 = BitVec.ofNat 32 k := by
  have e : y = Int32.ofNat k := by
    apply Int32.toInt.inj; rw [h, Int32.toInt_ofNat_of_lt (by omega)]
  subst e
  have : ∀ k : Fin 32, (Int32.ofNat k.1 &&& 31).toBitVec.smod 32 = BitVec.ofNat 32 k.1 := by decide
  exact this ⟨k, hk⟩
theorem tq_u32_shl {x y : Int32} {k : Nat} (h : y.toInt = k) (hk : k < 32) : tq_u32 (x <<< (y &&& 31)) = tq_u32 x * 2 ^ k % 2 ^ 32 := by
  unfold tq_u32
  rw [Int32.toBitVec_shiftLeft, tq_amt32 h hk, BitVec.shiftLeft_eq', BitVec.toNat_shiftLeft, BitVec.toNat_ofNat, Nat.mod_eq_of_lt (a := k) (by omega), Nat.shiftLeft_eq]
theorem tq_i32_shr {x y : Int32} {k : Nat} (h : y.toInt = k) (hk : k < 32) : (x >>> (y &&& 31)).toInt = x.toInt / 2 ^ k := by
  rw [← Int32.toInt_toBitVec, Int32.toBitVec_shiftRight, tq_amt32 h hk, BitVec.sshiftRight_eq', BitVec.toInt_sshiftRight, BitVec.toNat_ofNat, Nat.mod_eq_of_lt (by omega), Int32.toInt_toBitVec, Int.shiftRight_eq_div_pow]
  norm_cast
theorem tq_u32_ushr {x y : Int32} {k : Nat} (h : y.toInt = k) (hk : k < 32) : tq_u32 ((x.toUInt32 >>> (y.toUInt32 &&& Int32.toUInt32 31)).toInt32) = tq_u32 x / 2 ^ k := by
  have e : y = Int32.ofNat k := by
    apply Int32.toInt.inj; rw [h, Int32.toInt_ofNat_of_lt (by omega)]
  subst e
  have t : ∀ k : Fin 32, (((Int32.ofNat k.1).toUInt32 &&& Int32.toUInt32 31).toBitVec % 32) = BitVec.ofNat 32 k.1 := by decide
  have t := t ⟨k, hk⟩
  show (x.toUInt32 >>> _).toBitVec.toNat = _
  rw [UInt32.toBitVec_shiftRight, t, BitVec.ushiftRight_eq', BitVec.toNat_ushiftRight, BitVec.toNat_ofNat, Nat.mod_eq_of_lt (by omega), Nat.shiftRight_eq_div_pow]
  rfl
theorem tq_amt64 {y : Int32} {k : Nat} (h : y.toInt = k) (hk : k < 64) : (y.toInt64 &&& 63).toBitVec.smod 64 = BitVec.ofNat 64 k := by
  have e : y = Int32.ofNat k := by
    apply Int32.toInt.inj; rw [h, Int32.toInt_ofNat_of_lt (by omega)]
  subst e
  have : ∀ k : Fin 64, ((Int32.ofNat k.1).toInt64 &&& 63).toBitVec.smod 64 = BitVec.ofNat 64 k.1 := by decide
  exact this ⟨k, hk⟩
theorem tq_u64_shl {x : Int64} {y : Int32} {k : Nat} (h : y.toInt = k) (hk : k < 64) : tq_u64 (x <<< (y.toInt64 &&& 63)) = tq_u64 x * 2 ^ k % 2 ^ 64 := by
  unfold tq_u64
  rw [Int64.toBitVec_shiftLeft, tq_amt64 h hk, BitVec.shiftLeft_eq', BitVec.toNat_shiftLeft, BitVec.toNat_ofNat, Nat.mod_eq_of_lt (a := k) (by omega), Nat.shiftLeft_eq]
theorem tq_i64_shr {x : Int64} {y : Int32} {k : Nat} (h : y.toInt = k) (hk : k < 64) : (x >>> (y.toInt64 &&& 63)).toInt = x.toInt / 2 ^ k := by
  rw [← Int64.toInt_toBitVec, Int64.toBitVec_shiftRight, tq_amt64 h hk, BitVec.sshiftRight_eq', BitVec.toInt_sshiftRight, BitVec.toNat_ofNat, Nat.mod_eq_of_lt (by omega), Int64.toInt_toBitVec, Int.shiftRight_eq_div_pow]
  norm_cast
theorem tq_u64_ushr {x : Int64} {y : Int32} {k : Nat} (h : y.toInt = k) (hk : k < 64) : tq_u64 ((x.toUInt64 >>> (y.toInt64.toUInt64 &&& Int64.toUInt64 63)).toInt64) = tq_u64 x / 2 ^ k := by
  have e : y = Int32.ofNat k := by
    apply Int32.toInt.inj; rw [h, Int32.toInt_ofNat_of_lt (by omega)]
  subst e
  have t : ∀ k : Fin 64, (((Int32.ofNat k.1).toInt64.toUInt64 &&& Int64.toUInt64 63).toBitVec % 64) = BitVec.ofNat 64 k.1 := by decide
  have t := t ⟨k, hk⟩
  show (x.toUInt64 >>> _).toBitVec.toNat = _
  rw [UInt64.toBitVec_shiftRight, t, BitVec.ushiftRight_eq', BitVec.toNat_ushiftRight, BitVec.toNat_ofNat, Nat.mod_eq_of_lt (by omega), Nat.shiftRight_eq_div_pow]
  rfl
theorem tq_i64_of_32 (x : Int32) : x.toInt64.toInt = x.toInt := by simp
theorem tq_u32_of_64 (x : Int64) : tq_u32 x.toInt32 = tq_u64 x % 2 ^ 32 := by
  unfold tq_u32 tq_u64
  rw [Int64.toBitVec_toInt32, BitVec.signExtend_eq_setWidth_of_le _ (by decide), BitVec.toNat_setWidth]
theorem tq_nI_i {n : Nat} (h : n < 2 ^ 31) : (nI n).toInt = n := Int32.toInt_ofNat_of_lt h
theorem tq_cl_i {x : Int32} (h : 0 ≤ x.toInt) : (x.toNatClampNeg : Int) = x.toInt := by
  rw [← Int32.toNat_toInt]; omega
theorem tq_cl_n {x : Int32} {k : Nat} (h : x.toInt = k) : x.toNatClampNeg = k := by
  rw [← Int32.toNat_toInt]; omega
theorem tq_cmp_cases (x y : Int64) : (y.toInt < x.toInt ∧ lg_cmp x y = 1) ∨ (x = y ∧ lg_cmp x y = 0) ∨ (x.toInt < y.toInt ∧ lg_cmp x y = -1) := by
  unfold lg_cmp
  by_cases h : x > y
  · left; rw [if_pos h]; exact ⟨Int64.lt_iff_toInt_lt.1 h, rfl⟩
  · rw [if_neg h]
    by_cases h2 : x = y
    · right; left; rw [if_pos h2]; exact ⟨h2, rfl⟩
    · right; right; rw [if_neg h2]; refine ⟨?_, rfl⟩
      rw [gt_iff_lt, Int64.lt_iff_toInt_lt] at h; rw [← Int64.toInt_inj] at h2; omega
theorem tq_cmp_gt {x y : Int64} : (0 < lg_cmp x y) ↔ y.toInt < x.toInt := by
  rcases tq_cmp_cases x y with ⟨h, e⟩ | ⟨h, e⟩ | ⟨h, e⟩ <;> rw [e]
  · simp [h]
  · subst h; simp
  · constructor
    · intro q; exact absurd q (by decide)
    · intro; omega
theorem tq_cmp_eq {x y : Int64} : (lg_cmp x y = 0) ↔ x = y := by
  rcases tq_cmp_cases x y with ⟨h, e⟩ | ⟨h, e⟩ | ⟨h, e⟩ <;> rw [e]
  · constructor
    · intro q; exact absurd q (by decide)
    · intro q; subst q; omega
  · simp [h]
  · constructor
    · intro q; exact absurd q (by decide)
    · intro q; subst q; omega
theorem tq_cmp_ge {x y : Int64} : (0 ≤ lg_cmp x y) ↔ y.toInt ≤ x.toInt := by
  rcases tq_cmp_cases x y with ⟨h, e⟩ | ⟨h, e⟩ | ⟨h, e⟩ <;> rw [e]
  · constructor
    · intro; omega
    · intro; decide
  · subst h; simp
  · constructor
    · intro q; exact absurd q (by decide)
    · intro; omega
theorem tq_nm_e {α β : Type} (a : α) (k : α → β) : tq_nm a k = k a := rfl
theorem tq_bd_e {α β : Type} {x : Option α} {a : α} {k : α → Option β} (h : x = some a) : tq_bd x k = k a := by rw [h]; rfl

theorem tq_pw_div {a s t : Nat} (h1 : 2 ^ t ≤ a / 2 ^ s) (h2 : a / 2 ^ s < 2 ^ (t + 1)) : 2 ^ (t + s) ≤ a ∧ a < 2 ^ (t + s + 1) := by
  have p : 0 < 2 ^ s := Nat.two_pow_pos s
  have e : 2 ^ (t + s + 1) = 2 ^ (t + 1) * 2 ^ s := by rw [← Nat.pow_add]; congr 1; omega
  rw [Nat.pow_add, e]
  exact ⟨(Nat.le_div_iff_mul_le p).1 h1, (Nat.div_lt_iff_lt_mul p).1 h2⟩
theorem tq_sh_nat {v : Int32} {a k : Nat} {y : Int32} (hv : v.toInt = a) (hy : y.toInt = k) (hk : k < 32) : ((v.toUInt32 >>> (y.toUInt32 &&& Int32.toUInt32 31)).toInt32).toInt = ((a / 2 ^ k : Nat) : Int) := by
  apply tq_i32_of_u
  · rw [tq_u32_ushr hy hk, tq_u32_of_i hv]
  · have := tq_i32_rng v; have : a / 2 ^ k ≤ a := Nat.div_le_self _ _; omega
theorem tq_inlz_b73 {v0 v1 : Int32} {a : Nat} (h0 : v0.toInt = a) (ha : 1 ≤ a ∧ a < 2 ^ 2) (h1 : 0 ≤ v1.toInt ∧ v1.toInt ≤ 31) : ∃ t : Nat, t < 2 ∧ (f_inlz_b73 v0 v1).toInt = v1.toInt - t ∧ 2 ^ t ≤ a ∧ a < 2 ^ (t + 1) := by
  unfold f_inlz_b73
  have hs := tq_sh_nat (y := 1) (k := 1) h0 rfl (by omega)
  refine ⟨a / 2, by omega, ?_, ?_⟩
  · rw [tq_i32_sub (by rw [hs]; omega), hs]
  · have : a = 1 ∨ a = 2 ∨ a = 3 := by omega
    rcases this with rfl | rfl | rfl <;> decide
theorem tq_inlz_b61 {v0 v1 : Int32} {a : Nat} (h0 : v0.toInt = a) (ha : 1 ≤ a ∧ a < 2 ^ 4) (h1 : 2 ≤ v1.toInt ∧ v1.toInt ≤ 31) : ∃ t : Nat, t < 4 ∧ (f_inlz_b61 v0 v1).toInt = v1.toInt - t ∧ 2 ^ t ≤ a ∧ a < 2 ^ (t + 1) := by
  unfold f_inlz_b61
  have c4 : ((4 : Int32)).toInt = 4 := rfl
  split
  · rename_i h; rw [Int32.lt_iff_toInt_lt] at h
    obtain ⟨t, a1, a2⟩ := tq_inlz_b73 (v1 := v1) h0 (by omega) (by omega); exact ⟨t, by omega, a2⟩
  · rename_i h; rw [Int32.lt_iff_toInt_lt] at h
    unfold tq_nm
    have hs := tq_sh_nat (y := 2) (k := 2) h0 rfl (by omega)
    have e : (v1 + (-2 : Int32)).toInt = v1.toInt - 2 := tq_i32_add (by rw [show ((-2 : Int32)).toInt = -2 from rfl]; omega)
    obtain ⟨t, a1, a2, a3, a4⟩ := tq_inlz_b73 (v1 := v1 + (-2)) hs (by omega) (by omega)
    refine ⟨t + 2, by omega, by rw [a2, e]; omega, tq_pw_div a3 a4⟩
theorem tq_inlz_b48 {v0 v1 : Int32} {a : Nat} (h0 : v0.toInt = a) (ha : 1 ≤ a ∧ a < 2 ^ 8) (h1 : 6 ≤ v1.toInt ∧ v1.toInt ≤ 31) : ∃ t : Nat, t < 8 ∧ (f_inlz_b48 v0 v1).toInt = v1.toInt - t ∧ 2 ^ t ≤ a ∧ a < 2 ^ (t + 1) := by
  unfold f_inlz_b48
  have c4 : ((16 : Int32)).toInt = 16 := rfl
  split
  · rename_i h; rw [Int32.lt_iff_toInt_lt] at h
    obtain ⟨t, a1, a2⟩ := tq_inlz_b61 (v1 := v1) h0 (by omega) (by omega); exact ⟨t, by omega, a2⟩
  · rename_i h; rw [Int32.lt_iff_toInt_lt] at h
    unfold tq_nm
    have hs := tq_sh_nat (y := 4) (k := 4) h0 rfl (by omega)
    have e : (v1 + (-4 : Int32)).toInt = v1.toInt - 4 := tq_i32_add (by rw [show ((-4 : Int32)).toInt = -4 from rfl]; omega)
    obtain ⟨t, a1, a2, a3, a4⟩ := tq_inlz_b61 (v1 := v1 + (-4)) hs (by omega) (by omega)
    refine ⟨t + 4, by omega, by rw [a2, e]; omega, tq_pw_div a3 a4⟩
theorem tq_inlz_b33 {v0 v1 : Int32} {a : Nat} (h0 : v0.toInt = a) (ha : 1 ≤ a ∧ a < 2 ^ 16) (h1 : 14 ≤ v1.toInt ∧ v1.toInt ≤ 31) : ∃ t : Nat, t < 16 ∧ (f_inlz_b33 v0 v1).toInt = v1.toInt - t ∧ 2 ^ t ≤ a ∧ a < 2 ^ (t + 1) := by
  unfold f_inlz_b33
  have c4 : ((256 : Int32)).toInt = 256 := rfl
  split
  · rename_i h; rw [Int32.lt_iff_toInt_lt] at h
    obtain ⟨t, a1, a2⟩ := tq_inlz_b48 (v1 := v1) h0 (by omega) (by omega); exact ⟨t, by omega, a2⟩
  · rename_i h; rw [Int32.lt_iff_toInt_lt] at h
    unfold tq_nm
    have hs := tq_sh_nat (y := 8) (k := 8) h0 rfl (by omega)
    have e : (v1 + (-8 : Int32)).toInt = v1.toInt - 8 := tq_i32_add (by rw [show ((-8 : Int32)).toInt = -8 from rfl]; omega)
    obtain ⟨t, a1, a2, a3, a4⟩ := tq_inlz_b48 (v1 := v1 + (-8)) hs (by omega) (by omega)
    refine ⟨t + 8, by omega, by rw [a2, e]; omega, tq_pw_div a3 a4⟩
theorem tq_inlz_zero : f_inlz 0 = 32 := rfl
theorem tq_inlz_spec {x : Int32} (hx : x ≠ 0) : ∃ t : Nat, t < 32 ∧ (f_inlz x).toInt = 31 - t ∧ 2 ^ t ≤ tq_u32 x ∧ tq_u32 x < 2 ^ (t + 1) := by
  unfold f_inlz
  have c4 : ((65536 : Int32)).toInt = 65536 := rfl
  have c0 : ((0 : Int32)).toInt = 0 := rfl
  have c31 : ((31 : Int32)).toInt = 31 := rfl
  have hu := tq_i32_u x
  have hl := tq_u32_lt x
  split
  · rename_i h; rw [Int32.lt_iff_toInt_lt] at h
    have hu : x.toInt = tq_u32 x := by split at hu <;> omega
    have hr := tq_i32_rng x
    split
    · rename_i h; rw [Int32.lt_iff_toInt_lt] at h
      obtain ⟨t, a1, a2⟩ := tq_inlz_b33 (v1 := 31) hu (by omega) (by omega); exact ⟨t, by omega, a2⟩
    · rename_i h; rw [Int32.lt_iff_toInt_lt] at h
      unfold tq_nm
      have hs := tq_sh_nat (y := 16) (k := 16) hu rfl (by omega)
      have e : ((31 : Int32) + (-16 : Int32)).toInt = 15 := rfl
      obtain ⟨t, a1, a2, a3, a4⟩ := tq_inlz_b33 (v1 := 31 + (-16)) hs (by omega) (by omega)
      refine ⟨t + 16, by omega, by rw [a2, e]; omega, tq_pw_div a3 a4⟩
  · rename_i h; rw [Int32.lt_iff_toInt_lt] at h
    refine ⟨31, by omega, rfl, ?_⟩
    have : x.toInt ≠ 0 := fun q => hx (Int32.toInt.inj (by rw [q]; rfl))
    split at hu <;> omega
theorem tq_lnlz_zero : f_lnlz 0 = 64 := rfl
theorem tq_lnlz_spec {x : Int64} (hx : x ≠ 0) : ∃ t : Nat, t < 64 ∧ (f_lnlz x).toInt = 63 - t ∧ 2 ^ t ≤ tq_u64 x ∧ tq_u64 x < 2 ^ (t + 1) := by
  unfold f_lnlz tq_nm
  have hs := tq_u64_ushr (x := x) (y := 32) (k := 32) rfl (by omega)
  have hl := tq_u64_lt x
  generalize hz : (x.toUInt64 >>> ((32 : Int32).toInt64.toUInt64 &&& Int64.toUInt64 63)).toInt64 = z at *
  have h3 := tq_u32_of_64 z
  dsimp only
  split
  · rename_i h
    obtain ⟨t, a1, a2, a3, a4⟩ := tq_inlz_spec h
    have e : tq_u32 z.toInt32 = tq_u64 x / 2 ^ 32 := by rw [h3, hs]; omega
    rw [e] at a3 a4
    exact ⟨t + 32, by omega, by rw [a2]; omega, tq_pw_div a3 a4⟩
  · rename_i h
    have h : z.toInt32 = 0 := by simpa using h
    have e : tq_u32 z.toInt32 = 0 := by rw [h]; rfl
    have h4 := tq_u32_of_64 x
    have nz : x.toInt32 ≠ 0 := by
      intro q; apply hx; apply tq_u64_inj
      have : tq_u32 x.toInt32 = 0 := by rw [q]; rfl
      show tq_u64 x = 0
      omega
    obtain ⟨t, a1, a2, a3, a4⟩ := tq_inlz_spec nz
    have e2 : tq_u32 x.toInt32 = tq_u64 x := by omega
    rw [e2] at a3 a4
    refine ⟨t, by omega, ?_, a3, a4⟩
    have c : ((32 : Int32)).toInt = 32 := rfl
    rw [tq_i32_add (by omega), a2, c]; omega

theorem tq_p2t_div {t s : Nat} (h : s ≤ t) : (2 ^ t - 1) / 2 ^ s = 2 ^ (t - s) - 1 := by
  have p : 0 < 2 ^ s := Nat.two_pow_pos s
  have q : 0 < 2 ^ (t - s) := Nat.two_pow_pos _
  have e : 2 ^ t = 2 ^ (t - s) * 2 ^ s := by rw [← Nat.pow_add]; congr 1; omega
  rw [e]
  generalize 2 ^ (t - s) = u at *
  generalize 2 ^ s = v at *
  have : u * v - 1 = (v - 1) + (u - 1) * v := by
    rw [Nat.sub_mul]; have : 1 * v ≤ u * v := Nat.mul_le_mul_right _ q; omega
  rw [this, Nat.add_mul_div_right _ _ p, Nat.div_eq_of_lt (by omega)]; omega
theorem tq_p2t_lt {t k : Nat} (h : t < k) : 2 ^ t - 1 < 2 ^ (k - 1) := by
  have := Nat.pow_le_pow_right (n := 2) (by omega) (show t ≤ k - 1 by omega)
  have := Nat.two_pow_pos t
  omega
theorem tq_p2t_ge {t k : Nat} (h : k ≤ t) : 2 ^ k - 1 ≤ 2 ^ t - 1 := by
  have := Nat.pow_le_pow_right (n := 2) (by omega) h
  omega
theorem tq_intz_b74 {v0 v1 : Int32} {t : Nat} (h0 : v0.toInt = ((2 ^ t - 1 : Nat) : Int)) (ht : 1 ≤ t ∧ t < 3) (h1 : 0 ≤ v1.toInt ∧ v1.toInt ≤ 40) : (f_intz_b74 v0 v1).toInt = v1.toInt + t - 1 := by
  unfold f_intz_b74
  have hs := tq_sh_nat (y := 1) (k := 1) h0 rfl (by omega)
  have : t = 1 ∨ t = 2 := by omega
  rcases this with rfl | rfl
  · rw [tq_i32_add (by rw [hs]; omega), hs]; omega
  · rw [tq_i32_add (by rw [hs]; omega), hs]; omega
theorem tq_intz_b62 {v0 v1 : Int32} {t : Nat} (h0 : v0.toInt = ((2 ^ t - 1 : Nat) : Int)) (ht : 1 ≤ t ∧ t < 5) (h1 : 0 ≤ v1.toInt ∧ v1.toInt ≤ 35) : (f_intz_b62 v0 v1).toInt = v1.toInt + t - 1 := by
  unfold f_intz_b62
  have c4 : ((4 : Int32)).toInt = 4 := rfl
  split
  · rename_i h; rw [Int32.le_iff_toInt_le, h0] at h
    have : t < 3 := by
      rcases Nat.lt_or_ge t 3 with h5 | h5
      · exact h5
      · have := tq_p2t_ge h5; omega
    exact tq_intz_b74 h0 (by omega) (by omega)
  · rename_i h; rw [Int32.le_iff_toInt_le, h0] at h
    have : 3 ≤ t := by
      rcases Nat.lt_or_ge t 3 with h5 | h5
      · have := tq_p2t_lt h5; omega
      · exact h5
    unfold tq_nm
    have hs := tq_sh_nat (y := 2) (k := 2) h0 rfl (by omega)
    rw [tq_p2t_div (by omega)] at hs
    have e : (v1 + (2 : Int32)).toInt = v1.toInt + 2 := tq_i32_add (by rw [show ((2 : Int32)).toInt = 2 from rfl]; omega)
    rw [tq_intz_b74 hs (by omega) (by omega), e]; omega
theorem tq_intz_b49 {v0 v1 : Int32} {t : Nat} (h0 : v0.toInt = ((2 ^ t - 1 : Nat) : Int)) (ht : 1 ≤ t ∧ t < 9) (h1 : 0 ≤ v1.toInt ∧ v1.toInt ≤ 30) : (f_intz_b49 v0 v1).toInt = v1.toInt + t - 1 := by
  unfold f_intz_b49
  have c4 : ((16 : Int32)).toInt = 16 := rfl
  split
  · rename_i h; rw [Int32.le_iff_toInt_le, h0] at h
    have : t < 5 := by
      rcases Nat.lt_or_ge t 5 with h5 | h5
      · exact h5
      · have := tq_p2t_ge h5; omega
    exact tq_intz_b62 h0 (by omega) (by omega)
  · rename_i h; rw [Int32.le_iff_toInt_le, h0] at h
    have : 5 ≤ t := by
      rcases Nat.lt_or_ge t 5 with h5 | h5
      · have := tq_p2t_lt h5; omega
      · exact h5
    unfold tq_nm
    have hs := tq_sh_nat (y := 4) (k := 4) h0 rfl (by omega)
    rw [tq_p2t_div (by omega)] at hs
    have e : (v1 + (4 : Int32)).toInt = v1.toInt + 4 := tq_i32_add (by rw [show ((4 : Int32)).toInt = 4 from rfl]; omega)
    rw [tq_intz_b62 hs (by omega) (by omega), e]; omega
theorem tq_intz_b34 {v0 v1 : Int32} {t : Nat} (h0 : v0.toInt = ((2 ^ t - 1 : Nat) : Int)) (ht : 1 ≤ t ∧ t < 17) (h1 : 0 ≤ v1.toInt ∧ v1.toInt ≤ 20) : (f_intz_b34 v0 v1).toInt = v1.toInt + t - 1 := by
  unfold f_intz_b34
  have c4 : ((256 : Int32)).toInt = 256 := rfl
  split
  · rename_i h; rw [Int32.le_iff_toInt_le, h0] at h
    have : t < 9 := by
      rcases Nat.lt_or_ge t 9 with h5 | h5
      · exact h5
      · have := tq_p2t_ge h5; omega
    exact tq_intz_b49 h0 (by omega) (by omega)
  · rename_i h; rw [Int32.le_iff_toInt_le, h0] at h
    have : 9 ≤ t := by
      rcases Nat.lt_or_ge t 9 with h5 | h5
      · have := tq_p2t_lt h5; omega
      · exact h5
    unfold tq_nm
    have hs := tq_sh_nat (y := 8) (k := 8) h0 rfl (by omega)
    rw [tq_p2t_div (by omega)] at hs
    have e : (v1 + (8 : Int32)).toInt = v1.toInt + 8 := tq_i32_add (by rw [show ((8 : Int32)).toInt = 8 from rfl]; omega)
    rw [tq_intz_b49 hs (by omega) (by omega), e]; omega
theorem tq_low_mask {w t c : Nat} (h : 2 ^ t * (2 * c + 1) < 2 ^ w) : (2 ^ w - 1 - 2 ^ t * (2 * c + 1)) &&& (2 ^ t * (2 * c + 1) - 1) = 2 ^ t - 1 := by
  have p : 0 < 2 ^ t := Nat.two_pow_pos t
  have ht : t < w := by
    rcases Nat.lt_or_ge t w with h5 | h5
    · exact h5
    · have := Nat.pow_le_pow_right (n := 2) (by omega) h5
      have : 2 ^ t * 1 ≤ 2 ^ t * (2 * c + 1) := Nat.mul_le_mul_left _ (by omega)
      omega
  have e1 : 2 ^ t * (2 * c + 1) - 1 = 2 ^ t * (2 * c) + (2 ^ t - 1) := by
    rw [Nat.mul_add]; omega
  have e2 : 2 ^ w - 1 - 2 ^ t * (2 * c + 1) = 2 ^ w - (2 ^ t * (2 * c + 1) + 1) := by omega
  apply Nat.eq_of_testBit_eq
  intro j
  rw [e2, Nat.testBit_and, Nat.testBit_two_pow_sub_succ h, e1, Nat.testBit_two_pow_mul_add _ (by omega)]
  have e3 : 2 ^ t * (2 * c + 1) = 2 ^ t * (2 * c + 1) + 0 := rfl
  rw [e3, Nat.testBit_two_pow_mul_add _ p, Nat.testBit_two_pow_sub_one]
  by_cases hj : j < t
  · simp [hj]; omega
  · simp only [hj, if_false]
    rcases Nat.eq_or_lt_of_le (Nat.le_of_not_lt hj) with q | q
    · subst q; simp
    · obtain ⟨k, hk⟩ : ∃ k, j - t = k + 1 := ⟨j - t - 1, by omega⟩
      rw [hk, Nat.testBit_succ, Nat.testBit_succ]
      have a1 : (2 * c + 1) / 2 = c := by omega
      have a2 : 2 * c / 2 = c := by omega
      rw [a1, a2]; cases c.testBit k <;> simp
theorem tq_odd_part : ∀ n : Nat, n ≠ 0 → ∃ t c, n = 2 ^ t * (2 * c + 1) := by
  intro n
  induction n using Nat.strongRecOn with
  | ind n ih =>
    intro h
    rcases Nat.mod_two_eq_zero_or_one n with q | q
    · obtain ⟨t, c, e⟩ := ih (n / 2) (by omega) (by omega)
      refine ⟨t + 1, c, ?_⟩
      have : n = 2 * (n / 2) := by omega
      rw [this, e, Nat.pow_succ, Nat.mul_comm (2 ^ t) 2, Nat.mul_assoc]
    · exact ⟨0, n / 2, by omega⟩
theorem tq_intz_zero : f_intz 0 = 32 := rfl
theorem tq_intz_spec {x : Int32} {t c : Nat} (hx : tq_u32 x = 2 ^ t * (2 * c + 1)) : (f_intz x).toInt = t := by
  unfold f_intz tq_nm
  have hl := tq_u32_lt x
  rw [hx] at hl
  have ht : t < 32 := by
    rcases Nat.lt_or_ge t 32 with h5 | h5
    · exact h5
    · have := Nat.pow_le_pow_right (n := 2) (by omega) h5
      have : 2 ^ t * 1 ≤ 2 ^ t * (2 * c + 1) := Nat.mul_le_mul_left _ (by omega)
      omega
  have p : 0 < 2 ^ t := Nat.two_pow_pos t
  have nz : 0 < 2 ^ t * (2 * c + 1) := Nat.mul_pos p (by omega)
  have h1 : tq_u32 (x - 1) = 2 ^ t * (2 * c + 1) - 1 := by
    have a := tq_u32_i (x - 1)
    have b := tq_u32_i x
    rw [Int32.toInt_sub] at a
    have c1 : ((1 : Int32)).toInt = 1 := rfl
    rw [c1] at a
    have d : ((x.toInt - 1).bmod (2 ^ 32)) % 2 ^ 32 = (x.toInt - 1) % 2 ^ 32 := Int.bmod_emod (m := 2 ^ 32) ..
    omega
  have hm := tq_low_mask hl
  have h2 : tq_u32 ((x ^^^ (-1 : Int32)) &&& (x - (1 : Int32))) = 2 ^ t - 1 := by
    rw [tq_u32_and, tq_u32_not, h1, hx]; exact hm
  generalize (x ^^^ (-1 : Int32)) &&& (x - (1 : Int32)) = m at *
  dsimp only
  have pt : 2 ^ t - 1 < 2 ^ 31 := by
    have := Nat.pow_le_pow_right (n := 2) (by omega) (show t ≤ 31 by omega)
    omega
  have hi := tq_i32_of_u h2 pt
  have c0 : ((0 : Int32)).toInt = 0 := rfl
  have c4 : ((65536 : Int32)).toInt = 65536 := rfl
  have c1 : ((1 : Int32)).toInt = 1 := rfl
  by_cases h : 0 < m
  · rw [if_pos h]; rw [Int32.lt_iff_toInt_lt, hi] at h
    have t1 : 1 ≤ t := by
      rcases Nat.eq_zero_or_pos t with q | q
      · subst q; simp at h
      · exact q
    by_cases h : m ≤ 65536
    · rw [if_pos h]; rw [Int32.le_iff_toInt_le, hi] at h
      have : t < 17 := by
        rcases Nat.lt_or_ge t 17 with h5 | h5
        · exact h5
        · have := tq_p2t_ge h5; omega
      rw [tq_intz_b34 hi (by omega) (by omega)]; omega
    · rw [if_neg h]; rw [Int32.le_iff_toInt_le, hi] at h
      have : 17 ≤ t := by
        rcases Nat.lt_or_ge t 17 with h5 | h5
        · have := tq_p2t_lt h5; omega
        · exact h5
      have hs := tq_sh_nat (y := 16) (k := 16) hi rfl (by omega)
      rw [tq_p2t_div (by omega)] at hs
      have e : ((1 : Int32) + (16 : Int32)).toInt = 17 := rfl
      rw [tq_intz_b34 hs (by omega) (by omega), e]; omega
  · rw [if_neg h]; rw [Int32.lt_iff_toInt_lt, hi] at h
    have : t = 0 := by
      rcases Nat.eq_zero_or_pos t with q | q
      · exact q
      · have := tq_p2t_ge (show 1 ≤ t from q); omega
    subst this
    have : m = 0 := by apply tq_u32_inj; rw [h2]; rfl
    subst this; rfl
theorem tq_lntz_spec {x : Int64} {t c : Nat} (hx : tq_u64 x = 2 ^ t * (2 * c + 1)) : (f_lntz x).toInt = t := by
  unfold f_lntz tq_nm
  have hs := tq_u64_ushr (x := x) (y := 32) (k := 32) rfl (by omega)
  have hl := tq_u64_lt x
  have h1 := tq_u32_of_64 x
  have p : 0 < 2 ^ t := Nat.two_pow_pos t
  dsimp only
  by_cases h : x.toInt32 = 0
  · rw [if_neg (by simpa using h)]
    have e0 : tq_u32 x.toInt32 = 0 := by rw [h]; rfl
    have ht : 32 ≤ t := by
      rcases Nat.lt_or_ge t 32 with h5 | h5
      · exfalso
        have e : 2 ^ 32 = 2 ^ t * (2 * 2 ^ (31 - t)) := by
          rw [← Nat.pow_succ', ← Nat.pow_add]; congr 1; omega
        rw [h1, hx, e, Nat.mul_mod_mul_left] at e0
        have := (Nat.mul_eq_zero.1 e0).resolve_left (by omega)
        generalize 2 ^ (31 - t) = q at *
        have : (2 * c + 1) % (2 * q) % 2 = (2 * c + 1) % 2 := Nat.mod_mul_right_mod _ _ _
        omega
      · exact h5
    generalize (x.toUInt64 >>> ((32 : Int32).toInt64.toUInt64 &&& Int64.toUInt64 63)).toInt64 = z at *
    have h3 := tq_u32_of_64 z
    have e : tq_u32 z.toInt32 = 2 ^ (t - 32) * (2 * c + 1) := by
      have : 2 ^ t = 2 ^ 32 * 2 ^ (t - 32) := by rw [← Nat.pow_add]; congr 1; omega
      rw [h3, hs, hx, this, Nat.mul_assoc, Nat.mul_div_cancel_left _ (by decide)]
      rw [Nat.mod_eq_of_lt]
      rw [hx, this, Nat.mul_assoc] at hl
      omega
    have r := tq_intz_spec e
    have c32 : ((32 : Int32)).toInt = 32 := rfl
    have ht2 : t < 64 := by
      rcases Nat.lt_or_ge t 64 with h5 | h5
      · exact h5
      · have := Nat.pow_le_pow_right (n := 2) (by omega) h5
        have : 2 ^ t * 1 ≤ 2 ^ t * (2 * c + 1) := Nat.mul_le_mul_left _ (by omega)
        omega
    rw [tq_i32_add (by omega), r, c32]; omega
  · rw [if_pos (by simpa using h)]
    have e0 : tq_u32 x.toInt32 ≠ 0 := fun q => h (tq_u32_inj (by rw [q]; rfl))
    have ht : t < 32 := by
      rcases Nat.lt_or_ge t 32 with h5 | h5
      · exact h5
      · exfalso; apply e0
        have : 2 ^ t = 2 ^ 32 * 2 ^ (t - 32) := by rw [← Nat.pow_add]; congr 1; omega
        rw [h1, hx, this, Nat.mul_assoc, Nat.mul_mod_right]
    have e : 2 ^ 32 = 2 ^ t * (2 * 2 ^ (31 - t)) := by
      rw [← Nat.pow_succ', ← Nat.pow_add]; congr 1; omega
    have e2 : tq_u32 x.toInt32 = 2 ^ t * (2 * (c % 2 ^ (31 - t)) + 1) := by
      rw [h1, hx, e, Nat.mul_mod_mul_left]
      congr 1
      have q := Nat.two_pow_pos (31 - t)
      generalize 2 ^ (31 - t) = k at *
      have : 2 * c + 1 = (2 * (c % k) + 1) + (2 * k) * (c / k) := by
        have := Nat.mod_add_div c k
        rw [Nat.mul_assoc]; omega
      rw [this, Nat.add_mul_mod_self_left, Nat.mod_eq_of_lt]
      have := Nat.mod_lt c q; omega
    exact tq_intz_spec e2
theorem tq_labs_spec {x : Int64} (h : -2 ^ 63 < x.toInt) : (if 0 < x then x else -x).toInt = x.toInt.natAbs := by
  have c0 : ((0 : Int64)).toInt = 0 := rfl
  by_cases q : 0 < x
  · rw [if_pos q]; rw [Int64.lt_iff_toInt_lt, c0] at q; omega
  · rw [if_neg q]; rw [Int64.lt_iff_toInt_lt, c0] at q; rw [tq_i64_neg h]; omega
end
section
theorem tq_nI_add (i : Nat) : nI i + 1 = nI (i + 1) := (Int32.ofNat_add i 1).symm
theorem tq_nI_le {N i : Nat} (hN : N < 2 ^ 31) (hi : i < 2 ^ 31) : nI N ≤ nI i ↔ N ≤ i := by
  rw [Int32.le_iff_toInt_le, tq_nI_i hN, tq_nI_i hi]; omega
theorem tq_nI_lt {N i : Nat} (hN : N < 2 ^ 31) (hi : i < 2 ^ 31) : nI N < nI i ↔ N < i := by
  rw [Int32.lt_iff_toInt_lt, tq_nI_i hN, tq_nI_i hi]; omega
theorem tq_nI_cl {i : Nat} (hi : i < 2 ^ 31) : (nI i).toNatClampNeg = i := tq_cl_n (tq_nI_i hi)
theorem tq_nI_nn {i : Nat} (hi : i < 2 ^ 31) : ¬ nI i < 0 := by
  rw [Int32.lt_iff_toInt_lt, tq_nI_i hi]; show ¬ (i : Int) < 0; omega
theorem tq_nI_ok {N i : Nat} (h : i < N) (hN : N < 2 ^ 31) : ¬ (nI i < 0 ∨ N ≤ (nI i).toNatClampNeg) := by
  rw [tq_nI_cl (by omega)]; exact fun q => q.elim (tq_nI_nn (by omega)) (by omega)
theorem tq_nI_sub {N : Nat} (h : 1 ≤ N) (hN : N < 2 ^ 31) : nI N - 1 = nI (N - 1) := by
  apply Int32.toInt.inj; rw [tq_i32_sub, tq_nI_i hN, tq_nI_i (by omega)]
  · show (N : Int) - 1 = _; omega
  · rw [tq_nI_i hN]; show _ ≤ (N : Int) - 1 ∧ (N : Int) - 1 < _; omega
theorem tq_of_i32 {v : Int32} {i : Nat} (h : v.toInt = i) : v = nI i := by
  have := tq_i32_rng v; apply Int32.toInt.inj; rw [h, tq_nI_i (by omega)]
/-- what N words stand for -/
def tq_sv (f : Nat → Int64) : Nat → Nat
  | 0 => 0
  | k + 1 => tq_sv f k + tq_u64 (f k) * 2 ^ (64 * k)
theorem tq_p64 (k : Nat) : 2 ^ (64 * (k + 1)) = 2 ^ 64 * 2 ^ (64 * k) := by rw [← Nat.pow_add]; congr 1; omega
theorem tq_sv_lt (f : Nat → Int64) : ∀ k, tq_sv f k < 2 ^ (64 * k)
  | 0 => by simp [tq_sv]
  | k + 1 => by
    have := tq_sv_lt f k; have h := tq_u64_lt (f k)
    rw [tq_sv, tq_p64]
    have : tq_u64 (f k) * 2 ^ (64 * k) ≤ (2 ^ 64 - 1) * 2 ^ (64 * k) := Nat.mul_le_mul_right _ (by omega)
    rw [Nat.sub_mul] at this
    have : 1 * 2 ^ (64 * k) ≤ 2 ^ 64 * 2 ^ (64 * k) := Nat.mul_le_mul_right _ (by decide)
    omega
theorem tq_sv_congr {f g : Nat → Int64} : ∀ {k}, (∀ j < k, f j = g j) → tq_sv f k = tq_sv g k
  | 0, _ => rfl
  | k + 1, h => by rw [tq_sv, tq_sv, tq_sv_congr (k := k) (fun j hj => h j (by omega)), h k (by omega)]
theorem tq_sv_upd (f : Nat → Int64) (i : Nat) (x : Int64) : tq_sv (vp_updL f i x) i = tq_sv f i :=
  tq_sv_congr (fun j hj => by unfold vp_updL; rw [if_neg (by omega)])
theorem tq_upd_at (f : Nat → Int64) (i : Nat) (x : Int64) : vp_updL f i x i = x := by unfold vp_updL; rw [if_pos rfl]
theorem tq_upd_ne {f : Nat → Int64} {i j : Nat} {x : Int64} (h : j ≠ i) : vp_updL f i x j = f j := by unfold vp_updL; rw [if_neg h]
theorem tq_sv_split (f : Nat → Int64) (i : Nat) : ∀ m, ∃ r, tq_sv f (i + m) = tq_sv f i + 2 ^ (64 * i) * r ∧ (1 ≤ m → r % 2 ^ 64 = tq_u64 (f i))
  | 0 => ⟨0, by simp, by omega⟩
  | m + 1 => by
    obtain ⟨r, h1, h2⟩ := tq_sv_split f i m
    refine ⟨r + tq_u64 (f (i + m)) * 2 ^ (64 * m), ?_, ?_⟩
    · show tq_sv f (i + m) + tq_u64 (f (i + m)) * 2 ^ (64 * (i + m)) = _
      have e : tq_u64 (f (i + m)) * 2 ^ (64 * (i + m)) = 2 ^ (64 * i) * (tq_u64 (f (i + m)) * 2 ^ (64 * m)) := by
        rw [Nat.mul_left_comm, ← Nat.pow_add]; congr 2; omega
      rw [h1, e, Nat.mul_add, Nat.add_assoc]
    · intro _
      rcases Nat.eq_zero_or_pos m with q | q
      · subst q
        have : r = 0 := by
          have p := Nat.two_pow_pos (64 * i)
          rcases Nat.eq_zero_or_pos r with r0 | r0
          · exact r0
          · have : 0 < 2 ^ (64 * i) * r := Nat.mul_pos p r0
            have e : tq_sv f (i + 0) = tq_sv f i := rfl
            omega
        subst this
        have := tq_u64_lt (f i)
        show (0 + tq_u64 (f i) * 1) % 2 ^ 64 = tq_u64 (f i)
        omega
      · have e : 2 ^ (64 * m) = 2 ^ 64 * 2 ^ (64 * (m - 1)) := by rw [← Nat.pow_add]; congr 1; omega
        rw [e, Nat.mul_comm (tq_u64 _), Nat.mul_assoc, Nat.add_mul_mod_self_left]; exact h2 q
theorem tq_setZero_loop {N : Nat} (hN : N < 2 ^ 31) : ∀ n i (f : Nat → Int64), i ≤ N → N < n + i →
    ∃ g, f_setZero_b2 N n (nI i) f = some g ∧ (∀ j, i ≤ j → j < N → g j = 0) ∧ (∀ j, j < i → g j = f j)
  | 0, i, f, h1, h2 => by omega
  | n + 1, i, f, h1, h2 => by
    unfold f_setZero_b2
    by_cases h : N ≤ i
    · rw [if_pos ((tq_nI_le hN (by omega)).2 h)]
      exact ⟨f, rfl, fun j a b => by omega, fun _ _ => rfl⟩
    · rw [if_neg (fun q => h ((tq_nI_le hN (by omega)).1 q)), if_neg (tq_nI_ok (by omega) hN), tq_nI_cl (by omega), tq_nI_add]
      obtain ⟨g, e, a, b⟩ := tq_setZero_loop hN n (i + 1) (vp_updL f i 0) (by omega) (by omega)
      refine ⟨g, e, fun j h3 h4 => ?_, fun j h3 => ?_⟩
      · rcases Nat.eq_or_lt_of_le h3 with q | q
        · subst q; rw [b _ (by omega), tq_upd_at]
        · exact a j (by omega) h4
      · rw [b j (by omega), tq_upd_ne (by omega)]
theorem tq_setZero_spec {N : Nat} (hN : N ≤ 8) (f : Nat → Int64) : ∃ g, f_setZero N f = some g ∧ ∀ j, j < N → g j = 0 := by
  obtain ⟨g, e, a, b⟩ := tq_setZero_loop (N := N) (by omega) 9 0 f (by omega) (by omega)
  exact ⟨g, e, fun j h => a j (by omega) h⟩
theorem tq_sv_zero {g : Nat → Int64} : ∀ {N}, (∀ j, j < N → g j = 0) → tq_sv g N = 0
  | 0, _ => rfl
  | N + 1, h => by rw [tq_sv, tq_sv_zero (fun j hj => h j (by omega)), h N (by omega)]; show 0 + 0 * _ = 0; simp
theorem tq_u64_min : tq_u64 (-9223372036854775808) = 2 ^ 63 := by decide
theorem tq_setNot_spec {N : Nat} (h1 : 1 ≤ N) (hN : N ≤ 8) (f : Nat → Int64) : ∃ g, f_setNot N f = some g ∧ tq_sv g N = 2 ^ (64 * N - 1) := by
  obtain ⟨g, e, a⟩ := tq_setZero_spec hN f
  unfold f_setNot tq_bd
  rw [e, tq_nI_sub h1 (by omega), tq_nI_cl (by omega)]
  refine ⟨vp_updL g (N - 1) (-9223372036854775808), ?_, ?_⟩
  · show (if _ then none else some _) = _
    rw [if_neg]
    exact fun q => q.elim (tq_nI_nn (by omega)) (by omega)
  · obtain ⟨M, rfl⟩ : ∃ M, N = M + 1 := ⟨N - 1, by omega⟩
    rw [tq_sv]
    show tq_sv (vp_updL g M _) M + tq_u64 (vp_updL g M _ M) * _ = _
    rw [tq_sv_upd, tq_upd_at, tq_sv_zero (fun j hj => a j (by omega)), tq_u64_min, ← Nat.pow_add, Nat.zero_add]; congr 1; omega
theorem tq_flip_loop {N : Nat} (hN : N < 2 ^ 31) (f0 : Nat → Int64) : ∀ n i (c : Int64) (f : Nat → Int64), i ≤ N → N < n + i → tq_u64 c ≤ 1 →
    (∀ j, i ≤ j → f j = f0 j) → tq_sv f i + tq_u64 c * 2 ^ (64 * i) + tq_sv f0 i = 2 ^ (64 * i) →
    ∃ g c', f_flip_b4 N n c (nI i) f = some g ∧ c' ≤ 1 ∧ tq_sv g N + c' * 2 ^ (64 * N) + tq_sv f0 N = 2 ^ (64 * N)
  | 0, i, c, f, h1, h2, hc, hf, hs => by omega
  | n + 1, i, c, f, h1, h2, hc, hf, hs => by
    unfold f_flip_b4
    by_cases h : N ≤ i
    · rw [if_pos ((tq_nI_le hN (by omega)).2 h)]
      have : i = N := by omega
      subst this
      exact ⟨f, tq_u64 c, rfl, hc, hs⟩
    · rw [if_neg (fun q => h ((tq_nI_le hN (by omega)).1 q)), if_neg (tq_nI_ok (by omega) hN), if_neg (tq_nI_ok (by omega) hN), if_neg (tq_nI_ok (by omega) hN), tq_nI_cl (by omega), tq_upd_at]
      have hw : tq_u64 ((f i ^^^ (-1)) + c) = (2 ^ 64 - 1 - tq_u64 (f i) + tq_u64 c) % 2 ^ 64 := by rw [tq_u64_add, tq_u64_not]
      have ha := tq_u64_lt (f i)
      generalize hz : (f i ^^^ (-1)) + c = w at *
      have key : ∀ c' : Int64, tq_u64 c' ≤ 1 → tq_u64 w + tq_u64 c' * 2 ^ 64 = 2 ^ 64 - 1 - tq_u64 (f i) + tq_u64 c →
          ∃ g c'', f_flip_b53 (f_flip_b4 N n) (nI i) c' (vp_updL f i w) = some g ∧ c'' ≤ 1 ∧ tq_sv g N + c'' * 2 ^ (64 * N) + tq_sv f0 N = 2 ^ (64 * N) := by
        intro c' hc' hk
        unfold f_flip_b53
        rw [tq_nI_add]
        apply tq_flip_loop hN f0 n (i + 1) c' _ (by omega) (by omega) hc'
        · intro j hj; rw [tq_upd_ne (by omega)]; exact hf j (by omega)
        · rw [tq_sv, tq_sv, tq_sv_upd, tq_upd_at, ← hf i (Nat.le_refl _), tq_p64]
          have e : (tq_u64 w + tq_u64 c' * 2 ^ 64 + tq_u64 (f i)) * 2 ^ (64 * i) = (2 ^ 64 - 1 + tq_u64 c) * 2 ^ (64 * i) := by congr 1; omega
          rw [Nat.add_mul, Nat.add_mul, Nat.add_mul, Nat.mul_assoc, Nat.sub_mul] at e
          have : 1 * 2 ^ (64 * i) ≤ 2 ^ 64 * 2 ^ (64 * i) := Nat.mul_le_mul_right _ (by decide)
          omega
      have c0 : tq_u64 (0 : Int64) = 0 := by decide
      have c1 : tq_u64 (1 : Int64) = 1 := by decide
      by_cases q : lg_cmp c 1 = 0
      · rw [if_neg (by simpa using q)]
        rw [tq_cmp_eq] at q; subst q
        by_cases q : lg_cmp w 0 = 0
        · rw [if_neg (by simpa using q)]
          rw [tq_cmp_eq] at q
          rw [q, c0, c1] at hw
          exact key 1 (by omega) (by rw [q, c0, c1]; omega)
        · rw [if_pos q]
          rw [tq_cmp_eq] at q
          have : tq_u64 w ≠ 0 := fun e => q (tq_u64_inj (by rw [e, c0]))
          rw [c1] at hw
          exact key 0 (by omega) (by rw [c0, c1]; omega)
      · rw [if_pos q]
        rw [tq_cmp_eq] at q
        have : tq_u64 c ≠ 1 := fun e => q (tq_u64_inj (by rw [e, c1]))
        exact key 0 (by omega) (by rw [c0]; omega)
theorem tq_flip_spec {N : Nat} (hN : N ≤ 8) (f : Nat → Int64) : ∃ g, f_flip N f = some g ∧ tq_sv g N = (2 ^ (64 * N) - tq_sv f N) % 2 ^ (64 * N) := by
  obtain ⟨g, c, e, hc, hs⟩ := tq_flip_loop (N := N) (by omega) f 9 0 1 f (by omega) (by omega) (by decide) (fun _ _ => rfl) (by simp [tq_sv]; decide)
  refine ⟨g, e, ?_⟩
  have h1 := tq_sv_lt f N
  have h2 := tq_sv_lt g N
  generalize 2 ^ (64 * N) = M at *
  rcases (by omega : c = 0 ∨ c = 1) with rfl | rfl
  · rw [Nat.mod_eq_of_lt] <;> omega
  · have : tq_sv g N = 0 := by omega
    have : tq_sv f N = 0 := by omega
    rw [this]; simp; omega
theorem tq_carry_bit {a b c : Nat} (ha : a < 2 ^ 64) (hb : b < 2 ^ 64) (hc : c ≤ 1) :
    ((a &&& b) ||| ((a ||| b) &&& (2 ^ 64 - 1 - (a + b + c) % 2 ^ 64))) / 2 ^ 63 = (a + b + c) / 2 ^ 64 := by
  rw [← Nat.shiftRight_eq_div_pow, Nat.shiftRight_or_distrib, Nat.shiftRight_and_distrib, Nat.shiftRight_and_distrib, Nat.shiftRight_or_distrib]
  simp only [Nat.shiftRight_eq_div_pow]
  have e1 : (2 ^ 64 - 1 - (a + b + c) % 2 ^ 64) / 2 ^ 63 = 1 - (a + b + c) % 2 ^ 64 / 2 ^ 63 := by omega
  rw [e1]
  have h1 : a / 2 ^ 63 = 0 ∨ a / 2 ^ 63 = 1 := by omega
  have h2 : b / 2 ^ 63 = 0 ∨ b / 2 ^ 63 = 1 := by omega
  have h3 : (a + b + c) % 2 ^ 64 / 2 ^ 63 = 0 ∨ (a + b + c) % 2 ^ 64 / 2 ^ 63 = 1 := by omega
  rcases h1 with h1 | h1 <;> rcases h2 with h2 | h2 <;> rcases h3 with h3 | h3 <;> rw [h1, h2, h3] <;> simp <;> omega
theorem tq_include_loop {N : Nat} (hN : N < 2 ^ 31) (f0 f1 : Nat → Int64) : ∀ n i (c : Int64) (f : Nat → Int64), i ≤ N → N < n + i → tq_u64 c ≤ 1 →
    (∀ j, i ≤ j → f j = f0 j) → tq_sv f i + tq_u64 c * 2 ^ (64 * i) = tq_sv f0 i + tq_sv f1 i →
    ∃ g c', f_include_b24 N N f1 n c (nI i) f = some g ∧ c' ≤ 1 ∧ tq_sv g N + c' * 2 ^ (64 * N) = tq_sv f0 N + tq_sv f1 N
  | 0, i, c, f, h1, h2, hc, hf, hs => by omega
  | n + 1, i, c, f, h1, h2, hc, hf, hs => by
    unfold f_include_b24
    by_cases h : N ≤ i
    · rw [if_pos ((tq_nI_le hN (by omega)).2 h)]
      have : i = N := by omega
      subst this
      exact ⟨f, tq_u64 c, rfl, hc, hs⟩
    · rw [if_neg (fun q => h ((tq_nI_le hN (by omega)).1 q)), if_neg (fun q => h ((tq_nI_le hN (by omega)).1 q)), if_neg (tq_nI_ok (by omega) hN)]
      unfold tq_nm
      dsimp only
      rw [if_neg (tq_nI_ok (by omega) hN), if_neg (tq_nI_ok (by omega) hN), tq_nI_cl (by omega), tq_nI_add]
      have ha := tq_u64_lt (f i)
      have hb := tq_u64_lt (f1 i)
      have hw : tq_u64 (f i + f1 i + c) = (tq_u64 (f i) + tq_u64 (f1 i) + tq_u64 c) % 2 ^ 64 := by rw [tq_u64_add, tq_u64_add]; omega
      generalize f i + f1 i + c = w at *
      have hk := tq_u64_ushr (x := (f i &&& f1 i) ||| ((f i ||| f1 i) &&& (w ^^^ (-1)))) (y := 63) (k := 63) rfl (by omega)
      rw [tq_u64_or, tq_u64_and, tq_u64_and, tq_u64_or, tq_u64_not, hw, tq_carry_bit ha hb hc] at hk
      generalize (((f i &&& f1 i) ||| ((f i ||| f1 i) &&& (w ^^^ (-1)))).toUInt64 >>> ((63 : Int32).toInt64.toUInt64 &&& Int64.toUInt64 63)).toInt64 = c' at *
      apply tq_include_loop hN f0 f1 n (i + 1) c' _ (by omega) (by omega) (by omega)
      · intro j hj; rw [tq_upd_ne (by omega)]; exact hf j (by omega)
      · rw [tq_sv, tq_sv, tq_sv, tq_sv_upd, tq_upd_at, ← hf i (Nat.le_refl _), tq_p64]
        have e : (tq_u64 w + tq_u64 c' * 2 ^ 64) * 2 ^ (64 * i) = (tq_u64 (f i) + tq_u64 (f1 i) + tq_u64 c) * 2 ^ (64 * i) := by congr 1; omega
        rw [Nat.add_mul, Nat.add_mul, Nat.add_mul, Nat.mul_assoc] at e
        omega
theorem tq_copy_loop {N : Nat} (hN : N < 2 ^ 31) (f1 : Nat → Int64) : ∀ n i (f : Nat → Int64), i ≤ N → N < n + i →
    (∀ j, j < i → f j = f1 j) → ∃ g, f_copy_b2 N N f1 n (nI i) f = some g ∧ (∀ j, j < N → g j = f1 j)
  | 0, i, f, h1, h2, hf => by omega
  | n + 1, i, f, h1, h2, hf => by
    unfold f_copy_b2
    by_cases h : N ≤ i
    · rw [if_pos ((tq_nI_le hN (by omega)).2 h)]
      exact ⟨f, rfl, fun j hj => hf j (by omega)⟩
    · rw [if_neg (fun q => h ((tq_nI_le hN (by omega)).1 q)), if_neg (fun q => h ((tq_nI_le hN (by omega)).1 q)), if_neg (tq_nI_ok (by omega) hN), if_neg (tq_nI_ok (by omega) hN), tq_nI_cl (by omega), tq_nI_add]
      apply tq_copy_loop hN f1 n (i + 1) _ (by omega) (by omega)
      intro j hj
      rcases Nat.lt_or_ge j i with q | q
      · rw [tq_upd_ne (by omega)]; exact hf j q
      · have : j = i := by omega
        subst this; rw [tq_upd_at]
theorem tq_copy_spec {N : Nat} (hN : N ≤ 8) (f f1 : Nat → Int64) : ∃ g, f_copy N f N f1 = some g ∧ tq_sv g N = tq_sv f1 N := by
  obtain ⟨g, e, h⟩ := tq_copy_loop (N := N) (by omega) f1 9 0 f (by omega) (by omega) (fun j hj => by omega)
  exact ⟨g, e, tq_sv_congr h⟩

theorem tq_mod_split {f : Nat → Int64} {N i b : Nat} (hi : i < N) (hb : b ≤ 64) : tq_sv f N % 2 ^ (64 * i + b) = tq_sv f i + 2 ^ (64 * i) * (tq_u64 (f i) % 2 ^ b) := by
  obtain ⟨r, h1, h2⟩ := tq_sv_split f i (N - i)
  have e : i + (N - i) = N := by omega
  rw [e] at h1
  have h2 := h2 (by omega)
  have hr : r % 2 ^ b = tq_u64 (f i) % 2 ^ b := by
    rw [← h2]
    have e : 2 ^ 64 = 2 ^ b * 2 ^ (64 - b) := by rw [← Nat.pow_add]; congr 1; omega
    rw [e, Nat.mod_mul_right_mod]
  rw [h1, ← hr, Nat.pow_add]
  have hl := tq_sv_lt f i
  have hp := Nat.two_pow_pos b
  have q : r = 2 ^ b * (r / 2 ^ b) + r % 2 ^ b := (Nat.div_add_mod _ _).symm
  have hm := Nat.mod_lt r hp
  generalize r / 2 ^ b = d at *
  generalize r % 2 ^ b = m at *
  have e2 : tq_sv f i + 2 ^ (64 * i) * r = (tq_sv f i + 2 ^ (64 * i) * m) + 2 ^ (64 * i) * 2 ^ b * d := by
    rw [q, Nat.mul_add, Nat.mul_assoc]; omega
  rw [e2, Nat.add_mul_mod_self_left, Nat.mod_eq_of_lt]
  have : 2 ^ (64 * i) * (m + 1) ≤ 2 ^ (64 * i) * 2 ^ b := Nat.mul_le_mul_left _ hm
  rw [Nat.mul_add] at this
  omega
theorem tq_shl_zero {w b : Nat} (hb : b ≤ 64) : w * 2 ^ (64 - b) % 2 ^ 64 = 0 ↔ w % 2 ^ b = 0 := by
  have e : 2 ^ 64 = 2 ^ b * 2 ^ (64 - b) := by rw [← Nat.pow_add]; congr 1; omega
  rw [e, Nat.mul_mod_mul_right]
  have := Nat.two_pow_pos (64 - b)
  constructor
  · intro h; exact (Nat.mul_eq_zero.1 h).resolve_right (by omega)
  · intro h; rw [h, Nat.zero_mul]
theorem tq_below_loop {N : Nat} (hN : N ≤ 8) (f : Nat → Int64) (place : Int32) {P : Nat} (hP : place.toInt = P) (hPN : P ≤ 64 * N) : ∀ n i, i ≤ N → N < n + i →
    (tq_sv f N % 2 ^ (min (64 * i) P) = 0) →
    ∃ r, f_hasBitsBelow_b2 N f place n (nI i) = some r ∧ ((tq_sv f N % 2 ^ P = 0 ∧ r = 0) ∨ (tq_sv f N % 2 ^ P ≠ 0 ∧ r = 1))
  | 0, i, h1, h2, hs => by omega
  | n + 1, i, h1, h2, hs => by
    unfold f_hasBitsBelow_b2
    by_cases h : N ≤ i
    · rw [if_pos ((tq_nI_le (by omega) (by omega)).2 h)]
      have : min (64 * i) P = P := by omega
      rw [this] at hs
      exact ⟨0, rfl, .inl ⟨hs, rfl⟩⟩
    · rw [if_neg (fun q => h ((tq_nI_le (by omega) (by omega)).1 q))]
      have c64 : ((64 : Int32)).toInt = 64 := rfl
      have hi := tq_nI_i (n := i) (by omega)
      have e64 : ((64 : Int32) * nI i).toInt = 64 * i := by
        rw [tq_i32_mul (by rw [hi, c64]; omega), hi, c64]
      by_cases h3 : place ≤ 64 * nI i
      · rw [if_pos h3]
        rw [Int32.le_iff_toInt_le, hP, e64] at h3
        have : min (64 * i) P = P := by omega
        rw [this] at hs
        exact ⟨0, rfl, .inl ⟨hs, rfl⟩⟩
      · rw [if_neg h3]
        rw [Int32.le_iff_toInt_le, hP, e64] at h3
        have es : (place - 64 * nI i).toInt = P - 64 * i := by
          rw [tq_i32_sub (by rw [hP, e64]; omega), hP, e64]
        unfold tq_nm
        dsimp only
        rw [if_neg (tq_nI_ok (N := N) (by omega) (by omega)), tq_nI_cl (by omega), tq_nI_add]
        have hb : (if (place - ((64 : Int32) * nI i)) < (64 : Int32) then (place - ((64 : Int32) * nI i)) else (64 : Int32)).toInt = ((min 64 (P - 64 * i) : Nat) : Int) := by
          by_cases h5 : (place - ((64 : Int32) * nI i)) < (64 : Int32)
          · rw [if_pos h5]; rw [Int32.lt_iff_toInt_lt, es, c64] at h5; rw [es]; omega
          · rw [if_neg h5]; rw [Int32.lt_iff_toInt_lt, es, c64] at h5; rw [c64]; omega
        generalize (if (place - ((64 : Int32) * nI i)) < (64 : Int32) then (place - ((64 : Int32) * nI i)) else (64 : Int32)) = bits at *
        have hsh : ((64 : Int32) - bits).toInt = ((64 - min 64 (P - 64 * i) : Nat) : Int) := by
          rw [tq_i32_sub (by rw [hb, c64]; omega), hb, c64]; omega
        have hu := tq_u64_shl (x := f i) hsh (by omega)
        have hm := tq_mod_split (f := f) (i := i) (N := N) (b := min 64 (P - 64 * i)) (by omega) (by omega)
        have e0 : min (64 * i) P = 64 * i := by omega
        rw [e0] at hs
        have hm0 := tq_mod_split (f := f) (i := i) (N := N) (b := 0) (by omega) (by omega)
        rw [show 64 * i + 0 = 64 * i from rfl, hs, Nat.pow_zero, Nat.mod_one, Nat.mul_zero] at hm0
        have hm0 : tq_sv f i = 0 := by omega
        have e1 : 64 * i + min 64 (P - 64 * i) = min (64 * (i + 1)) P := by omega
        rw [e1, hm0, Nat.zero_add] at hm
        generalize f i <<< (((64 : Int32) - bits).toInt64 &&& 63) = w at *
        have hz := tq_shl_zero (w := tq_u64 (f i)) (b := min 64 (P - 64 * i)) (by omega)
        by_cases h6 : lg_cmp w 0 = 0
        · rw [if_pos h6]
          rw [tq_cmp_eq] at h6
          apply tq_below_loop hN f place hP hPN n (i + 1) (by omega) (by omega)
          have : tq_u64 w = 0 := by rw [h6]; rfl
          rw [hm, hz.1 (by omega), Nat.mul_zero]
        · rw [if_neg h6]
          rw [tq_cmp_eq] at h6
          refine ⟨1, rfl, .inr ⟨?_, rfl⟩⟩
          intro q
          apply h6
          apply tq_u64_inj
          show tq_u64 w = 0
          rw [hu, hz.2]
          have : tq_sv f N % 2 ^ (min (64 * (i + 1)) P) = 0 := by
            have e : 2 ^ P = 2 ^ (min (64 * (i + 1)) P) * 2 ^ (P - min (64 * (i + 1)) P) := by rw [← Nat.pow_add]; congr 1; omega
            rw [e] at q
            have := Nat.mod_mul_right_mod (tq_sv f N) (2 ^ (min (64 * (i + 1)) P)) (2 ^ (P - min (64 * (i + 1)) P))
            rw [q] at this
            rw [← this, Nat.zero_mod]
          rw [hm] at this
          have p := Nat.two_pow_pos (64 * i)
          exact (Nat.mul_eq_zero.1 this).resolve_left (by omega)
theorem tq_below_spec {N : Nat} (hN : N ≤ 8) (f : Nat → Int64) {place : Int32} {P : Nat} (hP : place.toInt = P) (hPN : P ≤ 64 * N) :
    ∃ r, f_hasBitsBelow N f place = some r ∧ ((tq_sv f N % 2 ^ P = 0 ∧ r = 0) ∨ (tq_sv f N % 2 ^ P ≠ 0 ∧ r = 1)) := by
  have := tq_below_loop hN f place hP hPN 9 0 (by omega) (by omega) (by simp [Nat.mod_one])
  exact this
theorem tq_below_neg {N : Nat} (hN : N ≤ 8) (f : Nat → Int64) {place : Int32} (hP : place.toInt ≤ 0) : f_hasBitsBelow N f place = some 0 := by
  unfold f_hasBitsBelow f_hasBitsBelow_b2
  by_cases h : nI N ≤ 0
  · rw [if_pos h]
  · rw [if_neg h, if_pos]
    rw [Int32.le_iff_toInt_le]; exact hP
theorem tq_isNot_spec {N : Nat} (h1 : 1 ≤ N) (hN : N ≤ 8) (f : Nat → Int64) : ∃ r, f_isNot N f = some r ∧ ((tq_sv f N = 2 ^ (64 * N - 1) ∧ r = 1) ∨ (tq_sv f N ≠ 2 ^ (64 * N - 1) ∧ r = 0)) := by
  unfold f_isNot tq_nm
  dsimp only
  rw [tq_nI_sub h1 (by omega), if_neg (tq_nI_ok (by omega) (by omega)), tq_nI_cl (by omega)]
  obtain ⟨M, rfl⟩ : ∃ M, N = M + 1 := ⟨N - 1, by omega⟩
  have e0 : M + 1 - 1 = M := by omega
  rw [e0]
  have e1 : 64 * (M + 1) - 1 = 63 + 64 * M := by omega
  rw [e1, Nat.pow_add]
  have hl := tq_sv_lt f M
  have p := Nat.two_pow_pos (64 * M)
  have c64 : ((64 : Int32)).toInt = 64 := rfl
  have hi := tq_nI_i (n := M) (by omega)
  have e64 : ((64 : Int32) * nI M).toInt = ((64 * M : Nat) : Int) := by
    rw [tq_i32_mul (by rw [hi, c64]; omega), hi, c64]; omega
  by_cases h : lg_cmp (f M) (-9223372036854775808) = 0
  · rw [if_neg (by simpa using h)]
    rw [tq_cmp_eq] at h
    obtain ⟨r, e, hr⟩ := tq_below_spec hN f e64 (by omega)
    have hm := tq_mod_split (f := f) (i := M) (N := M + 1) (b := 0) (by omega) (by omega)
    rw [show 64 * M + 0 = 64 * M from rfl, Nat.pow_zero, Nat.mod_one, Nat.mul_zero, show tq_sv f M + 0 = tq_sv f M from rfl] at hm
    rw [hm] at hr
    unfold tq_bd
    rw [e]
    show ∃ r_1, (if ¬ r = 0 then some 0 else some 1) = some r_1 ∧ _
    rcases hr with ⟨a, rfl⟩ | ⟨a, rfl⟩
    · refine ⟨1, rfl, .inl ⟨?_, rfl⟩⟩
      rw [tq_sv, a, h, tq_u64_min, Nat.zero_add]
    · refine ⟨0, rfl, .inr ⟨?_, rfl⟩⟩
      rw [tq_sv, h, tq_u64_min]; omega
  · rw [if_pos h]
    rw [tq_cmp_eq] at h
    refine ⟨0, rfl, .inr ⟨?_, rfl⟩⟩
    intro q
    apply h
    apply tq_u64_inj
    rw [tq_u64_min]
    rw [tq_sv] at q
    have : (tq_sv f M + tq_u64 (f M) * 2 ^ (64 * M)) / 2 ^ (64 * M) = 2 ^ 63 := by rw [q]; exact Nat.mul_div_cancel _ p
    rw [Nat.add_mul_div_right _ _ p, Nat.div_eq_of_lt hl] at this
    omega
theorem tq_isNegative_spec {N : Nat} (h1 : 1 ≤ N) (hN : N ≤ 8) (f : Nat → Int64) : ∃ r, f_isNegative N f = some r ∧ ((tq_sv f N < 2 ^ (64 * N - 1) ∧ r = 0) ∨ (2 ^ (64 * N - 1) ≤ tq_sv f N ∧ r = 1)) := by
  unfold f_isNegative
  rw [tq_nI_sub h1 (by omega), if_neg (tq_nI_ok (by omega) (by omega)), tq_nI_cl (by omega)]
  obtain ⟨M, rfl⟩ : ∃ M, N = M + 1 := ⟨N - 1, by omega⟩
  have e0 : M + 1 - 1 = M := by omega
  rw [e0]
  have e1 : 64 * (M + 1) - 1 = 63 + 64 * M := by omega
  rw [e1, Nat.pow_add, tq_sv]
  have hl := tq_sv_lt f M
  have hu := tq_i64_u (f M)
  have c0 : ((0 : Int64)).toInt = 0 := rfl
  by_cases h : 0 ≤ lg_cmp (f M) 0
  · rw [if_pos h]
    rw [tq_cmp_ge, c0] at h
    refine ⟨0, rfl, .inl ⟨?_, rfl⟩⟩
    have hh : tq_u64 (f M) < 2 ^ 63 := by have := tq_u64_lt (f M); split at hu <;> omega
    have : (tq_u64 (f M) + 1) * 2 ^ (64 * M) ≤ 2 ^ 63 * 2 ^ (64 * M) := Nat.mul_le_mul_right _ hh
    rw [Nat.add_mul] at this; omega
  · rw [if_neg h]
    rw [tq_cmp_ge, c0] at h
    refine ⟨1, rfl, .inr ⟨?_, rfl⟩⟩
    have hh : 2 ^ 63 ≤ tq_u64 (f M) := by split at hu <;> omega
    have : 2 ^ 63 * 2 ^ (64 * M) ≤ tq_u64 (f M) * 2 ^ (64 * M) := Nat.mul_le_mul_right _ hh
    omega
theorem tq_include_spec {N : Nat} (h1 : 1 ≤ N) (hN : N ≤ 8) (f f1 : Nat → Int64) : ∃ g, f_include N f N f1 = some g ∧
    tq_sv g N = if tq_sv f N = 2 ^ (64 * N - 1) ∨ tq_sv f1 N = 2 ^ (64 * N - 1) then 2 ^ (64 * N - 1) else (tq_sv f N + tq_sv f1 N) % 2 ^ (64 * N) := by
  unfold f_include f_include_b14 tq_bd
  obtain ⟨r, e, hr⟩ := tq_isNot_spec h1 hN f
  obtain ⟨r', e', hr'⟩ := tq_isNot_spec h1 hN f1
  obtain ⟨gn, en, hn⟩ := tq_setNot_spec h1 hN f
  rw [e, e', en]
  show ∃ g, (if ¬ r = 0 then some gn else if r' = 0 then f_include_b24 N N f1 9 0 0 f else some gn) = some g ∧ _
  rcases hr with ⟨a, rfl⟩ | ⟨a, rfl⟩
  · refine ⟨gn, rfl, ?_⟩
    rw [if_pos (.inl a)]; exact hn
  · rw [if_neg (by simp)]
    rcases hr' with ⟨a', rfl⟩ | ⟨a', rfl⟩
    · refine ⟨gn, rfl, ?_⟩
      rw [if_pos (.inr a')]; exact hn
    · rw [if_pos rfl]
      obtain ⟨g, c, e, hc, hs⟩ := tq_include_loop (N := N) (by omega) f f1 9 0 0 f (by omega) (by omega) (by decide) (fun _ _ => rfl) (by simp [tq_sv]; decide)
      refine ⟨g, e, ?_⟩
      rw [if_neg (by omega), ← hs, Nat.add_mul_mod_self_right, Nat.mod_eq_of_lt (tq_sv_lt g N)]
theorem tq_nI_pred {i : Nat} (hi : i < 2 ^ 31) : (nI (i + 1) + (-1 : Int32)) = nI i := by
  rw [← tq_nI_add, Int32.add_assoc]; show nI i + 0 = nI i; exact Int32.add_zero _
theorem tq_topBit_loop {N : Nat} (hN : N ≤ 8) (f : Nat → Int64) : ∀ i n, i ≤ N → i < n → tq_sv f N = tq_sv f i →
    ∃ r, f_topBit_b8 N f n (nI i + (-1)) = some r ∧ ((tq_sv f N = 0 ∧ r = -1) ∨ ∃ T : Nat, T < 64 * N ∧ r.toInt = T ∧ 2 ^ T ≤ tq_sv f N ∧ tq_sv f N < 2 ^ (T + 1))
  | 0, n, h1, h2, hs => by
    obtain ⟨m, rfl⟩ : ∃ m, n = m + 1 := ⟨n - 1, by omega⟩
    unfold f_topBit_b8
    refine ⟨-1, ?_, .inl ⟨hs, rfl⟩⟩
    rw [if_pos (by decide)]
  | i + 1, n, h1, h2, hs => by
    obtain ⟨m, rfl⟩ : ∃ m, n = m + 1 := ⟨n - 1, by omega⟩
    unfold f_topBit_b8
    rw [tq_nI_pred (by omega), if_neg (tq_nI_nn (by omega)), if_neg (tq_nI_ok (by omega) (by omega)), if_neg (tq_nI_ok (by omega) (by omega)), tq_nI_cl (by omega)]
    by_cases h : lg_cmp (f i) 0 = 0
    · rw [if_pos h]
      rw [tq_cmp_eq] at h
      apply tq_topBit_loop hN f i m (by omega) (by omega)
      rw [hs, tq_sv, h]; show _ + 0 * _ = _; simp
    · rw [if_neg h]
      rw [tq_cmp_eq] at h
      obtain ⟨t, a1, a2, a3, a4⟩ := tq_lnlz_spec h
      have c64 : ((64 : Int32)).toInt = 64 := rfl
      have c63 : ((63 : Int32)).toInt = 63 := rfl
      have hi := tq_nI_i (n := i) (by omega)
      have e64 : ((64 : Int32) * nI i).toInt = 64 * i := by rw [tq_i32_mul (by rw [hi, c64]; omega), hi, c64]
      have e127 : ((64 : Int32) * nI i + 63).toInt = 64 * i + 63 := by rw [tq_i32_add (by rw [e64, c63]; omega), e64, c63]
      refine ⟨_, rfl, .inr ⟨64 * i + t, by omega, ?_, ?_, ?_⟩⟩
      · rw [tq_i32_sub (by rw [e127, a2]; omega), e127, a2]; omega
      · rw [hs, tq_sv, Nat.pow_add, Nat.mul_comm]
        have := Nat.mul_le_mul_right (2 ^ (64 * i)) a3
        omega
      · have e : 64 * i + t + 1 = 64 * i + (t + 1) := by omega
        rw [hs, tq_sv, e, Nat.pow_add, Nat.mul_comm (2 ^ (64 * i)) (2 ^ (t + 1))]
        have := Nat.mul_le_mul_right (2 ^ (64 * i)) (show tq_u64 (f i) + 1 ≤ _ from a4)
        rw [Nat.add_mul] at this
        have := tq_sv_lt f i
        omega
theorem tq_topBit_spec {N : Nat} (h1 : 1 ≤ N) (hN : N ≤ 8) (f : Nat → Int64) : ∃ r, f_topBit N f = some r ∧ ((tq_sv f N = 0 ∧ r = -1) ∨ ∃ T : Nat, T < 64 * N ∧ r.toInt = T ∧ 2 ^ T ≤ tq_sv f N ∧ tq_sv f N < 2 ^ (T + 1)) :=
  by
    unfold f_topBit tq_nm
    dsimp only
    rw [Int32.sub_eq_add_neg]
    exact tq_topBit_loop hN f N 9 (by omega) (by omega) rfl

theorem tq_leading_spec {N : Nat} (hN : N ≤ 8) (f : Nat → Int64) {top : Int32} {T : Nat} (hT : top.toInt = T) (hTN : T < 64 * N) (h2 : tq_sv f N < 2 ^ (T + 1)) :
    ∃ r, f_leadingBits N f top = some r ∧ tq_u64 r = (if 63 ≤ T then tq_sv f N / 2 ^ (T - 63) else tq_sv f N * 2 ^ (63 - T)) := by
  unfold f_leadingBits tq_nm
  dsimp only
  have e6 : (top >>> ((6 : Int32) &&& 31)).toInt = ((T / 64 : Nat) : Int) := by
    rw [tq_i32_shr (k := 6) rfl (by omega), hT]; omega
  rw [tq_of_i32 e6]
  have c0 : ((0 : Int32)).toInt = 0 := rfl
  have c63 : ((63 : Int32)).toInt = 63 := rfl
  have em : (top &&& 63).toInt = ((T % 64 : Nat) : Int) := by
    apply tq_i32_of_u
    · rw [tq_u32_and, tq_u32_of_i hT]
      have : tq_u32 (63 : Int32) = 2 ^ 6 - 1 := rfl
      rw [this, Nat.and_two_pow_sub_one_eq_mod]
    · omega
  have es : ((63 : Int32) - (top &&& 63)).toInt = ((63 - T % 64 : Nat) : Int) := by
    rw [tq_i32_sub (by rw [c63, em]; omega), c63, em]; omega
  have es2 : ((63 : Int32) - ((63 : Int32) - (top &&& 63))).toInt = ((T % 64 : Nat) : Int) := by
    rw [tq_i32_sub (by rw [c63, es]; omega), c63, es]; omega
  rw [if_neg (tq_nI_nn (by omega)), if_pos ((tq_nI_lt (by omega) (by omega)).2 (by omega))]
  have eN : tq_sv f N = tq_sv f (T / 64 + 1) := by
    obtain ⟨r, h1, _⟩ := tq_sv_split f (T / 64 + 1) (N - (T / 64 + 1))
    have e : T / 64 + 1 + (N - (T / 64 + 1)) = N := by omega
    rw [e] at h1
    have : 2 ^ (T + 1) ≤ 2 ^ (64 * (T / 64 + 1)) := Nat.pow_le_pow_right (by omega) (by omega)
    rcases Nat.eq_zero_or_pos r with q | q
    · rw [h1, q]; simp
    · have := Nat.mul_le_mul_left (2 ^ (64 * (T / 64 + 1))) q
      omega
  have eT : T = 64 * (T / 64) + T % 64 := by omega
  have hm : T % 64 < 64 := by omega
  generalize hidx : T / 64 = i at *
  generalize hmm : T % 64 = m at *
  have hw : tq_u64 (f i) < 2 ^ (m + 1) := by
    rw [eN, tq_sv] at h2
    have e : T + 1 = (m + 1) + 64 * i := by omega
    rw [e, Nat.pow_add] at h2
    have : tq_u64 (f i) * 2 ^ (64 * i) < 2 ^ (m + 1) * 2 ^ (64 * i) := by omega
    exact Nat.lt_of_mul_lt_mul_right this
  have hsh := tq_u64_shl (x := f i) es (by omega)
  have hw2 : tq_u64 (f i) * 2 ^ (63 - m) % 2 ^ 64 = tq_u64 (f i) * 2 ^ (63 - m) := by
    apply Nat.mod_eq_of_lt
    have e : 2 ^ 64 = 2 ^ (m + 1) * 2 ^ (63 - m) := by rw [← Nat.pow_add]; congr 1; omega
    rw [e]
    exact Nat.mul_lt_mul_of_pos_right hw (Nat.two_pow_pos _)
  have main : ∀ b : Int64, ∃ r, f_leadingBits_b44 N f (nI i) (63 - (top &&& 63)) b = some r ∧ tq_u64 r = tq_u64 (f i) * 2 ^ (63 - m) + tq_u64 b / 2 ^ (m + 1) := by
    intro b
    unfold f_leadingBits_b44
    rw [if_neg (tq_nI_ok (by omega) (by omega)), tq_nI_cl (by omega)]
    refine ⟨_, rfl, ?_⟩
    have hb := tq_u64_ushr (x := b) (y := 1) (k := 1) rfl (by omega)
    have hb2 := tq_u64_ushr (x := (b.toUInt64 >>> ((1 : Int32).toInt64.toUInt64 &&& Int64.toUInt64 63)).toInt64) es2 (by omega)
    rw [hb, Nat.div_div_eq_div_mul, ← Nat.pow_add, Nat.add_comm 1 m] at hb2
    rw [tq_u64_or, hsh, hw2, hb2, Nat.mul_comm]
    have hlt : tq_u64 b / 2 ^ (m + 1) < 2 ^ (63 - m) := by
      rw [Nat.div_lt_iff_lt_mul (Nat.two_pow_pos _), ← Nat.pow_add]
      have e : 63 - m + (m + 1) = 64 := by omega
      rw [e]; exact tq_u64_lt b
    exact (Nat.two_pow_add_eq_or_of_lt hlt _).symm
  by_cases hi : nI i ≤ 0
  · rw [if_pos hi]
    rw [Int32.le_iff_toInt_le, tq_nI_i (by omega), c0] at hi
    have hi : i = 0 := by omega
    subst hi
    obtain ⟨r, e, hr⟩ := main 0
    refine ⟨r, e, ?_⟩
    have z : tq_u64 (0 : Int64) = 0 := rfl
    rw [hr, z, eN, Nat.zero_div, tq_sv, tq_sv]
    simp only [Nat.mul_zero, Nat.pow_zero, Nat.mul_one, Nat.zero_add, Nat.add_zero]
    split
    · have : m = 63 := by omega
      have : T = 63 := by omega
      subst this; subst m; simp
    · have : T = m := by omega
      rw [this]
  · rw [if_neg hi]
    rw [Int32.le_iff_toInt_le, tq_nI_i (by omega), c0] at hi
    obtain ⟨k, rfl⟩ : ∃ k, i = k + 1 := ⟨i - 1, by omega⟩
    rw [tq_nI_sub (by omega) (by omega)]
    rw [if_neg (tq_nI_ok (by omega) (by omega)), tq_nI_cl (by omega)]
    obtain ⟨r, e, hr⟩ := main (f (k + 1 - 1))
    refine ⟨r, e, ?_⟩
    rw [if_pos (by omega), hr, eN]
    have e0 : k + 1 - 1 = k := by omega
    rw [e0]
    have eT2 : T - 63 = 64 * k + (m + 1) := by omega
    rw [eT2, Nat.pow_add (2) (64 * k) (m + 1), ← Nat.div_div_eq_div_mul _ (2 ^ (64 * k))]
    have e3 : tq_sv f (k + 1 + 1) = tq_sv f k + (tq_u64 (f k) + tq_u64 (f (k + 1)) * 2 ^ 64) * 2 ^ (64 * k) := by
      rw [tq_sv, tq_sv, tq_p64, Nat.add_mul, Nat.mul_assoc]; omega
    rw [e3, Nat.add_mul_div_right _ _ (Nat.two_pow_pos _), Nat.div_eq_of_lt (tq_sv_lt f k), Nat.zero_add]
    have e4 : 2 ^ 64 = 2 ^ (63 - m) * 2 ^ (m + 1) := by rw [← Nat.pow_add, show 63 - m + (m + 1) = 64 by omega]
    rw [e4, ← Nat.mul_assoc, Nat.add_mul_div_right _ _ (Nat.two_pow_pos _)]; omega
theorem tq_setBits_spec {N : Nat} (hN : N ≤ 8) {f : Nat → Int64} (hf : ∀ j, j < N → f j = 0) {value : Int64} {pos : Int32} {P : Nat} (hP : pos.toInt = P) (hPN : P < 64 * N) (hv : tq_u64 value * 2 ^ P < 2 ^ (64 * N)) :
    ∃ g, f_setBits N f value pos = some g ∧ tq_sv g N = tq_u64 value * 2 ^ P := by
  unfold f_setBits tq_nm
  dsimp only
  have e6 : (pos >>> ((6 : Int32) &&& 31)).toInt = ((P / 64 : Nat) : Int) := by
    rw [tq_i32_shr (k := 6) rfl (by omega), hP]; omega
  rw [tq_of_i32 e6]
  have c63 : ((63 : Int32)).toInt = 63 := rfl
  have em : (pos &&& 63).toInt = ((P % 64 : Nat) : Int) := by
    apply tq_i32_of_u
    · rw [tq_u32_and, tq_u32_of_i hP]
      have : tq_u32 (63 : Int32) = 2 ^ 6 - 1 := rfl
      rw [this, Nat.and_two_pow_sub_one_eq_mod]
    · omega
  have es : ((63 : Int32) - (pos &&& 63)).toInt = ((63 - P % 64 : Nat) : Int) := by
    rw [tq_i32_sub (by rw [c63, em]; omega), c63, em]; omega
  rw [if_neg (tq_nI_nn (by omega)), if_neg (fun q => absurd ((tq_nI_le (by omega) (by omega)).1 q) (by omega)), if_neg (tq_nI_ok (by omega) (by omega)), tq_nI_cl (by omega)]
  have eP : P = P % 64 + 64 * (P / 64) := by omega
  have hm : P % 64 < 64 := by omega
  generalize hidx : P / 64 = i at *
  generalize hmm : P % 64 = m at *
  have hsh := tq_u64_shl (x := value) em (by omega)
  generalize value <<< ((pos &&& 63).toInt64 &&& 63) = lo at *
  have hb := tq_u64_ushr (x := value) (y := 1) (k := 1) rfl (by omega)
  have hb2 := tq_u64_ushr (x := (value.toUInt64 >>> ((1 : Int32).toInt64.toUInt64 &&& Int64.toUInt64 63)).toInt64) es (by omega)
  have e1 : 1 + (63 - m) = 64 - m := by omega
  rw [hb, Nat.div_div_eq_div_mul, ← Nat.pow_add, e1] at hb2
  unfold f_setBits_b38
  rw [if_neg (tq_nI_nn (by omega)), tq_nI_add]
  generalize (((value.toUInt64 >>> ((1 : Int32).toInt64.toUInt64 &&& Int64.toUInt64 63)).toInt64).toUInt64 >>> (((63 : Int32) - (pos &&& 63)).toInt64.toUInt64 &&& Int64.toUInt64 63)).toInt64 = hi at *
  have hval : tq_u64 value * 2 ^ m = tq_u64 lo + tq_u64 hi * 2 ^ 64 := by
    rw [hsh, hb2]
    have e : 2 ^ 64 = 2 ^ (64 - m) * 2 ^ m := by rw [← Nat.pow_add]; congr 1; omega
    rw [e, Nat.mul_mod_mul_right, ← Nat.mul_assoc, ← Nat.add_mul]
    congr 1
    have := Nat.mod_add_div (tq_u64 value) (2 ^ (64 - m))
    rw [Nat.mul_comm (tq_u64 value / _)]; omega
  have hPv : tq_u64 value * 2 ^ P = tq_u64 lo * 2 ^ (64 * i) + tq_u64 hi * 2 ^ (64 * (i + 1)) := by
    rw [eP, Nat.pow_add, ← Nat.mul_assoc, hval, Nat.add_mul, tq_p64, Nat.mul_assoc]
  have z : tq_u64 (0 : Int64) = 0 := rfl
  have tail : ∀ (g : Nat → Int64) (a : Nat), a ≤ N → (∀ j, a ≤ j → j < N → g j = 0) → tq_sv g N = tq_sv g a := by
    intro g a ha hg
    obtain ⟨d, rfl⟩ : ∃ d, N = a + d := ⟨N - a, by omega⟩
    clear hv hPN
    have : ∀ d', d' ≤ d → tq_sv g (a + d') = tq_sv g a := by
      intro d'
      induction d' with
      | zero => intro _; rfl
      | succ d' ih =>
        intro h
        show tq_sv g (a + d') + tq_u64 (g (a + d')) * _ = _
        rw [ih (by omega), hg _ (by omega) (by omega), z]; simp
    exact this d (Nat.le_refl _)
  by_cases h : N ≤ i + 1
  · rw [if_pos ((tq_nI_le (by omega) (by omega)).2 h)]
    refine ⟨_, rfl, ?_⟩
    have : N = i + 1 := by omega
    subst this
    rw [hPv] at hv
    rw [tq_sv, tq_sv_upd, tq_upd_at, tq_sv_zero (fun j hj => hf j (by omega)), hPv]
    rcases Nat.eq_zero_or_pos (tq_u64 hi) with q | q
    · rw [q]; simp
    · have := Nat.mul_le_mul_right (2 ^ (64 * (i + 1))) q
      omega
  · rw [if_neg (fun q => h ((tq_nI_le (by omega) (by omega)).1 q)), if_neg (tq_nI_ok (by omega) (by omega)), tq_nI_cl (by omega)]
    refine ⟨_, rfl, ?_⟩
    rw [tail _ (i + 2) (by omega), tq_sv, tq_sv, tq_sv_congr (g := f) (fun j hj => by rw [tq_upd_ne (by omega), tq_upd_ne (by omega)]), tq_upd_at, tq_upd_ne (by omega), tq_upd_at, tq_sv_zero (fun j hj => hf j (by omega)), hPv, Nat.zero_add]
    intro j h1 h2
    rw [tq_upd_ne (by omega), tq_upd_ne (by omega)]; exact hf j h2
end
section
theorem tq_u64_of_32 (x : Int32) : tq_u64 (x.toInt64 &&& 4294967295) = tq_u32 x := by
  rw [tq_u64_and]
  have h1 := tq_u64_i x.toInt64
  rw [tq_i64_of_32] at h1
  have h2 := tq_u32_i x
  have : tq_u64 (4294967295 : Int64) = 2 ^ 32 - 1 := rfl
  rw [this, Nat.and_two_pow_sub_one_eq_mod]
  omega
theorem tq_or_add {a b k : Nat} (h : b < 2 ^ k) : 2 ^ k * a ||| b = 2 ^ k * a + b := (Nat.two_pow_add_eq_or_of_lt h a).symm
theorem tq_odd_le {t c m : Nat} (h : 2 ^ t * (2 * c + 1) < 2 ^ m) : t < m := by
  rcases Nat.lt_or_ge t m with h5 | h5
  · exact h5
  · have := Nat.pow_le_pow_right (n := 2) (by omega) h5
    have : 2 ^ t * 1 ≤ 2 ^ t * (2 * c + 1) := Nat.mul_le_mul_left _ (by omega)
    omega
theorem tq_readBody_b37 {body v3 t0 : Int32} {k Z : Nat} {r : Int} (hk : v3.toInt = k) (hk2 : k < 32) (hZ : tq_u32 body * 2 ^ (k + 1) % 2 ^ 32 = Z) (hr : t0.toInt = r) (hr2 : -40 ≤ r ∧ r ≤ 40)
    (nt0 ng0 : Int32) (mg0 : Int64) (ex0 : Int32) : ∃ (t c : Nat) (mg : Int64) (ex : Int32), 2 ^ 32 + 4 * Z % 2 ^ 32 = 2 ^ t * (2 * c + 1) ∧ t ≤ 32 ∧ f_readBody_b37 body v3 t0 nt0 ng0 mg0 ex0 = (nt0, ng0, mg, ex) ∧ mg.toInt = ((2 * c + 1 : Nat) : Int) ∧ ex.toInt = 4 * r + (Z / 2 ^ 30 : Nat) - 32 + t := by
  unfold f_readBody_b37 tq_nm
  dsimp only
  have h6 : tq_u32 ((body <<< (v3 &&& 31)) <<< ((1 : Int32) &&& 31)) = Z := by
    rw [tq_u32_shl (k := 1) rfl (by omega), tq_u32_shl hk hk2, Nat.mod_mul_mod, Nat.mul_assoc, ← Nat.pow_add, hZ]
  have hZl : Z < 2 ^ 32 := by omega
  generalize (body <<< (v3 &&& 31)) <<< ((1 : Int32) &&& 31) = x6 at *
  have h30 : ((x6.toUInt32 >>> ((30 : Int32).toUInt32 &&& Int32.toUInt32 31)).toInt32).toInt = ((Z / 2 ^ 30 : Nat) : Int) := by
    apply tq_i32_of_u
    · rw [tq_u32_ushr (k := 30) rfl (by omega), h6]
    · omega
  have c4 : ((4 : Int32)).toInt = 4 := rfl
  have e4 : ((4 : Int32) * t0).toInt = 4 * r := by rw [tq_i32_mul (by rw [hr, c4]; omega), hr, c4]
  have h7 : ((4 : Int32) * t0 + ((x6.toUInt32 >>> ((30 : Int32).toUInt32 &&& Int32.toUInt32 31)).toInt32)).toInt = 4 * r + (Z / 2 ^ 30 : Nat) := by
    rw [tq_i32_add (by rw [e4, h30]; omega), e4, h30]
  generalize (4 : Int32) * t0 + ((x6.toUInt32 >>> ((30 : Int32).toUInt32 &&& Int32.toUInt32 31)).toInt32) = x7 at *
  have h8 : tq_u64 (((x6 <<< ((2 : Int32) &&& 31)).toInt64) &&& (4294967295 : Int64)) = 4 * Z % 2 ^ 32 := by
    rw [tq_u64_of_32, tq_u32_shl (k := 2) rfl (by omega), h6]; omega
  generalize ((x6 <<< ((2 : Int32) &&& 31)).toInt64) &&& (4294967295 : Int64) = x8 at *
  have h9 : tq_u64 ((4294967296 : Int64) ||| x8) = 2 ^ 32 + 4 * Z % 2 ^ 32 := by
    rw [tq_u64_or, h8]
    have : tq_u64 (4294967296 : Int64) = 2 ^ 32 * 1 := rfl
    rw [this, tq_or_add (by omega)]
  generalize (4294967296 : Int64) ||| x8 = x9 at *
  obtain ⟨t, c, hc⟩ := tq_odd_part (2 ^ 32 + 4 * Z % 2 ^ 32) (by omega)
  have hl := tq_lntz_spec (h9.trans hc)
  have ht : t < 33 := tq_odd_le (c := c) (by rw [← hc]; omega)
  have hi9 : x9.toInt = ((2 ^ t * (2 * c + 1) : Nat) : Int) := tq_i64_of_u (h9.trans hc) (by omega)
  refine ⟨t, c, x9 >>> ((f_lntz x9).toInt64 &&& 63), (x7 - 32) + f_lntz x9, hc, by omega, rfl, ?_, ?_⟩
  · rw [tq_i64_shr hl (by omega), hi9]
    have : (2 : Int) ^ t = ((2 ^ t : Nat) : Int) := by norm_cast
    rw [this, ← Int.natCast_ediv, Nat.mul_div_cancel_left _ (Nat.two_pow_pos t)]
  · have c32 : ((32 : Int32)).toInt = 32 := rfl
    have e1 : (x7 - 32).toInt = 4 * r + (Z / 2 ^ 30 : Nat) - 32 := by rw [tq_i32_sub (by rw [h7, c32]; omega), h7, c32]
    rw [tq_i32_add (by rw [e1, hl]; omega), e1, hl]
/-- where in its row of bits a body stands: behind the run and its end, Z (of 2^32) -/
def tq_Body (B : Nat) (r : Int) (Z : Nat) : Prop :=
  Z < 2 ^ 32 ∧ ((0 ≤ r ∧ r ≤ 30 ∧ B * 2 ^ (r.toNat + 2) + 2 ^ 33 = 2 ^ 32 * 2 ^ (r.toNat + 2) + Z) ∨ (r < 0 ∧ -31 ≤ r ∧ B * 2 ^ ((-r).toNat + 1) = 2 ^ 32 + Z))
theorem tq_readBody_spec {body : Int32} (h0 : tq_u32 body ≠ 0) (he : tq_u32 body % 2 = 0) (nt0 ng0 : Int32) (mg0 : Int64) (ex0 : Int32) :
    ∃ (r : Int) (Z t c : Nat) (mg : Int64) (ex : Int32), tq_Body (tq_u32 body) r Z ∧ 2 ^ 32 + 4 * Z % 2 ^ 32 = 2 ^ t * (2 * c + 1) ∧ t ≤ 32 ∧ f_readBody nt0 ng0 mg0 ex0 body = (nt0, ng0, mg, ex) ∧ mg.toInt = ((2 * c + 1 : Nat) : Int) ∧ ex.toInt = 4 * r + (Z / 2 ^ 30 : Nat) - 32 + t := by
  have hu := tq_i32_u body
  have hl := tq_u32_lt body
  have c0 : ((0 : Int32)).toInt = 0 := rfl
  by_cases h : 0 ≤ body
  · have e : f_readBody nt0 ng0 mg0 ex0 body = f_readBody_b37 body (f_inlz body) (-(f_inlz body)) nt0 ng0 mg0 ex0 := by
      unfold f_readBody f_readBody_b9 f_readBody_b21; rw [if_pos h, if_pos rfl, tq_nm_e, if_pos rfl]
    rw [e]
    rw [Int32.le_iff_toInt_le, c0] at h
    have h31 : tq_u32 body < 2 ^ 31 := by split at hu <;> omega
    have nz : body ≠ 0 := fun q => h0 (by rw [q]; rfl)
    obtain ⟨t, a1, a2, a3, a4⟩ := tq_inlz_spec nz
    have t31 : t < 31 := by
      rcases Nat.lt_or_ge t 31 with q | q
      · exact q
      · have := Nat.pow_le_pow_right (n := 2) (by omega) q; omega
    have hk : (f_inlz body).toInt = ((31 - t : Nat) : Int) := by rw [a2]; omega
    have hng : (-(f_inlz body)).toInt = -((31 - t : Nat) : Int) := by rw [tq_i32_neg (by rw [hk]; omega), hk]
    have e1 : 2 ^ t * 2 ^ (31 - t + 1) = 2 ^ 32 := by rw [← Nat.pow_add, show t + (31 - t + 1) = 32 by omega]
    have e2 : 2 ^ (t + 1) * 2 ^ (31 - t + 1) = 2 ^ 33 := by rw [← Nat.pow_add, show t + 1 + (31 - t + 1) = 33 by omega]
    have b1 := Nat.mul_le_mul_right (2 ^ (31 - t + 1)) a3
    have b2 := Nat.mul_lt_mul_of_pos_right a4 (Nat.two_pow_pos (31 - t + 1))
    rw [e1] at b1; rw [e2] at b2
    have hZ : tq_u32 body * 2 ^ (31 - t + 1) % 2 ^ 32 = tq_u32 body * 2 ^ (31 - t + 1) - 2 ^ 32 := by omega
    obtain ⟨t', c, mg, ex, q1, q2, q3, q4, q5⟩ := tq_readBody_b37 hk (by omega) hZ hng (by omega) nt0 ng0 mg0 ex0
    refine ⟨_, _, t', c, mg, ex, ⟨by omega, .inr ⟨by omega, by omega, ?_⟩⟩, q1, q2, q3, q4, q5⟩
    have : (-(-((31 - t : Nat) : Int))).toNat = 31 - t := by omega
    rw [this]; omega
  · have e : f_readBody nt0 ng0 mg0 ex0 body = f_readBody_b37 body (f_inlz (body ^^^ (-1))) (f_inlz (body ^^^ (-1)) - 1) nt0 ng0 mg0 ex0 := by
      unfold f_readBody f_readBody_b9 f_readBody_b21; rw [if_neg h, if_neg (by decide), tq_nm_e, if_neg (by decide)]
    rw [e]
    rw [Int32.le_iff_toInt_le, c0] at h
    have h31 : 2 ^ 31 ≤ tq_u32 body := by split at hu <;> omega
    have hn := tq_u32_not body
    have nz : body ^^^ (-1) ≠ 0 := by
      intro q; rw [q] at hn; have : tq_u32 (0 : Int32) = 0 := rfl; omega
    obtain ⟨t, a1, a2, a3, a4⟩ := tq_inlz_spec nz
    rw [hn] at a3 a4
    have t31 : t < 31 := by
      rcases Nat.lt_or_ge t 31 with q | q
      · exact q
      · have := Nat.pow_le_pow_right (n := 2) (by omega) q; omega
    have hk : (f_inlz (body ^^^ (-1))).toInt = ((31 - t : Nat) : Int) := by rw [a2]; omega
    have c1 : ((1 : Int32)).toInt = 1 := rfl
    have hng : (f_inlz (body ^^^ (-1)) - 1).toInt = ((30 - t : Nat) : Int) := by rw [tq_i32_sub (by rw [hk, c1]; omega), hk, c1]; omega
    have e1 : 2 ^ t * 2 ^ (31 - t + 1) = 2 ^ 32 := by rw [← Nat.pow_add, show t + (31 - t + 1) = 32 by omega]
    have e2 : 2 ^ (t + 1) * 2 ^ (31 - t + 1) = 2 ^ 33 := by rw [← Nat.pow_add, show t + 1 + (31 - t + 1) = 33 by omega]
    have k1 := Nat.mul_le_mul_right (2 ^ (31 - t + 1)) (show 2 ^ t + (tq_u32 body + 1) ≤ 2 ^ 32 by omega)
    have k2 := Nat.mul_le_mul_right (2 ^ (31 - t + 1)) (show 2 ^ 32 ≤ 2 ^ (t + 1) + tq_u32 body by omega)
    rw [Nat.add_mul, Nat.add_mul, e1] at k1
    rw [Nat.add_mul, e2] at k2
    have e3 : 2 ^ 32 * 2 ^ (31 - t + 1) = 2 ^ 33 * 2 ^ (31 - t) := by
      rw [Nat.pow_succ 2 (31 - t)]; omega
    have p := Nat.two_pow_pos (31 - t)
    have hZ : tq_u32 body * 2 ^ (31 - t + 1) % 2 ^ 32 = tq_u32 body * 2 ^ (31 - t + 1) + 2 ^ 33 - 2 ^ 32 * 2 ^ (31 - t + 1) := by
      omega
    obtain ⟨t', c, mg, ex, q1, q2, q3, q4, q5⟩ := tq_readBody_b37 hk (by omega) hZ hng (by omega) nt0 ng0 mg0 ex0
    refine ⟨_, _, t', c, mg, ex, ⟨by omega, .inl ⟨by omega, by omega, ?_⟩⟩, q1, q2, q3, q4, q5⟩
    have : (((30 - t : Nat) : Int)).toNat + 2 = 31 - t + 1 := by omega
    rw [this]; omega

/-- the pattern of n bits that an int hands in -/
def tq_pat (n : Nat) (x : Int32) : Int := if tq_u32 x % 2 ^ n < 2 ^ (n - 1) then ((tq_u32 x % 2 ^ n : Nat) : Int) else ((tq_u32 x % 2 ^ n : Nat) : Int) - 2 ^ n
def tq_Sz (size : Int32) (n : Nat) : Prop := size.toInt = n ∧ (n = 8 ∨ n = 16 ∨ n = 32)
theorem tq_pat_rng {n : Nat} {x : Int32} (hn : n = 8 ∨ n = 16 ∨ n = 32) : -2 ^ (n - 1) ≤ tq_pat n x ∧ tq_pat n x < 2 ^ (n - 1) := by
  unfold tq_pat
  rcases hn with rfl | rfl | rfl <;> split <;> omega
theorem tq_patternOf_spec {size : Int32} {n : Nat} (h : tq_Sz size n) (x : Int32) : (f_patternOf x size).toInt = tq_pat n x := by
  unfold f_patternOf tq_pat
  have c32 : ((32 : Int32)).toInt = 32 := rfl
  have hl := tq_u32_lt x
  obtain ⟨h1, h2⟩ := h
  have hs : ((32 : Int32) - size).toInt = ((32 - n : Nat) : Int) := by rw [tq_i32_sub (by rw [c32, h1]; omega), c32, h1]; omega
  rw [tq_i32_shr hs (by omega), tq_i32_u, tq_u32_shl hs (by omega)]
  rcases h2 with rfl | rfl | rfl
  · show (if tq_u32 x * 2 ^ 24 % 2 ^ 32 < 2 ^ 31 then _ else _) / 2 ^ 24 = _
    split <;> split <;> omega
  · show (if tq_u32 x * 2 ^ 16 % 2 ^ 32 < 2 ^ 31 then _ else _) / 2 ^ 16 = _
    split <;> split <;> omega
  · show (if tq_u32 x * 2 ^ 0 % 2 ^ 32 < 2 ^ 31 then _ else _) / 2 ^ 0 = _
    split <;> split <;> omega
theorem tq_notOf_spec {size : Int32} {n : Nat} (h : tq_Sz size n) : (f_notOf size).toInt = -2 ^ (n - 1) := by
  obtain ⟨h1, h2⟩ := h
  have e := tq_of_i32 h1
  rcases h2 with rfl | rfl | rfl <;> subst e <;> decide
theorem tq_one_spec {size : Int32} {n : Nat} (h : tq_Sz size n) : (f_one size).toInt = 2 ^ (n - 2) := by
  obtain ⟨h1, h2⟩ := h
  have e := tq_of_i32 h1
  rcases h2 with rfl | rfl | rfl <;> subst e <;> decide
theorem tq_sizeOfWidth_spec (w : Int32) : tq_Sz (f_sizeOfWidth w) (if w = 0 then 8 else if w = 1 then 16 else 32) := by
  unfold f_sizeOfWidth tq_Sz
  by_cases h : w = 0
  · rw [if_neg (by simpa using h), if_pos h]; exact ⟨rfl, by omega⟩
  · rw [if_pos h, if_neg h]
    by_cases h : w = 1
    · rw [if_neg (by simpa using h), if_pos h]; exact ⟨rfl, by omega⟩
    · rw [if_pos h, if_neg h]; exact ⟨rfl, by omega⟩
def tq_Op (n : Nat) (p : Int) (nt ng : Int32) (mg : Int64) (ex : Int32) : Prop :=
  (nt = if p = -2 ^ (n - 1) then 1 else 0) ∧ (ng = if p < 0 then 1 else 0) ∧
  ((p = 0 ∨ p = -2 ^ (n - 1)) → mg = 0 ∧ ex = 0) ∧
  (p ≠ 0 → p ≠ -2 ^ (n - 1) → ∃ (r : Int) (Z t c : Nat), tq_Body (p.natAbs * 2 ^ (33 - n)) r Z ∧ 2 ^ 32 + 4 * Z % 2 ^ 32 = 2 ^ t * (2 * c + 1) ∧ t ≤ 32 ∧ mg.toInt = ((2 * c + 1 : Nat) : Int) ∧ ex.toInt = 4 * r + (Z / 2 ^ 30 : Nat) - 32 + t)
theorem tq_read_b33 {size : Int32} {n : Nat} (h : tq_Sz size n) {v3 : Int32} (hr : -2 ^ (n - 1) ≤ v3.toInt ∧ v3.toInt < 2 ^ (n - 1)) {nt ng : Int32} (hnt : nt = if v3.toInt = -2 ^ (n - 1) then 1 else 0) (hng : ng = if v3.toInt < 0 then 1 else 0)
    (ng0 : Int32) (mg0 : Int64) (ex0 : Int32) : ∃ mg ex, f_read_b33 size v3 ng nt ng0 mg0 ex0 = (nt, ng, mg, ex) ∧ tq_Op n v3.toInt nt ng mg ex := by
  have c0 : ((0 : Int32)).toInt = 0 := rfl
  unfold f_read_b33
  by_cases h3 : v3 = 0
  · rw [if_pos h3]
    refine ⟨0, 0, rfl, hnt, hng, fun _ => ⟨rfl, rfl⟩, fun q => absurd (by rw [h3]; rfl) q⟩
  · rw [if_neg h3]
    have n0 : v3.toInt ≠ 0 := fun q => h3 (Int32.toInt.inj q)
    by_cases h4 : v3.toInt = -2 ^ (n - 1)
    · rw [if_pos h4] at hnt
      rw [if_pos (by rw [hnt]; decide)]
      refine ⟨0, 0, rfl, by rw [if_pos h4]; exact hnt, hng, fun _ => ⟨rfl, rfl⟩, fun _ q => absurd h4 q⟩
    · have hnt2 := hnt
      rw [if_neg h4] at hnt2
      rw [if_neg (by rw [hnt2]; decide)]
      obtain ⟨h1, h2⟩ := h
      have hab : (if 0 ≤ v3 then v3 else 0 - v3).toInt = (v3.toInt.natAbs : Int) := by
        by_cases q : 0 ≤ v3
        · rw [if_pos q]; rw [Int32.le_iff_toInt_le, c0] at q; omega
        · rw [if_neg q]; rw [Int32.le_iff_toInt_le, c0] at q
          have : -2 ^ 31 < v3.toInt := by rcases h2 with rfl | rfl | rfl <;> omega
          rw [tq_i32_sub (by rw [c0]; omega), c0]; omega
      generalize (if 0 ≤ v3 then v3 else 0 - v3) = a at *
      have c33 : ((33 : Int32)).toInt = 33 := rfl
      have hs : ((33 : Int32) - size).toInt = ((33 - n : Nat) : Int) := by rw [tq_i32_sub (by rw [c33, h1]; omega), c33, h1]; omega
      have hu : tq_u32 (a <<< (((33 : Int32) - size) &&& 31)) = v3.toInt.natAbs * 2 ^ (33 - n) := by
        rw [tq_u32_shl hs (by omega), tq_u32_of_i hab]
        rcases h2 with rfl | rfl | rfl <;> omega
      generalize a <<< (((33 : Int32) - size) &&& 31) = body at *
      obtain ⟨r, Z, t, c, mg, ex, q1, q2, q3, q4, q5, q6⟩ := tq_readBody_spec (body := body) (by rw [hu]; rcases h2 with rfl | rfl | rfl <;> omega) (by rw [hu]; rcases h2 with rfl | rfl | rfl <;> omega) nt ng 0 0
      rw [q4, tq_nm_e, tq_nm_e, tq_nm_e, tq_nm_e, tq_nm_e]
      refine ⟨mg, ex, rfl, hnt, hng, fun q => absurd q (by omega), fun _ _ => ⟨r, Z, t, c, by rw [← hu]; exact q1, q2, q3, q5, q6⟩⟩
theorem tq_read_spec {size : Int32} {n : Nat} (h : tq_Sz size n) (x : Int32) (nt0 ng0 : Int32) (mg0 : Int64) (ex0 : Int32) :
    ∃ nt ng mg ex, f_read nt0 ng0 mg0 ex0 x size = (nt, ng, mg, ex) ∧ tq_Op n (tq_pat n x) nt ng mg ex := by
  have c0 : ((0 : Int32)).toInt = 0 := rfl
  unfold f_read
  rw [tq_nm_e]
  have hp := tq_patternOf_spec h x
  have hr := tq_pat_rng (x := x) h.2
  have hn := tq_notOf_spec h
  generalize f_patternOf x size = v at *
  rw [← hp] at hr ⊢
  have key : ∀ nt : Int32, (nt = if v.toInt = -2 ^ (n - 1) then 1 else 0) → ∃ nt' ng mg ex, f_read_b20 size v nt nt0 ng0 mg0 ex0 = (nt', ng, mg, ex) ∧ tq_Op n v.toInt nt' ng mg ex := by
    intro nt hnt
    unfold f_read_b20
    by_cases q : 0 ≤ v
    · rw [if_pos q]; rw [Int32.le_iff_toInt_le, c0] at q
      obtain ⟨mg, ex, a, b⟩ := tq_read_b33 h hr hnt (ng := 0) (by rw [if_neg (by omega)]) ng0 mg0 ex0
      exact ⟨nt, 0, mg, ex, a, b⟩
    · rw [if_neg q]; rw [Int32.le_iff_toInt_le, c0] at q
      obtain ⟨mg, ex, a, b⟩ := tq_read_b33 h hr hnt (ng := 1) (by rw [if_pos (by omega)]) ng0 mg0 ex0
      exact ⟨nt, 1, mg, ex, a, b⟩
  by_cases q : v = f_notOf size
  · rw [if_neg (by simpa using q)]
    exact key 1 (by rw [if_pos (by rw [q, hn])])
  · rw [if_pos q]
    exact key 0 (by rw [if_neg (fun e => q (Int32.toInt.inj (by rw [e, hn])))])
end
section
/-- V / 2^d to the nearest, of two the even one; mo: it lies above V by less than one -/
def tq_rnd (V d : Nat) (mo : Bool) : Nat := V / 2 ^ d + (if 2 ^ (d - 1) < V % 2 ^ d ∨ (V % 2 ^ d = 2 ^ (d - 1) ∧ (mo = true ∨ V / 2 ^ d % 2 = 1)) then 1 else 0)
theorem tq_ite_iff {a b : Prop} [Decidable a] [Decidable b] (h : a ↔ b) : (if a then 1 else 0 : Nat) = if b then 1 else 0 := by
  by_cases q : a
  · rw [if_pos q, if_pos (h.1 q)]
  · rw [if_neg q, if_neg (fun w => q (h.2 w))]
theorem tq_rnd_bit {W d b : Nat} (hd : 1 ≤ d) (hb : b ≤ 1) (mo : Bool) : tq_rnd (2 * W + b) (d + 1) mo = tq_rnd W d (mo || decide (b = 1)) := by
  unfold tq_rnd
  obtain ⟨k, rfl⟩ : ∃ k, d = k + 1 := ⟨d - 1, by omega⟩
  have e0 : k + 1 + 1 - 1 = k + 1 := by omega
  have e1 : k + 1 - 1 = k := by omega
  rw [e0, e1]
  have p := Nat.two_pow_pos k
  have e2 : 2 ^ (k + 1 + 1) = 2 * 2 ^ (k + 1) := by rw [Nat.pow_succ (n := 2) (m := k + 1), Nat.mul_comm]
  have e3 : 2 ^ (k + 1) = 2 * 2 ^ k := by rw [Nat.pow_succ, Nat.mul_comm]
  have q := Nat.two_pow_pos (k + 1)
  have hq : (2 * W + b) / 2 ^ (k + 1 + 1) = W / 2 ^ (k + 1) := by
    rw [e2, ← Nat.div_div_eq_div_mul]; congr 1; omega
  have hm : (2 * W + b) % 2 ^ (k + 1 + 1) = 2 * (W % 2 ^ (k + 1)) + b := by
    have h1 := Nat.div_add_mod (2 * W + b) (2 ^ (k + 1 + 1))
    rw [hq, e2] at h1
    have h2 := Nat.div_add_mod W (2 ^ (k + 1))
    rw [Nat.mul_assoc] at h1
    rw [e2]
    omega
  rw [hq, hm]
  generalize W / 2 ^ (k + 1) = Q at *
  generalize W % 2 ^ (k + 1) = w at *
  rw [e3]
  congr 1
  have hbb : (b = 0 ∨ b = 1) := by omega
  have e : (2 * 2 ^ k < 2 * w + b ∨ 2 * w + b = 2 * 2 ^ k ∧ (mo = true ∨ Q % 2 = 1)) ↔ (2 ^ k < w ∨ w = 2 ^ k ∧ ((mo || decide (b = 1)) = true ∨ Q % 2 = 1)) := by
    clear hq hm e2 e3 e0 e1
    generalize 2 ^ k = K at *
    rcases hbb with rfl | rfl <;> cases mo <;> simp <;> omega
  exact tq_ite_iff e
theorem tq_posPat_b200 {v : Int32} {u : Nat} (hv : v.toInt = u) (hu : u + 1 < 2 ^ 31) {t : Int32} {b : Prop} [Decidable b] (ht : t = if b then 1 else 0) : (f_positivePattern_b200 v t).toInt = ((u + (if b then 1 else 0) : Nat) : Int) := by
  unfold f_positivePattern_b200
  by_cases h : b
  · rw [if_pos h] at ht ⊢; subst ht
    rw [if_neg (by decide)]
    have c1 : ((1 : Int32)).toInt = 1 := rfl
    rw [tq_i32_add (by rw [hv, c1]; omega), hv, c1]; omega
  · rw [if_neg h] at ht ⊢; subst ht
    rw [if_pos rfl, hv]; omega
theorem tq_posPat_b175 {v : Int32} {u : Nat} (hv : v.toInt = u) (hu : u + 1 < 2 ^ 31) {half above : Int32} {h a : Bool} (hh : half = if h then 1 else 0) (ha : above = if a then 1 else 0) :
    (f_positivePattern_b175 v half above).toInt = ((u + (if h = true ∧ (a = true ∨ u % 2 = 1) then 1 else 0) : Nat) : Int) := by
  unfold f_positivePattern_b175
  have hu1 : ((v &&& 1) = 1) ↔ u % 2 = 1 := by
    have e : tq_u32 (v &&& 1) = u % 2 := by
      rw [tq_u32_and, tq_u32_of_i hv]; have : tq_u32 (1 : Int32) = 1 := rfl
      rw [this, Nat.and_one_is_mod]
    constructor
    · intro q; rw [q] at e; have : tq_u32 (1 : Int32) = 1 := rfl; omega
    · intro q; apply tq_u32_inj; rw [e, q]; rfl
  cases h
  · rw [if_neg (by decide)] at hh; subst hh
    rw [if_pos rfl]; exact tq_posPat_b200 hv hu (by rw [if_neg (by simp)])
  · rw [if_pos rfl] at hh; subst hh
    rw [if_neg (by decide)]
    cases a
    · rw [if_neg (by decide)] at ha; subst ha
      rw [if_neg (by decide)]
      by_cases q : (v &&& 1) = 1
      · rw [if_neg (by simpa using q)]
        exact tq_posPat_b200 hv hu (by rw [if_pos ⟨rfl, .inr (hu1.1 q)⟩])
      · rw [if_pos q]
        have nn : ¬ (true = true ∧ (false = true ∨ u % 2 = 1)) := by
          rintro ⟨_, w⟩
          rcases w with w | w
          · cases w
          · exact q (hu1.2 w)
        exact tq_posPat_b200 hv hu (by rw [if_neg nn])
    · rw [if_pos rfl] at ha; subst ha
      rw [if_pos (by decide)]
      exact tq_posPat_b200 hv hu (by rw [if_pos ⟨rfl, .inl rfl⟩])
theorem tq_posPat_b154 {v : Int32} {u : Nat} (hv : v.toInt = u) (hu : u + 1 < 2 ^ 31) {rest : Int64} {beh half : Int32} {h b : Bool} (hh : half = if h then 1 else 0) (hb : beh = if b then 1 else 0) :
    (f_positivePattern_b154 beh v rest half).toInt = ((u + (if h = true ∧ ((tq_u64 rest * 2 % 2 ^ 64 ≠ 0 ∨ b = true) ∨ u % 2 = 1) then 1 else 0) : Nat) : Int) := by
  unfold f_positivePattern_b154
  have hs := tq_u64_shl (x := rest) (y := 1) (k := 1) rfl (by omega)
  have z : tq_u64 (0 : Int64) = 0 := rfl
  have fin : ∀ (above : Int32) (a : Bool), (above = if a then 1 else 0) → (a = true ↔ (tq_u64 rest * 2 % 2 ^ 64 ≠ 0 ∨ b = true)) → (f_positivePattern_b175 v half above).toInt = ((u + (if h = true ∧ ((tq_u64 rest * 2 % 2 ^ 64 ≠ 0 ∨ b = true) ∨ u % 2 = 1) then 1 else 0) : Nat) : Int) := by
    intro above a ha hiff
    rw [tq_posPat_b175 hv hu hh ha]
    simp only [hiff]
  by_cases q : lg_cmp (rest <<< ((1 : Int32).toInt64 &&& 63)) 0 = 0
  · rw [if_neg (by simpa using q)]
    rw [tq_cmp_eq] at q
    have q2 : tq_u64 rest * 2 % 2 ^ 64 = 0 := by have := hs; rw [q, z] at this; omega
    cases b
    · rw [if_neg (by decide)] at hb; subst hb
      rw [if_pos rfl]; exact fin 0 false rfl (by simp [q2])
    · rw [if_pos rfl] at hb; subst hb
      rw [if_neg (by decide)]; exact fin 1 true rfl (by simp)
  · rw [if_pos q]
    rw [tq_cmp_eq] at q
    have q2 : tq_u64 rest * 2 % 2 ^ 64 ≠ 0 := fun e => q (tq_u64_inj (by rw [hs, z]; omega))
    exact fin 1 true rfl (by simp [q2])
theorem tq_div_mod_sh {W m a : Nat} (ha : a ≤ m) : W * 2 ^ a / 2 ^ m = W / 2 ^ (m - a) ∧ W * 2 ^ a % 2 ^ m = W % 2 ^ (m - a) * 2 ^ a := by
  have e : 2 ^ m = 2 ^ (m - a) * 2 ^ a := by rw [← Nat.pow_add, show m - a + a = m by omega]
  have p := Nat.two_pow_pos a
  rw [e]
  exact ⟨Nat.mul_div_mul_right _ _ p, Nat.mul_mod_mul_right _ _ _⟩
theorem tq_posPat_b106 {size : Int32} {n : Nat} (h : tq_Sz size n) {v7 v8 : Int32} {l run : Nat} (h7 : v7.toInt = l) (hl : l ≤ n - 1) (hl2 : 2 ≤ l) (h8 : v8.toInt = run) (hrun : run + 2 ≤ 2 ^ l) (tail : Int64) {beh : Int32} {b : Bool} (hb : beh = if b then 1 else 0) :
    (f_positivePattern_b106 size v7 v8 tail beh).toInt = tq_rnd (run * 2 ^ 64 + tq_u64 tail) (64 - (n - 1 - l)) b := by
  unfold f_positivePattern_b106
  rw [tq_nm_e]
  obtain ⟨h1, h2⟩ := h
  have c1 : ((1 : Int32)).toInt = 1 := rfl
  have c63 : ((63 : Int32)).toInt = 63 := rfl
  have en1 : (size - 1).toInt = ((n - 1 : Nat) : Int) := by rw [tq_i32_sub (by rw [h1, c1]; omega), h1, c1]; omega
  have er : ((size - 1) - v7).toInt = ((n - 1 - l : Nat) : Int) := by rw [tq_i32_sub (by rw [en1, h7]; omega), en1, h7]; omega
  generalize (size - 1) - v7 = room at *
  have hrm : n - 1 - l ≤ 29 := by omega
  have hn31 : n - 1 - l + l ≤ 31 := by omega
  generalize n - 1 - l = R at *
  have e63 : ((63 : Int32) - room).toInt = ((63 - R : Nat) : Int) := by rw [tq_i32_sub (by rw [c63, er]; omega), c63, er]; omega
  rw [tq_nm_e, tq_nm_e]
  have ht := tq_u64_lt tail
  have hb1 := tq_u64_ushr (x := tail) (y := 1) (k := 1) rfl (by omega)
  have hb2 := tq_u64_ushr (x := (tail.toUInt64 >>> ((1 : Int32).toInt64.toUInt64 &&& Int64.toUInt64 63)).toInt64) e63 (by omega)
  have e1 : 1 + (63 - R) = 64 - R := by omega
  rw [hb1, Nat.div_div_eq_div_mul, ← Nat.pow_add, e1] at hb2
  generalize ((tail.toUInt64 >>> ((1 : Int32).toInt64.toUInt64 &&& Int64.toUInt64 63)).toInt64.toUInt64 >>> (((63 : Int32) - room).toInt64.toUInt64 &&& Int64.toUInt64 63)).toInt64 = hi at *
  have hsr := tq_u32_shl (x := v8) er (by omega)
  rw [tq_u32_of_i h8] at hsr
  have pR := Nat.two_pow_pos R
  have hp32 : 2 ^ l * 2 ^ R ≤ 2 ^ 31 := by rw [← Nat.pow_add]; exact Nat.pow_le_pow_right (by omega) (by omega)
  have hrun2 : run * 2 ^ R + 2 * 2 ^ R ≤ 2 ^ l * 2 ^ R := by rw [← Nat.add_mul]; exact Nat.mul_le_mul_right _ hrun
  have hhi : tq_u64 tail / 2 ^ (64 - R) < 2 ^ R := by
    rw [Nat.div_lt_iff_lt_mul (Nat.two_pow_pos _), ← Nat.pow_add, show R + (64 - R) = 64 by omega]; exact ht
  have hR29 : 2 ^ R ≤ 2 ^ 29 := Nat.pow_le_pow_right (by omega) (by omega)
  have hu : tq_u32 ((v8 <<< (room &&& 31)) ||| hi.toInt32) = run * 2 ^ R + tq_u64 tail / 2 ^ (64 - R) := by
    rw [tq_u32_or, tq_u32_of_64, hsr, hb2, Nat.mod_eq_of_lt (by omega), Nat.mod_eq_of_lt (by omega), Nat.mul_comm run, tq_or_add hhi]
  have hq : (run * 2 ^ 64 + tq_u64 tail) / 2 ^ (64 - R) = run * 2 ^ R + tq_u64 tail / 2 ^ (64 - R) := by
    have e : 2 ^ 64 = 2 ^ R * 2 ^ (64 - R) := by rw [← Nat.pow_add, show R + (64 - R) = 64 by omega]
    rw [e, ← Nat.mul_assoc, Nat.add_comm, Nat.add_mul_div_right _ _ (Nat.two_pow_pos _), Nat.add_comm]
  have hm : (run * 2 ^ 64 + tq_u64 tail) % 2 ^ (64 - R) = tq_u64 tail % 2 ^ (64 - R) := by
    have e : 2 ^ 64 = 2 ^ R * 2 ^ (64 - R) := by rw [← Nat.pow_add, show R + (64 - R) = 64 by omega]
    rw [e, ← Nat.mul_assoc, Nat.add_comm, Nat.add_mul_mod_self_right]
  have hrest := tq_u64_shl (x := tail) er (by omega)
  rw [(tq_div_mod_sh (W := tq_u64 tail) (show R ≤ 64 by omega)).2] at hrest
  generalize hw : tq_u64 tail % 2 ^ (64 - R) = w at *
  have hwl : w < 2 ^ (64 - R) := by rw [← hw]; exact Nat.mod_lt _ (Nat.two_pow_pos _)
  generalize (v8 <<< (room &&& 31)) ||| hi.toInt32 = uu at *
  generalize tail <<< (room.toInt64 &&& 63) = rest at *
  have hub : run * 2 ^ R + tq_u64 tail / 2 ^ (64 - R) + 1 < 2 ^ 31 := by omega
  have hui := tq_i32_of_u hu (by omega)
  unfold tq_rnd
  rw [hq, hm]
  generalize run * 2 ^ R + tq_u64 tail / 2 ^ (64 - R) = u at *
  have hri := tq_i64_u rest
  have c0 : ((0 : Int64)).toInt = 0 := rfl
  have e64 : 2 ^ (63 - R) * 2 ^ R = 2 ^ 63 := by rw [← Nat.pow_add, show 63 - R + R = 63 by omega]
  have e65 : 2 ^ (64 - R) = 2 * 2 ^ (63 - R) := by rw [show 64 - R = 63 - R + 1 by omega, Nat.pow_succ, Nat.mul_comm]
  have e66 : 64 - R - 1 = 63 - R := by omega
  rw [e66]
  have cmpw : (2 ^ 63 ≤ tq_u64 rest) ↔ 2 ^ (63 - R) ≤ w := by
    rw [hrest, ← e64]
    exact ⟨fun q => Nat.le_of_mul_le_mul_right q pR, fun q => Nat.mul_le_mul_right _ q⟩
  have cmpe : (tq_u64 rest = 2 ^ 63) ↔ w = 2 ^ (63 - R) := by
    rw [hrest, ← e64]
    exact ⟨fun q => Nat.eq_of_mul_eq_mul_right pR q, fun q => by rw [q]⟩
  have hrl := tq_u64_lt rest
  by_cases hz : 0 ≤ lg_cmp rest 0
  · rw [if_pos hz]
    rw [tq_cmp_ge, c0] at hz
    have : ¬ 2 ^ 63 ≤ tq_u64 rest := by split at hri <;> omega
    rw [tq_posPat_b154 hui hub (h := false) (by rw [if_neg (by decide)]) hb, if_neg (by simp), if_neg (by omega)]
  · rw [if_neg hz]
    rw [tq_cmp_ge, c0] at hz
    have hge : 2 ^ 63 ≤ tq_u64 rest := by split at hri <;> omega
    rw [tq_posPat_b154 hui hub (h := true) (by rw [if_pos rfl]) hb]
    have hge2 := cmpw.1 hge
    have e : (true = true ∧ ((tq_u64 rest * 2 % 2 ^ 64 ≠ 0 ∨ b = true) ∨ u % 2 = 1)) ↔ (2 ^ (63 - R) < w ∨ w = 2 ^ (63 - R) ∧ (b = true ∨ u % 2 = 1)) := by
      have e1 : tq_u64 rest * 2 % 2 ^ 64 = 0 ↔ tq_u64 rest = 2 ^ 63 := by omega
      rw [Ne, e1, cmpe]
      constructor
      · rintro ⟨_, q⟩
        by_cases ww : w = 2 ^ (63 - R)
        · right; refine ⟨ww, ?_⟩; rcases q with (q | q) | q
          · exact absurd ww q
          · exact .inl q
          · exact .inr q
        · left; omega
      · rintro (q | ⟨q, q2⟩)
        · exact ⟨rfl, .inl (.inl (by omega))⟩
        · rcases q2 with q2 | q2
          · exact ⟨rfl, .inl (.inr q2)⟩
          · exact ⟨rfl, .inr q2⟩
    rw [tq_ite_iff e]

def tq_rl (r : Int) : Nat := if 0 ≤ r then r.toNat + 2 else (-r).toNat + 1
def tq_rn (r : Int) : Nat := if 0 ≤ r then 2 ^ (r.toNat + 2) - 2 else 1
def tq_ppV (r : Int) (e sig : Nat) : Nat := tq_rn r * 2 ^ 65 + e * 2 ^ 63 + (sig - 2 ^ 63)
/-- the pattern, of n bits, nearest to a positive number between 2^s and 2^(s + 1) with the leading bits sig -/
def tq_pp (n : Nat) (s : Int) (sig : Nat) (mo : Bool) : Nat :=
  if 4 * (n : Int) - 8 ≤ s then 2 ^ (n - 1) - 1 else if s < -(4 * (n : Int) - 8) then 1 else tq_rnd (tq_ppV (s / 4) (s % 4).toNat sig) (65 - (n - 1 - tq_rl (s / 4))) mo
theorem tq_posPat_b69 {size : Int32} {n : Nat} (h : tq_Sz size n) {v7 v8 scale : Int32} {l run : Nat} {s : Int} (hs : scale.toInt = s) (h7 : v7.toInt = l) (hl : l ≤ n - 1) (hl2 : 2 ≤ l) (h8 : v8.toInt = run) (hrun : run + 2 ≤ 2 ^ l) {sig : Int64} (hsig : 2 ^ 63 ≤ tq_u64 sig) {more : Int32} {mo : Bool} (hm : more = if mo then 1 else 0) :
    (f_positivePattern_b69 size scale sig more v7 v8).toInt = tq_rnd (run * 2 ^ 65 + (s % 4).toNat * 2 ^ 63 + (tq_u64 sig - 2 ^ 63)) (65 - (n - 1 - l)) mo := by
  unfold f_positivePattern_b69
  rw [tq_nm_e]
  have hsl := tq_u64_lt sig
  have h3 : (scale &&& 3).toInt = (((s % 4).toNat : Nat) : Int) := by
    apply tq_i32_of_u
    · rw [tq_u32_and]
      have : tq_u32 (3 : Int32) = 2 ^ 2 - 1 := rfl
      rw [this, Nat.and_two_pow_sub_one_eq_mod]
      have := tq_u32_i scale
      omega
    · omega
  have he : (s % 4).toNat < 4 := by omega
  generalize (s % 4).toNat = e at *
  have hx : tq_u64 ((scale &&& 3).toInt64) = e := tq_u64_of_i (by rw [tq_i64_of_32]; exact h3)
  have h62 := tq_u64_shl (x := (scale &&& 3).toInt64) (y := 62) (k := 62) rfl (by omega)
  rw [hx] at h62
  have hmask : tq_u64 (sig &&& 9223372036854775807) = tq_u64 sig - 2 ^ 63 := by
    rw [tq_u64_and]
    have : tq_u64 (9223372036854775807 : Int64) = 2 ^ 63 - 1 := rfl
    rw [this, Nat.and_two_pow_sub_one_eq_mod]; omega
  have h1 := tq_u64_ushr (x := sig &&& 9223372036854775807) (y := 1) (k := 1) rfl (by omega)
  rw [hmask] at h1
  have htail : tq_u64 ((((scale &&& (3 : Int32)).toInt64) <<< ((62 : Int32).toInt64 &&& 63)) ||| (((sig &&& (9223372036854775807 : Int64)).toUInt64 >>> ((1 : Int32).toInt64.toUInt64 &&& Int64.toUInt64 63)).toInt64)) = e * 2 ^ 62 + (tq_u64 sig - 2 ^ 63) / 2 := by
    rw [tq_u64_or, h62, h1, Nat.mod_eq_of_lt (by omega), Nat.mul_comm, tq_or_add (by omega)]
  generalize (((scale &&& (3 : Int32)).toInt64) <<< ((62 : Int32).toInt64 &&& 63)) ||| (((sig &&& (9223372036854775807 : Int64)).toUInt64 >>> ((1 : Int32).toInt64.toUInt64 &&& Int64.toUInt64 63)).toInt64) = tail at *
  have hodd : (sig &&& 1 = 0) ↔ tq_u64 sig % 2 = 0 := by
    have e : tq_u64 (sig &&& 1) = tq_u64 sig % 2 := by
      rw [tq_u64_and]; have : tq_u64 (1 : Int64) = 1 := rfl
      rw [this, Nat.and_one_is_mod]
    constructor
    · intro q; rw [q] at e; have : tq_u64 (0 : Int64) = 0 := rfl; omega
    · intro q; apply tq_u64_inj; rw [e, q]; rfl
  have hV : run * 2 ^ 65 + e * 2 ^ 63 + (tq_u64 sig - 2 ^ 63) = 2 * (run * 2 ^ 64 + tq_u64 tail) + tq_u64 sig % 2 := by
    rw [htail]; omega
  have hR : n - 1 - l ≤ 29 := by have := h.2; omega
  have ed : 65 - (n - 1 - l) = 64 - (n - 1 - l) + 1 := by omega
  rw [hV, ed, tq_rnd_bit (by omega) (by omega)]
  cases mo
  · rw [if_neg (by decide)] at hm; subst hm
    rw [if_neg (by decide)]
    by_cases q : lg_cmp (sig &&& 1) 0 = 0
    · rw [if_pos q]
      rw [tq_cmp_eq, hodd] at q
      have eb : (false || decide (tq_u64 sig % 2 = 1)) = false := by simp [q]
      rw [eb, tq_posPat_b106 h h7 hl hl2 h8 hrun tail (b := false) (by rw [if_neg (by decide)])]
    · rw [if_neg q]
      rw [tq_cmp_eq, hodd] at q
      have eb : (false || decide (tq_u64 sig % 2 = 1)) = true := by
        rw [Bool.false_or, decide_eq_true_iff]; omega
      rw [eb, tq_posPat_b106 h h7 hl hl2 h8 hrun tail (b := true) (by rw [if_pos rfl])]
  · rw [if_pos rfl] at hm; subst hm
    rw [if_pos (by decide)]
    rw [Bool.true_or, tq_posPat_b106 h h7 hl hl2 h8 hrun tail (b := true) (by rw [if_pos rfl])]
theorem tq_posPat_spec {size : Int32} {n : Nat} (h : tq_Sz size n) {scale : Int32} {s : Int} (hs : scale.toInt = s) {sig : Int64} (hsig : 2 ^ 63 ≤ tq_u64 sig) {more : Int32} {mo : Bool} (hm : more = if mo then 1 else 0) :
    (f_positivePattern size scale sig more).toInt = tq_pp n s (tq_u64 sig) mo := by
  unfold f_positivePattern
  rw [tq_nm_e]
  have c4 : ((4 : Int32)).toInt = 4 := rfl
  have c8 : ((8 : Int32)).toInt = 8 := rfl
  have c1 : ((1 : Int32)).toInt = 1 := rfl
  have c2 : ((2 : Int32)).toInt = 2 := rfl
  have c0 : ((0 : Int32)).toInt = 0 := rfl
  have hh := h
  obtain ⟨h1, h2⟩ := hh
  have e4 : ((4 : Int32) * size).toInt = 4 * n := by rw [tq_i32_mul (by rw [c4, h1]; omega), c4, h1]
  have eL : ((4 : Int32) * size - 8).toInt = 4 * n - 8 := by rw [tq_i32_sub (by rw [e4, c8]; omega), e4, c8]
  generalize (4 : Int32) * size - 8 = L at *
  have eN : (-L).toInt = -(4 * n - 8) := by rw [tq_i32_neg (by rw [eL]; omega), eL]
  unfold tq_pp
  by_cases q1 : scale < L
  · rw [if_pos q1]; rw [Int32.lt_iff_toInt_lt, hs, eL] at q1
    rw [if_neg (show ¬ (4 * (n : Int) - 8 ≤ s) by omega)]
    by_cases q2 : -L ≤ scale
    · rw [if_pos q2]; rw [Int32.le_iff_toInt_le, hs, eN] at q2
      rw [if_neg (show ¬ (s < -(4 * (n : Int) - 8)) by omega), tq_nm_e]
      have hr : (scale >>> ((2 : Int32) &&& 31)).toInt = s / 4 := by rw [tq_i32_shr (k := 2) rfl (by omega), hs]; rfl
      generalize scale >>> ((2 : Int32) &&& 31) = r at *
      unfold tq_ppV f_positivePattern_b52
      by_cases q3 : r < 0
      · rw [if_pos q3, if_pos q3]; rw [Int32.lt_iff_toInt_lt, hr, c0] at q3
        have el : ((1 : Int32) - r).toInt = ((tq_rl (s / 4) : Nat) : Int) := by
          unfold tq_rl; rw [if_neg (by omega), tq_i32_sub (by rw [c1, hr]; omega), c1, hr]; omega
        have er : tq_rn (s / 4) = 1 := by unfold tq_rn; rw [if_neg (by omega)]
        have el2 : tq_rl (s / 4) = (-(s / 4)).toNat + 1 := by unfold tq_rl; rw [if_neg (by omega)]
        rw [tq_posPat_b69 h hs el (by omega) (by omega) (run := 1) rfl ?_ hsig hm, er]
        have := Nat.pow_le_pow_right (n := 2) (by omega) (show 2 ≤ tq_rl (s / 4) by omega)
        omega
      · rw [if_neg q3, if_neg q3]; rw [Int32.lt_iff_toInt_lt, hr, c0] at q3
        have el : (r + 2).toInt = ((tq_rl (s / 4) : Nat) : Int) := by
          unfold tq_rl; rw [if_pos (by omega), tq_i32_add (by rw [c2, hr]; omega), c2, hr]; omega
        have el2 : tq_rl (s / 4) = (s / 4).toNat + 2 := by unfold tq_rl; rw [if_pos (by omega)]
        have er : tq_rn (s / 4) = 2 ^ tq_rl (s / 4) - 2 := by unfold tq_rn; rw [if_pos (by omega), el2]
        have hl31 : tq_rl (s / 4) ≤ 31 := by omega
        have hp := Nat.pow_le_pow_right (n := 2) (by omega) hl31
        have hp2 := Nat.pow_le_pow_right (n := 2) (by omega) (show 2 ≤ tq_rl (s / 4) by omega)
        have hsh := tq_u32_shl (x := 1) el (by omega)
        have u1 : tq_u32 (1 : Int32) = 1 := rfl
        rw [u1, Nat.one_mul, Nat.mod_eq_of_lt (by omega)] at hsh
        have hrun : (((1 : Int32) <<< ((r + 2) &&& 31)) - 2).toInt = ((tq_rn (s / 4) : Nat) : Int) := by
          rw [er]
          have hiu := tq_i32_u ((1 : Int32) <<< ((r + 2) &&& 31))
          rw [hsh] at hiu
          rcases Nat.lt_or_ge (2 ^ tq_rl (s / 4)) (2 ^ 31) with w | w
          · rw [if_pos w] at hiu
            rw [tq_i32_sub (by rw [hiu, c2]; omega), hiu, c2]; omega
          · have w2 : 2 ^ tq_rl (s / 4) = 2 ^ 31 := by omega
            rw [if_neg (by omega), w2] at hiu
            rw [Int32.toInt_sub, hiu, c2, w2]; decide
        rw [tq_posPat_b69 h hs el (by omega) (by omega) hrun (by rw [er]; omega) hsig hm]
    · rw [if_neg q2]; rw [Int32.le_iff_toInt_le, hs, eN] at q2
      rw [if_pos (by omega)]; rfl
  · rw [if_neg q1]; rw [Int32.lt_iff_toInt_lt, hs, eL] at q1
    rw [if_pos (by omega)]
    have e := tq_of_i32 h1
    rcases h2 with rfl | rfl | rfl <;> subst e <;> decide
theorem tq_signed_spec {size : Int32} {n : Nat} (h : tq_Sz size n) {neg scale : Int32} {s : Int} (hs : scale.toInt = s) {sig : Int64} (hsig : 2 ^ 63 ≤ tq_u64 sig) {more : Int32} {mo ng : Bool} (hm : more = if mo then 1 else 0) (hn : neg = if ng then 1 else 0) :
    (f_signedPattern size neg scale sig more).toInt = if ng then -(tq_pp n s (tq_u64 sig) mo : Int) else tq_pp n s (tq_u64 sig) mo := by
  unfold f_signedPattern
  rw [tq_nm_e]
  have hp := tq_posPat_spec h hs hsig hm
  cases ng
  · rw [if_neg (by decide)] at hn; subst hn
    rw [if_pos rfl, if_neg (by decide)]; exact hp
  · rw [if_pos rfl] at hn; subst hn
    rw [if_neg (by decide), if_pos rfl, tq_i32_neg (by rw [hp]; omega), hp]
/-- magnitude * 2^exponent (and more) -/
theorem tq_rounded_spec {size : Int32} {n : Nat} (h : tq_Sz size n) {neg ex : Int32} {e : Int} (he : ex.toInt = e) (hb : -2 ^ 30 ≤ e ∧ e < 2 ^ 30) {mg : Int64} {M T : Nat} (hM : tq_u64 mg = M) (hT : 2 ^ T ≤ M ∧ M < 2 ^ (T + 1)) {more : Int32} {mo ng : Bool} (hm : more = if mo then 1 else 0) (hn : neg = if ng then 1 else 0) :
    (f_rounded size neg mg ex more).toInt = if ng then -(tq_pp n (e + T) (M * 2 ^ (63 - T)) mo : Int) else tq_pp n (e + T) (M * 2 ^ (63 - T)) mo := by
  unfold f_rounded
  have nz : mg ≠ 0 := by
    intro q; rw [q] at hM; have : tq_u64 (0 : Int64) = 0 := rfl
    have := Nat.two_pow_pos T; omega
  rw [if_pos (by rw [tq_cmp_eq]; exact nz), tq_nm_e]
  obtain ⟨t, a1, a2, a3, a4⟩ := tq_lnlz_spec nz
  rw [hM] at a3 a4
  have tT : t = T := by
    have w1 : t < T + 1 := by
      rcases Nat.lt_or_ge t (T + 1) with q | q
      · exact q
      · have := Nat.pow_le_pow_right (n := 2) (by omega) q; omega
    have w2 : T < t + 1 := by
      rcases Nat.lt_or_ge T (t + 1) with q | q
      · exact q
      · have := Nat.pow_le_pow_right (n := 2) (by omega) q; omega
    omega
  subst tT
  have c63 : ((63 : Int32)).toInt = 63 := rfl
  have e1 : (ex + 63).toInt = e + 63 := by rw [tq_i32_add (by rw [he, c63]; omega), he, c63]
  have e2 : (ex + 63 - f_lnlz mg).toInt = e + t := by rw [tq_i32_sub (by rw [e1, a2]; omega), e1, a2]; omega
  have a2' : (f_lnlz mg).toInt = ((63 - t : Nat) : Int) := by rw [a2]; omega
  have hsh := tq_u64_shl (x := mg) a2' (by omega)
  rw [hM] at hsh
  have e3 : 2 ^ t * 2 ^ (63 - t) = 2 ^ 63 := by rw [← Nat.pow_add, show t + (63 - t) = 63 by omega]
  have e4 : 2 ^ (t + 1) * 2 ^ (63 - t) = 2 ^ 64 := by rw [← Nat.pow_add, show t + 1 + (63 - t) = 64 by omega]
  have b1 := Nat.mul_le_mul_right (2 ^ (63 - t)) a3
  have b2 := Nat.mul_lt_mul_of_pos_right a4 (Nat.two_pow_pos (63 - t))
  rw [e3] at b1; rw [e4] at b2
  rw [Nat.mod_eq_of_lt b2] at hsh
  rw [tq_signed_spec h e2 (by rw [hsh]; exact b1) hm hn, hsh]
theorem tq_rounded_zero (size neg ex more : Int32) : f_rounded size neg 0 ex more = 0 := by
  unfold f_rounded; rw [if_neg (by decide)]
end
section
theorem tq_dvd_odd {a t c : Nat} (h : 2 ^ a ∣ 2 ^ t * (2 * c + 1)) : a ≤ t := by
  rcases Nat.lt_or_ge t a with q | q
  · exfalso
    obtain ⟨w, hw⟩ := h
    have e : 2 ^ a = 2 ^ t * (2 * 2 ^ (a - t - 1)) := by rw [← Nat.pow_succ', ← Nat.pow_add, show t + (a - t - 1 + 1) = a by omega]
    rw [e, Nat.mul_assoc] at hw
    have := Nat.eq_of_mul_eq_mul_left (Nat.two_pow_pos t) hw
    rw [Nat.mul_assoc] at this
    omega
  · exact q
/-- how many bits a body has left behind its run -/
theorem tq_body_shape {n P : Nat} {r : Int} {Z : Nat} (hn : n = 8 ∨ n = 16 ∨ n = 32) (hP : 1 ≤ P ∧ P < 2 ^ (n - 1)) (h : tq_Body (P * 2 ^ (33 - n)) r Z) :
    ∃ j : Nat, j ≤ n - 3 ∧ 2 ^ (32 - j) ∣ Z ∧ ((r < 0 ∧ (j : Int) = n - 2 + r) ∨ (0 ≤ r ∧ ((r = n - 2 ∧ Z = 0 ∧ j = 0) ∨ (j : Int) = n - 3 - r))) := by
  obtain ⟨hZ, h | h⟩ := h
  · obtain ⟨r0, r1, hb⟩ := h
    obtain ⟨k, rfl⟩ : ∃ k : Nat, r = k := ⟨r.toNat, by omega⟩
    rw [Int.toNat_natCast, Nat.mul_assoc, ← Nat.pow_add] at hb
    have hlow : 35 + k - n = 33 - n + (k + 2) := by omega
    rw [← hlow] at hb
    have e1 : 2 ^ 32 * 2 ^ (k + 2) = 2 ^ (n - 1) * 2 ^ (35 + k - n) := by rw [← Nat.pow_add, ← Nat.pow_add]; congr 1; omega
    have hQ : (2 ^ (n - 1) - P) * 2 ^ (35 + k - n) + Z = 2 ^ 33 := by
      rw [Nat.sub_mul, ← e1]
      have := Nat.mul_le_mul_right (2 ^ (35 + k - n)) (show P ≤ 2 ^ (n - 1) by omega)
      rw [← e1] at this
      omega
    have hQ1 : 1 ≤ 2 ^ (n - 1) - P := by omega
    generalize 2 ^ (n - 1) - P = Q at *
    have h2 := Nat.mul_le_mul_right (2 ^ (35 + k - n)) hQ1
    have hk : 35 + k - n ≤ 33 := by
      rcases Nat.lt_or_ge 33 (35 + k - n) with q | q
      · have := Nat.pow_le_pow_right (n := 2) (by omega) (show 34 ≤ 35 + k - n from q); omega
      · exact q
    rcases Nat.lt_or_ge (35 + k - n) 33 with q | q
    · refine ⟨n - 3 - k, by omega, ?_, .inr ⟨by omega, .inr (by omega)⟩⟩
      have e : 32 - (n - 3 - k) = 35 + k - n := by omega
      rw [e]
      have d1 : 2 ^ (35 + k - n) ∣ 2 ^ 33 := Nat.pow_dvd_pow 2 (by omega)
      rw [← hQ] at d1
      exact (Nat.dvd_add_right (Nat.dvd_mul_left _ _)).1 d1
    · have e : 35 + k - n = 33 := by omega
      rw [e] at hQ
      have : Z = 0 := by
        have : Q = 1 := by
          rcases Nat.lt_or_ge Q 2 with w | w
          · omega
          · have := Nat.mul_le_mul_right (2 ^ 33) w; omega
        omega
      refine ⟨0, by omega, by rw [this]; exact Nat.dvd_zero _, .inr ⟨by omega, .inl ⟨by omega, this, rfl⟩⟩⟩
  · obtain ⟨r0, r1, hb⟩ := h
    obtain ⟨k, hk⟩ : ∃ k : Nat, -r = k := ⟨(-r).toNat, by omega⟩
    rw [hk, Int.toNat_natCast, Nat.mul_assoc, ← Nat.pow_add] at hb
    have hlow : 34 + k - n = 33 - n + (k + 1) := by omega
    rw [← hlow] at hb
    have h2 := Nat.mul_le_mul_right (2 ^ (34 + k - n)) hP.1
    have hk2 : 34 + k - n ≤ 32 := by
      rcases Nat.lt_or_ge 32 (34 + k - n) with q | q
      · have := Nat.pow_le_pow_right (n := 2) (by omega) (show 33 ≤ 34 + k - n from q); omega
      · exact q
    refine ⟨n - 2 - k, by omega, ?_, .inl ⟨by omega, by omega⟩⟩
    have e : 32 - (n - 2 - k) = 34 + k - n := by omega
    rw [e]
    have d1 : 2 ^ (34 + k - n) ∣ 2 ^ 32 := Nat.pow_dvd_pow 2 (by omega)
    have d2 : 2 ^ (34 + k - n) ∣ 2 ^ 32 + Z := by rw [← hb]; exact Nat.dvd_mul_left _ _
    exact (Nat.dvd_add_right d1).1 d2
/-- (1 + f) * 2^(4 r + e), in units of 2^(8 - 4 n) -/
def tq_mgv (n : Nat) (r : Int) (Z : Nat) : Nat := (2 ^ 32 + 4 * Z % 2 ^ 32) * 2 ^ (4 * r + (Z / 2 ^ 30 : Nat) + (4 * (n : Int) - 8)).toNat / 2 ^ 32
theorem tq_op_val {n P : Nat} {r : Int} {Z t c : Nat} (hn : n = 8 ∨ n = 16 ∨ n = 32) (hP : 1 ≤ P ∧ P < 2 ^ (n - 1)) (h : tq_Body (P * 2 ^ (33 - n)) r Z) (hc : 2 ^ 32 + 4 * Z % 2 ^ 32 = 2 ^ t * (2 * c + 1)) (ht : t ≤ 32) :
    2 * c + 1 < 2 ^ 28 ∧ -(4 * (n : Int) - 8) ≤ 4 * r + (Z / 2 ^ 30 : Nat) - 32 + t ∧ 4 * r + (Z / 2 ^ 30 : Nat) - 32 + t ≤ 4 * (n : Int) - 8 ∧ (2 * c + 1) * 2 ^ (4 * r + (Z / 2 ^ 30 : Nat) - 32 + t + (4 * (n : Int) - 8)).toNat = tq_mgv n r Z ∧ tq_mgv n r Z ≤ 2 ^ (8 * n - 16) := by
  obtain ⟨j, j1, j2, j3⟩ := tq_body_shape hn hP h
  have hZ : Z < 2 ^ 32 := h.1
  have hE : Z / 2 ^ 30 < 4 := by omega
  have hmul : 4 * Z % 2 ^ 32 = 4 * (Z % 2 ^ 30) := by omega
  have d32 : 2 ^ (34 - j) ∣ 4 * Z % 2 ^ 32 ∨ j ≤ 2 := by
    rcases Nat.lt_or_ge 2 j with q | q
    · left
      have e : 2 ^ (34 - j) = 4 * 2 ^ (32 - j) := by rw [show 34 - j = 2 + (32 - j) by omega, Nat.pow_add]
      have d1 : 2 ^ (34 - j) ∣ 4 * Z := by rw [e]; exact Nat.mul_dvd_mul_left 4 j2
      exact (Nat.dvd_mod_iff (Nat.pow_dvd_pow 2 (by omega))).2 d1
    · right; exact q
  have ht2 : min 32 (34 - j) ≤ t := by
    rcases d32 with q | q
    · have : 2 ^ min 32 (34 - j) ∣ 2 ^ t * (2 * c + 1) := by
        rw [← hc]
        exact Nat.dvd_add (Nat.pow_dvd_pow 2 (by omega)) (Nat.dvd_trans (Nat.pow_dvd_pow 2 (by omega)) q)
      exact tq_dvd_odd this
    · have : 2 ^ 30 ∣ Z := Nat.dvd_trans (Nat.pow_dvd_pow 2 (by omega)) j2
      have z0 : Z % 2 ^ 30 = 0 := Nat.mod_eq_zero_of_dvd this
      have : 2 ^ 32 ∣ 2 ^ t * (2 * c + 1) := ⟨1, by rw [← hc]; omega⟩
      have := tq_dvd_odd this
      omega
  have hsz : 2 ^ t * (2 * c + 1) < 2 ^ 33 := by rw [← hc]; omega
  have hm28 : 2 * c + 1 < 2 ^ 28 := by
    have h5 : 2 ^ 5 ≤ 2 ^ t := Nat.pow_le_pow_right (by omega) (by omega)
    have := Nat.mul_le_mul_right (2 * c + 1) h5
    omega
  have hlo : -(4 * (n : Int) - 8) ≤ 4 * r + (Z / 2 ^ 30 : Nat) - 32 + t := by
    rcases j3 with q | ⟨q, q2 | q2⟩ <;> omega
  have hlo2 : -(4 * (n : Int) - 8) ≤ 4 * r + (Z / 2 ^ 30 : Nat) := by
    rcases j3 with q | ⟨q, q2 | q2⟩ <;> omega
  have key : (2 * c + 1) * 2 ^ (4 * r + (Z / 2 ^ 30 : Nat) - 32 + t + (4 * (n : Int) - 8)).toNat * 2 ^ 32 = (2 ^ 32 + 4 * Z % 2 ^ 32) * 2 ^ (4 * r + (Z / 2 ^ 30 : Nat) + (4 * (n : Int) - 8)).toNat := by
    rw [hc, Nat.mul_comm (2 ^ t), Nat.mul_assoc, Nat.mul_assoc, ← Nat.pow_add, ← Nat.pow_add]
    congr 2; omega
  have hup : (4 * r + (Z / 2 ^ 30 : Nat) + 1 ≤ 4 * (n : Int) - 8) ∨ (4 * r + (Z / 2 ^ 30 : Nat) = 4 * (n : Int) - 8 ∧ Z = 0) := by
    rcases j3 with q | ⟨q, q2 | q2⟩ <;> omega
  have hmg : (2 * c + 1) * 2 ^ (4 * r + (Z / 2 ^ 30 : Nat) - 32 + t + (4 * (n : Int) - 8)).toNat = tq_mgv n r Z := by
    unfold tq_mgv; rw [← key, Nat.mul_div_cancel _ (by decide)]
  refine ⟨hm28, hlo, ?_, hmg, ?_⟩
  · rcases hup with q | q <;> omega
  · unfold tq_mgv
    rcases hup with q | ⟨q, q0⟩
    · have h1 : 2 ^ ((4 * r + (Z / 2 ^ 30 : Nat) + (4 * (n : Int) - 8)).toNat + 1) ≤ 2 ^ (8 * n - 16) := Nat.pow_le_pow_right (by omega) (by omega)
      rw [Nat.pow_succ] at h1
      generalize 2 ^ (4 * r + (Z / 2 ^ 30 : Nat) + (4 * (n : Int) - 8)).toNat = X at *
      generalize 2 ^ (8 * n - 16) = Y at *
      have := Nat.mul_le_mul_right X (show 2 ^ 32 + 4 * Z % 2 ^ 32 ≤ 2 ^ 33 by omega)
      omega
    · rw [q0] at q ⊢
      have e : (4 * r + ((0 / 2 ^ 30 : Nat) : Int) + (4 * (n : Int) - 8)).toNat = 8 * n - 16 := by omega
      rw [e]; omega

theorem tq_root_loop {x : Int64} {X : Nat} (hx : x.toInt = X) : ∀ b n (v : Int64) (F : Nat), b < n → b ≤ 31 → v.toInt = F → 2 ^ b ∣ F → F + 2 ^ b ≤ 2 ^ 31 → F * F ≤ X → X < (F + 2 ^ b) * (F + 2 ^ b) →
    ∃ r R, f_floorRoot_b6 x n v (nI b + (-1)) = some r ∧ r.toInt = ((R : Nat) : Int) ∧ R < 2 ^ 31 ∧ R * R ≤ X ∧ X < (R + 1) * (R + 1)
  | 0, n, v, F, hn, hb, hv, hd, h1, h2, h3 => by
    obtain ⟨m, rfl⟩ : ∃ m, n = m + 1 := ⟨n - 1, by omega⟩
    unfold f_floorRoot_b6
    rw [if_pos (by decide)]
    exact ⟨v, F, rfl, hv, by omega, h2, h3⟩
  | b + 1, n, v, F, hn, hb, hv, hd, h1, h2, h3 => by
    obtain ⟨m, rfl⟩ : ∃ m, n = m + 1 := ⟨n - 1, by omega⟩
    unfold f_floorRoot_b6
    rw [tq_nI_pred (by omega), if_neg (tq_nI_nn (by omega)), tq_nm_e]
    have pb : 2 ^ (b + 1) = 2 * 2 ^ b := by rw [Nat.pow_succ, Nat.mul_comm]
    have tq_pp := Nat.two_pow_pos b
    have ptr : tq_u64 (v ||| ((1 : Int64) <<< ((nI b).toInt64 &&& 63))) = F + 2 ^ b := by
      have u1 : tq_u64 (1 : Int64) = 1 := rfl
      have hb30 : 2 ^ b ≤ 2 ^ 30 := Nat.pow_le_pow_right (by omega) (by omega)
      obtain ⟨q, rfl⟩ := hd
      rw [tq_u64_or, tq_u64_of_i hv, tq_u64_shl (tq_nI_i (by omega)) (by omega), u1, Nat.one_mul, Nat.mod_eq_of_lt (by omega), tq_or_add (by omega)]
    have htr := tq_i64_of_u ptr (by omega)
    generalize v ||| ((1 : Int64) <<< ((nI b).toInt64 &&& 63)) = tr at *
    have hsq : (tr * tr).toInt = (((F + 2 ^ b) * (F + 2 ^ b) : Nat) : Int) := by
      have hle : (F + 2 ^ b) * (F + 2 ^ b) ≤ 2 ^ 31 * 2 ^ 31 := Nat.mul_le_mul (by omega) (by omega)
      have e : tr.toInt * tr.toInt = (((F + 2 ^ b) * (F + 2 ^ b) : Nat) : Int) := by rw [htr]; push_cast; rfl
      rw [tq_i64_mul (by rw [e]; omega), e]
    have dF : 2 ^ b ∣ F := Nat.dvd_trans (Nat.pow_dvd_pow 2 (by omega)) hd
    by_cases q : 0 < lg_cmp (tr * tr) x
    · rw [if_pos q]; rw [tq_cmp_gt, hsq, hx] at q
      exact tq_root_loop hx b m v F (by omega) (by omega) hv dF (by omega) h2 (by omega)
    · rw [if_neg q]; rw [tq_cmp_gt, hsq, hx] at q
      refine tq_root_loop hx b m tr (F + 2 ^ b) (by omega) (by omega) htr (Nat.dvd_add dF (Nat.dvd_refl _)) (by omega) (by omega) ?_
      rw [pb] at h3
      have e : F + 2 ^ b + 2 ^ b = F + 2 * 2 ^ b := by omega
      rw [e]; exact h3
theorem tq_root_spec {x : Int64} {X : Nat} (hx : x.toInt = X) (hX : X < 2 ^ 62) : ∃ r R, f_floorRoot x = some r ∧ r.toInt = ((R : Nat) : Int) ∧ R < 2 ^ 31 ∧ R * R ≤ X ∧ X < (R + 1) * (R + 1) := by
  have := tq_root_loop hx 31 32 0 0 (by omega) (by omega) rfl (Nat.dvd_zero _) (by omega) (by omega) (by omega)
  exact this
theorem tq_rnd_small {V d : Nat} (h : V < 2 ^ (d - 1)) (hd : 1 ≤ d) : tq_rnd V d false = 0 := by
  unfold tq_rnd
  have : 2 ^ d = 2 * 2 ^ (d - 1) := by rw [show d = d - 1 + 1 by omega, Nat.pow_succ, Nat.mul_comm]; rfl
  rw [Nat.div_eq_of_lt (by omega), Nat.mod_eq_of_lt (by omega), if_neg (by omega)]
theorem tq_nearest_spec {mg : Int64} {ex : Int32} {m d : Nat} (nt ng : Int32) (hm : mg.toInt = m) (hm2 : m < 2 ^ 60) (hd : ex.toInt = -(d : Int)) (hd1 : 1 ≤ d) (hd2 : d < 2 ^ 30) : (f_nearestWhole nt ng mg ex).toInt = tq_rnd m d false := by
  unfold f_nearestWhole
  have c0 : ((0 : Int32)).toInt = 0 := rfl
  have c60 : ((60 : Int32)).toInt = 60 := rfl
  have c1 : ((1 : Int32)).toInt = 1 := rfl
  have e1 : (-ex).toInt = d := by rw [tq_i32_neg (by rw [hd]; omega), hd]; omega
  rw [if_pos (by rw [Int32.lt_iff_toInt_lt, hd, c0]; omega), tq_nm_e]
  generalize -ex = dr at *
  by_cases q : dr ≤ 60
  · rw [if_pos q, tq_nm_e, tq_nm_e, tq_nm_e]; rw [Int32.le_iff_toInt_le, e1, c60] at q
    have hf : (mg >>> (dr.toInt64 &&& 63)).toInt = ((m / 2 ^ d : Nat) : Int) := by
      rw [tq_i64_shr e1 (by omega), hm]; norm_cast
    generalize mg >>> (dr.toInt64 &&& 63) = fl at *
    have hqm := Nat.div_add_mod m (2 ^ d)
    have pd := Nat.two_pow_pos d
    have hml := Nat.mod_lt m pd
    have hfs : (fl <<< (dr.toInt64 &&& 63)).toInt = ((m / 2 ^ d * 2 ^ d : Nat) : Int) := by
      apply tq_i64_of_u
      · rw [tq_u64_shl e1 (by omega), tq_u64_of_i hf]
        apply Nat.mod_eq_of_lt
        rw [Nat.mul_comm]; omega
      · rw [Nat.mul_comm]; omega
    have hr : (mg - (fl <<< (dr.toInt64 &&& 63))).toInt = ((m % 2 ^ d : Nat) : Int) := by
      rw [Nat.mul_comm] at hfs
      rw [tq_i64_sub (by rw [hm, hfs]; omega), hm, hfs]; omega
    generalize mg - (fl <<< (dr.toInt64 &&& 63)) = rs at *
    have ed : (dr - 1).toInt = ((d - 1 : Nat) : Int) := by rw [tq_i32_sub (by rw [e1, c1]; omega), e1, c1]; omega
    have hh : ((1 : Int64) <<< ((dr - 1).toInt64 &&& 63)).toInt = ((2 ^ (d - 1) : Nat) : Int) := by
      have hp : 2 ^ (d - 1) ≤ 2 ^ 59 := Nat.pow_le_pow_right (by omega) (by omega)
      apply tq_i64_of_u
      · have u1 : tq_u64 (1 : Int64) = 1 := rfl
        rw [tq_u64_shl ed (by omega), u1, Nat.one_mul, Nat.mod_eq_of_lt (by omega)]
      · omega
    generalize (1 : Int64) <<< ((dr - 1).toInt64 &&& 63) = hf2 at *
    have hodd : (fl &&& 1 = 1) ↔ m / 2 ^ d % 2 = 1 := by
      have e : tq_u64 (fl &&& 1) = m / 2 ^ d % 2 := by
        rw [tq_u64_and, tq_u64_of_i hf]; have : tq_u64 (1 : Int64) = 1 := rfl
        rw [this, Nat.and_one_is_mod]
      constructor
      · intro q; rw [q] at e; have : tq_u64 (1 : Int64) = 1 := rfl; omega
      · intro q; apply tq_u64_inj; rw [e, q]; rfl
    have hql : m / 2 ^ d ≤ m := Nat.div_le_self _ _
    unfold tq_rnd
    generalize m / 2 ^ d = Q at *
    generalize m % 2 ^ d = W at *
    have up : (f_nearestWhole_b84 fl 1).toInt = ((Q + 1 : Nat) : Int) := by
      unfold f_nearestWhole_b84
      have c1 : ((1 : Int64)).toInt = 1 := rfl
      rw [if_neg (by decide), tq_i64_add (by rw [hf, c1]; omega), hf, c1]; omega
    have dn : (f_nearestWhole_b84 fl 0).toInt = ((Q : Nat) : Int) := by
      unfold f_nearestWhole_b84
      rw [if_pos rfl, hf]
    rcases tq_cmp_cases rs hf2 with ⟨a, b⟩ | ⟨a, b⟩ | ⟨a, b⟩ <;> rw [b]
    · rw [hr, hh] at a
      rw [if_pos (by decide), up, if_pos (by omega)]
    · have a' : W = 2 ^ (d - 1) := by
        have : rs.toInt = hf2.toInt := by rw [a]
        rw [hr, hh] at this; omega
      rw [if_neg (by decide), if_neg (by decide)]
      by_cases w : lg_cmp (fl &&& 1) 1 = 0
      · rw [if_neg (by simpa using w), up]; rw [tq_cmp_eq, hodd] at w
        rw [if_pos (.inr ⟨a', .inr w⟩)]
      · rw [if_pos w, dn]; rw [tq_cmp_eq, hodd] at w
        have nn : ¬ (2 ^ (d - 1) < W ∨ W = 2 ^ (d - 1) ∧ (false = true ∨ Q % 2 = 1)) := by
          rintro (z | ⟨_, z | z⟩)
          · omega
          · cases z
          · exact w z
        rw [if_neg nn]; rfl
    · rw [hr, hh] at a
      rw [if_neg (by decide), if_pos (by decide), dn, if_neg (by omega)]; rfl
  · rw [if_neg q]; rw [Int32.le_iff_toInt_le, e1, c60] at q
    have hp : 2 ^ 60 ≤ 2 ^ (d - 1) := Nat.pow_le_pow_right (by omega) (by omega)
    rw [tq_rnd_small (by omega) hd1]; rfl

theorem tq_pow_sep {a b X : Nat} (h1 : a < b) (hX : 2 ^ 32 ≤ X * 2 ^ a) : 2 ^ 33 ≤ X * 2 ^ b := by
  have e : 2 ^ b = 2 ^ a * (2 * 2 ^ (b - a - 1)) := by rw [← Nat.pow_succ', ← Nat.pow_add, show a + (b - a - 1 + 1) = b by omega]
  rw [e, ← Nat.mul_assoc]
  have p := Nat.two_pow_pos (b - a - 1)
  have := Nat.mul_le_mul hX (show 2 ≤ 2 * 2 ^ (b - a - 1) by omega)
  omega
theorem tq_body_unique {B : Nat} (hB : B < 2 ^ 32) {r r' : Int} {Z Z' : Nat} (h : tq_Body B r Z) (h' : tq_Body B r' Z') : r = r' ∧ Z = Z' := by
  obtain ⟨z1, h⟩ := h
  obtain ⟨z2, h'⟩ := h'
  have neg : ∀ {r : Int} {Z : Nat}, Z < 2 ^ 32 → r < 0 → B * 2 ^ ((-r).toNat + 1) = 2 ^ 32 + Z → B < 2 ^ 31 := by
    intro r Z hz hr h
    have : 2 ^ 2 ≤ 2 ^ ((-r).toNat + 1) := Nat.pow_le_pow_right (by omega) (by omega)
    have := Nat.mul_le_mul_left B this
    omega
  have conv : ∀ {r : Int} {Z : Nat}, B * 2 ^ (r.toNat + 2) + 2 ^ 33 = 2 ^ 32 * 2 ^ (r.toNat + 2) + Z → (2 ^ 32 - B) * 2 ^ (r.toNat + 2) + Z = 2 ^ 33 := by
    intro r Z h
    rw [Nat.sub_mul]
    have := Nat.mul_le_mul_right (2 ^ (r.toNat + 2)) (show B ≤ 2 ^ 32 by omega)
    omega
  have pos : ∀ {r : Int} {Z : Nat}, Z < 2 ^ 32 → (2 ^ 32 - B) * 2 ^ (r.toNat + 2) + Z = 2 ^ 33 → 2 ^ 31 ≤ B := by
    intro r Z hz h
    have : 2 ^ 2 ≤ 2 ^ (r.toNat + 2) := Nat.pow_le_pow_right (by omega) (by omega)
    have := Nat.mul_le_mul_left (2 ^ 32 - B) this
    omega
  rcases h with ⟨a1, a2, a3⟩ | ⟨a1, a2, a3⟩ <;> rcases h' with ⟨b1, b2, b3⟩ | ⟨b1, b2, b3⟩
  · have a3 := conv a3
    have b3 := conv b3
    rcases Nat.lt_trichotomy r.toNat r'.toNat with q | q | q
    · have := tq_pow_sep (X := 2 ^ 32 - B) (show r.toNat + 2 < r'.toNat + 2 by omega) (by omega)
      have s := Nat.mul_le_mul_left (2 ^ 32 - B) (Nat.pow_le_pow_right (n := 2) (by omega) (show r.toNat + 2 + 1 ≤ r'.toNat + 2 by omega))
      rw [Nat.pow_succ (n := 2) (m := r.toNat + 2), ← Nat.mul_assoc] at s
      omega
    · have : r = r' := by omega
      subst this
      exact ⟨rfl, by omega⟩
    · have s := Nat.mul_le_mul_left (2 ^ 32 - B) (Nat.pow_le_pow_right (n := 2) (by omega) (show r'.toNat + 2 + 1 ≤ r.toNat + 2 by omega))
      rw [Nat.pow_succ (n := 2) (m := r'.toNat + 2), ← Nat.mul_assoc] at s
      omega
  · have := neg z2 b1 b3
    have := pos z1 (conv a3)
    omega
  · have := neg z1 a1 a3
    have := pos z2 (conv b3)
    omega
  · rcases Nat.lt_trichotomy (-r).toNat (-r').toNat with q | q | q
    · have := tq_pow_sep (X := B) (show (-r).toNat + 1 < (-r').toNat + 1 by omega) (by omega)
      omega
    · have : r = r' := by omega
      subst this
      exact ⟨rfl, by omega⟩
    · have := tq_pow_sep (X := B) (show (-r').toNat + 1 < (-r).toNat + 1 by omega) (by omega)
      omega
/-- v is what the positive pattern P of n bits stands for, in units of 2^(8 - 4 n) -/
def tq_IsMag (n P v : Nat) : Prop := (P = 0 ∧ v = 0) ∨ (1 ≤ P ∧ P < 2 ^ (n - 1) ∧ ∃ r Z, tq_Body (P * 2 ^ (33 - n)) r Z ∧ v = tq_mgv n r Z)
theorem tq_isMag_unique {n P v v' : Nat} (hn : n = 8 ∨ n = 16 ∨ n = 32) (h : tq_IsMag n P v) (h' : tq_IsMag n P v') : v = v' := by
  rcases h with ⟨a, b⟩ | ⟨a, b, r, Z, c, d⟩ <;> rcases h' with ⟨a', b'⟩ | ⟨a', b', r', Z', c', d'⟩
  · omega
  · omega
  · omega
  · have hB : P * 2 ^ (33 - n) < 2 ^ 32 := by
      have e : 2 ^ 32 = 2 ^ (n - 1) * 2 ^ (33 - n) := by rw [← Nat.pow_add, show n - 1 + (33 - n) = 32 by omega]
      rw [e]; exact Nat.mul_lt_mul_of_pos_right b (Nat.two_pow_pos _)
    obtain ⟨rfl, rfl⟩ := tq_body_unique hB c c'
    omega
noncomputable def tq_mag (n P : Nat) : Nat := Classical.epsilon (fun v => tq_IsMag n P v)
theorem tq_mag_eq {n P v : Nat} (hn : n = 8 ∨ n = 16 ∨ n = 32) (h : tq_IsMag n P v) : tq_mag n P = v := by
  have hx : ∃ v, tq_IsMag n P v := ⟨v, h⟩
  exact tq_isMag_unique hn (Classical.epsilon_spec hx) h
theorem tq_op_mag {n : Nat} {p : Int} {nt ng : Int32} {mg : Int64} {ex : Int32} (hn : n = 8 ∨ n = 16 ∨ n = 32) (hp : -2 ^ (n - 1) < p ∧ p < 2 ^ (n - 1)) (h : tq_Op n p nt ng mg ex) :
    ∃ m : Nat, mg.toInt = m ∧ m < 2 ^ 28 ∧ -(4 * (n : Int) - 8) ≤ ex.toInt ∧ ex.toInt ≤ 4 * (n : Int) - 8 ∧ m * 2 ^ (ex.toInt + (4 * (n : Int) - 8)).toNat = tq_mag n p.natAbs ∧ tq_mag n p.natAbs ≤ 2 ^ (8 * n - 16) ∧ (p ≠ 0 → 1 ≤ m) := by
  obtain ⟨h1, h2, h3, h4⟩ := h
  by_cases q : p = 0
  · obtain ⟨a, b⟩ := h3 (.inl q)
    subst a b q
    have : tq_mag n (0 : Int).natAbs = 0 := tq_mag_eq hn (.inl ⟨rfl, rfl⟩)
    rw [this]
    have c0 : ((0 : Int32)).toInt = 0 := rfl
    refine ⟨0, rfl, by omega, by rw [c0]; omega, by rw [c0]; omega, by simp, Nat.zero_le _, fun w => absurd rfl w⟩
  · obtain ⟨r, Z, t, c, a1, a2, a3, a4, a5⟩ := h4 q (by omega)
    have hP : 1 ≤ p.natAbs ∧ p.natAbs < 2 ^ (n - 1) := by rcases hn with rfl | rfl | rfl <;> omega
    obtain ⟨b1, b2, b3, b4, b5⟩ := tq_op_val hn hP a1 a2 a3
    have em : tq_mag n p.natAbs = tq_mgv n r Z := tq_mag_eq hn (.inr ⟨hP.1, hP.2, r, Z, a1, rfl⟩)
    rw [em, a5]
    exact ⟨2 * c + 1, a4, b1, b2, b3, b4, b5, fun _ => by omega⟩
end
section
/-- A * 2^(16 - 8 n) rounded to n bits -/
def tq_rS (n A : Nat) : Nat := if A = 0 then 0 else
  tq_pp n ((Nat.log2 A : Int) - (8 * n - 16)) (if 63 ≤ Nat.log2 A then A / 2 ^ (Nat.log2 A - 63) else A * 2 ^ (63 - Nat.log2 A)) (decide (63 ≤ Nat.log2 A ∧ A % 2 ^ (Nat.log2 A - 63) ≠ 0))
def tq_rI (n : Nat) (v : Int) : Int := if v < 0 then -(tq_rS n v.natAbs : Int) else tq_rS n v.natAbs
/-- a sum's words as the integer that they stand for -/
def tq_sgnd (n S : Nat) : Int := if S < 2 ^ (16 * n - 1) then (S : Int) else (S : Int) - ((2 ^ (16 * n) : Nat) : Int)
theorem tq_rI_nn {n A : Nat} {v : Int} (h : v = (A : Int)) : tq_rI n v = tq_rS n A := by
  subst h; unfold tq_rI; rw [if_neg (by omega)]; rfl
theorem tq_rI_ng {n A : Nat} {v : Int} (h : v = -(A : Int)) (hA : 0 < A) : tq_rI n v = -(tq_rS n A : Int) := by
  subst h; unfold tq_rI; rw [if_pos (by omega)]
  have : (-(A : Int)).natAbs = A := by omega
  rw [this]
theorem tq_sgnd_lo {n S : Nat} (h : S < 2 ^ (16 * n - 1)) : tq_sgnd n S = (S : Int) := by unfold tq_sgnd; rw [if_pos h]
theorem tq_sgnd_hi {n S : Nat} (h : ¬ S < 2 ^ (16 * n - 1)) : tq_sgnd n S = (S : Int) - ((2 ^ (16 * n) : Nat) : Int) := by unfold tq_sgnd; rw [if_neg h]
theorem tq_log2_eq {A T : Nat} (h1 : 2 ^ T ≤ A) (h2 : A < 2 ^ (T + 1)) : Nat.log2 A = T := by
  have hA : A ≠ 0 := by have := Nat.two_pow_pos T; omega
  have a := (Nat.le_log2 hA).2 h1
  have b := (Nat.log2_lt hA).2 h2
  omega
theorem tq_zb {P : Prop} [Decidable P] {r : Int32} (h : (¬ P ∧ r = 0) ∨ (P ∧ r = 1)) : r = if decide P then 1 else 0 := by
  rcases h with ⟨a, b⟩ | ⟨a, b⟩
  · rw [b]; simp [a]
  · rw [b]; simp [a]
theorem tq_roundedSum_b39 {size : Int32} {n : Nat} (h : tq_Sz size n) {N : Nat} (hN : 4 * N = n) {p0 : Int32} (hp : p0.toInt = 8 * n - 16) {v2 : Int32} {ng : Bool} (hv : v2 = if ng then 1 else 0) (f : Nat → Int64) :
    ∃ r, f_roundedSum_b39 size p0 N v2 f = some (r, f) ∧ r.toInt = if ng then -(tq_rS n (tq_sv f N) : Int) else tq_rS n (tq_sv f N) := by
  have h2 := h.2
  unfold f_roundedSum_b39
  obtain ⟨r, e, hr⟩ := tq_topBit_spec (N := N) (by omega) (by omega) f
  have c63 : ((63 : Int32)).toInt = 63 := rfl
  have c0 : ((0 : Int32)).toInt = 0 := rfl
  rw [e]
  rcases hr with ⟨a, b⟩ | ⟨T, a1, a2, a3, a4⟩
  · subst b
    refine ⟨0, rfl, ?_⟩
    have : tq_rS n (tq_sv f N) = 0 := by unfold tq_rS; rw [if_pos a]
    rw [this]; cases ng <;> rfl
  · have hs := tq_i32_rng r
    have e63 : (r - 63).toInt = (T : Int) - 63 := by rw [tq_i32_sub (by rw [a2, c63]; omega), a2, c63]
    have ep : (r - p0).toInt = (T : Int) - (8 * n - 16) := by rw [tq_i32_sub (by rw [a2, hp]; omega), a2, hp]
    have hlog := tq_log2_eq a3 a4
    have nz : tq_sv f N ≠ 0 := by have := Nat.two_pow_pos T; omega
    obtain ⟨sg, es, hsg⟩ := tq_leading_spec (N := N) (by omega) f a2 a1 a4
    have more : ∃ m, f_hasBitsBelow N f (r - 63) = some m ∧ m = if decide (63 ≤ T ∧ tq_sv f N % 2 ^ (T - 63) ≠ 0) then 1 else 0 := by
      by_cases q : 63 ≤ T
      · obtain ⟨m, em, hm⟩ := tq_below_spec (N := N) (by omega) f (place := r - 63) (P := T - 63) (by rw [e63]; omega) (by omega)
        refine ⟨m, em, tq_zb ?_⟩
        rcases hm with ⟨w1, w2⟩ | ⟨w1, w2⟩
        · exact .inl ⟨fun z => z.2 w1, w2⟩
        · exact .inr ⟨⟨q, w1⟩, w2⟩
      · refine ⟨0, tq_below_neg (by omega) f (by rw [e63]; omega), tq_zb (.inl ⟨fun z => q z.1, rfl⟩)⟩
    obtain ⟨m, em, hm⟩ := more
    show ∃ r_1, (if 0 ≤ r then tq_bd (f_hasBitsBelow N f (r - 63)) (fun r8 => tq_bd (f_leadingBits N f r) fun r9 => some (f_signedPattern size v2 (r - p0) r9 r8, f)) else some (0, f)) = some (r_1, f) ∧ _
    rw [if_pos (by rw [Int32.le_iff_toInt_le, c0, a2]; omega), em, es]
    refine ⟨f_signedPattern size v2 (r - p0) sg m, rfl, ?_⟩
    have hbig : 2 ^ 63 ≤ tq_u64 sg := by
      rw [hsg]
      split
      · rw [Nat.le_div_iff_mul_le (Nat.two_pow_pos _), ← Nat.pow_add, show 63 + (T - 63) = T by omega]; exact a3
      · have := Nat.mul_le_mul_right (2 ^ (63 - T)) a3
        rw [← Nat.pow_add, show T + (63 - T) = 63 by omega] at this; exact this
    rw [tq_signed_spec h ep hbig hm hv, hsg]
    have : tq_rS n (tq_sv f N) = tq_pp n ((T : Int) - (8 * n - 16)) (if 63 ≤ T then tq_sv f N / 2 ^ (T - 63) else tq_sv f N * 2 ^ (63 - T)) (decide (63 ≤ T ∧ tq_sv f N % 2 ^ (T - 63) ≠ 0)) := by
      unfold tq_rS; rw [if_neg nz, hlog]
    rw [this]
theorem tq_roundedSum_spec {size : Int32} {n : Nat} (h : tq_Sz size n) {N : Nat} (hN : 4 * N = n) {p0 : Int32} (hp : p0.toInt = 8 * n - 16) (f f3 : Nat → Int64) :
    ∃ r g, f_roundedSum size p0 N f f3 = some (r, g) ∧ r.toInt = if tq_sv f N = 2 ^ (16 * n - 1) then -2 ^ (n - 1) else tq_rI n (tq_sgnd n (tq_sv f N)) := by
  have h2 := h.2
  unfold f_roundedSum
  obtain ⟨r, e, hr⟩ := tq_isNot_spec (N := N) (by omega) (by omega) f
  have eM : 64 * N = 16 * n := by omega
  rw [eM] at hr
  rw [tq_bd_e e]
  rcases hr with ⟨a, b⟩ | ⟨a, b⟩
  · subst b
    rw [if_neg (by decide), if_pos a]
    exact ⟨_, f3, rfl, tq_notOf_spec h⟩
  · subst b
    obtain ⟨ng, e1, hng⟩ := tq_isNegative_spec (N := N) (by omega) (by omega) f
    obtain ⟨g, e2, hg⟩ := tq_copy_spec (N := N) (by omega) f3 f
    rw [eM] at hng
    rw [if_pos rfl, if_neg a, tq_bd_e e1, tq_bd_e e2]
    have hl := tq_sv_lt f N
    rw [eM] at hl
    rcases hng with ⟨w, rfl⟩ | ⟨w, rfl⟩
    · obtain ⟨r, e3, hr⟩ := tq_roundedSum_b39 h hN hp (v2 := 0) (ng := false) rfl g
      rw [if_pos rfl]
      refine ⟨r, g, e3, ?_⟩
      rw [hr, hg, tq_rI_nn (tq_sgnd_lo w)]; rfl
    · obtain ⟨g2, e4, hg2⟩ := tq_flip_spec (N := N) (by omega) g
      obtain ⟨r, e3, hr⟩ := tq_roundedSum_b39 h hN hp (v2 := 1) (ng := true) rfl g2
      rw [if_neg (by decide), tq_bd_e e4]
      refine ⟨r, g2, e3, ?_⟩
      rw [hr, hg2, hg, eM]
      have p1 := Nat.two_pow_pos (16 * n - 1)
      rw [Nat.mod_eq_of_lt (by omega), if_pos rfl]
      have e5 : tq_sgnd n (tq_sv f N) = -((2 ^ (16 * n) - tq_sv f N : Nat) : Int) := by
        rw [tq_sgnd_hi (by omega)]
        generalize 2 ^ (16 * n) = X at *
        omega
      rw [tq_rI_ng e5 (by omega)]
/-- what a product of two patterns makes of a sum -/
noncomputable def tq_prodS (n : Nat) (p q : Int) : Nat :=
  if p = -2 ^ (n - 1) ∨ q = -2 ^ (n - 1) then 2 ^ (16 * n - 1) else if (p < 0) = (q < 0) then tq_mag n p.natAbs * tq_mag n q.natAbs else (2 ^ (16 * n) - tq_mag n p.natAbs * tq_mag n q.natAbs) % 2 ^ (16 * n)
theorem tq_sumProduct_spec {n N : Nat} (hn : n = 8 ∨ n = 16 ∨ n = 32) (hN : 4 * N = n) {p0 : Int32} (hp0 : p0.toInt = 8 * n - 16) (f : Nat → Int64) {p q : Int} {nt0 ng0 nt1 ng1 ex0 ex1 : Int32} {mg0 mg1 : Int64}
    (hp : -2 ^ (n - 1) ≤ p ∧ p < 2 ^ (n - 1)) (hq : -2 ^ (n - 1) ≤ q ∧ q < 2 ^ (n - 1)) (h0 : tq_Op n p nt0 ng0 mg0 ex0) (h1 : tq_Op n q nt1 ng1 mg1 ex1) :
    ∃ g, f_sumProduct p0 N f nt0 ng0 mg0 ex0 nt1 ng1 mg1 ex1 = some g ∧ tq_sv g N = tq_prodS n p q := by
  have eM : 64 * N = 16 * n := by omega
  unfold f_sumProduct f_sumProduct_b14 tq_prodS
  obtain ⟨gn, en, hgn⟩ := tq_setNot_spec (N := N) (by omega) (by omega) f
  rw [eM] at hgn
  have hb : tq_bd (f_setNot N f) (fun f02 => some f02) = some gn := by rw [en]; rfl
  rw [hb]
  by_cases p1 : p = -2 ^ (n - 1)
  · have := h0.1
    rw [if_pos p1] at this
    rw [this, if_pos (by decide), if_pos (.inl p1)]
    exact ⟨gn, rfl, hgn⟩
  · have t0 := h0.1
    rw [if_neg p1] at t0
    rw [t0, if_neg (by decide)]
    by_cases q1 : q = -2 ^ (n - 1)
    · have := h1.1
      rw [if_pos q1] at this
      rw [this, if_neg (by decide), if_pos (.inr q1)]
      exact ⟨gn, rfl, hgn⟩
    · have t1 := h1.1
      rw [if_neg q1] at t1
      rw [t1, if_pos rfl, if_neg (by omega)]
      obtain ⟨g, e, hz⟩ := tq_setZero_spec (N := N) (by omega) f
      obtain ⟨m0, a1, a2, a3, a4, a5, a6, _⟩ := tq_op_mag hn (by omega) h0
      obtain ⟨m1, b1, b2, b3, b4, b5, b6, _⟩ := tq_op_mag hn (by omega) h1
      have hmm : m0 * m1 < 2 ^ 56 := by
        have := Nat.mul_lt_mul_of_lt_of_lt a2 b2
        omega
      have eprod : (mg0 * mg1).toInt = ((m0 * m1 : Nat) : Int) := by
        rw [tq_i64_mul (by rw [a1, b1]; norm_cast; omega), a1, b1]; norm_cast
      have ee : (ex0 + ex1).toInt = ex0.toInt + ex1.toInt := tq_i32_add (by omega)
      have ep : (ex0 + ex1 + p0).toInt = (((ex0.toInt + (4 * (n : Int) - 8)).toNat + (ex1.toInt + (4 * (n : Int) - 8)).toNat : Nat) : Int) := by
        rw [tq_i32_add (by rw [ee, hp0]; omega), ee, hp0]; omega
      have hval : m0 * m1 * 2 ^ ((ex0.toInt + (4 * (n : Int) - 8)).toNat + (ex1.toInt + (4 * (n : Int) - 8)).toNat) = tq_mag n p.natAbs * tq_mag n q.natAbs := by
        rw [← a5, ← b5, Nat.pow_add]
        ac_rfl
      have hle : tq_mag n p.natAbs * tq_mag n q.natAbs ≤ 2 ^ (16 * n - 32) := by
        have := Nat.mul_le_mul a6 b6
        rw [← Nat.pow_add, show 8 * n - 16 + (8 * n - 16) = 16 * n - 32 by omega] at this
        exact this
      have hlt : 2 ^ (16 * n - 32) < 2 ^ (16 * n) := Nat.pow_lt_pow_right (by omega) (by omega)
      obtain ⟨g2, e2, hg2⟩ := tq_setBits_spec (N := N) (by omega) hz (value := mg0 * mg1) ep (by omega) (by rw [tq_u64_of_i eprod, hval, eM]; omega)
      rw [tq_u64_of_i eprod, hval] at hg2
      have hb2 : tq_bd (f_setZero N f) (fun f04 => tq_bd (f_setBits N f04 (mg0 * mg1) ((ex0 + ex1) + p0)) (fun f05 => if ng0 = ng1 then some f05 else tq_bd (f_flip N f05) (fun f07 => some f07))) = if ng0 = ng1 then some g2 else tq_bd (f_flip N g2) (fun f07 => some f07) := by
        rw [e]; show tq_bd (f_setBits N g _ _) _ = _; rw [e2]; rfl
      rw [hb2, h0.2.1, h1.2.1]
      by_cases s : (p < 0) = (q < 0)
      · rw [if_pos s, if_pos (by simp only [s])]
        exact ⟨g2, rfl, hg2⟩
      · rw [if_neg s]
        have hne : ¬ ((if p < 0 then (1 : Int32) else 0) = if q < 0 then 1 else 0) := by
          by_cases w1 : p < 0 <;> by_cases w2 : q < 0 <;> simp [w1, w2] at s ⊢
        rw [if_neg hne]
        obtain ⟨g3, e3, hg3⟩ := tq_flip_spec (N := N) (by omega) g2
        refine ⟨g3, by rw [e3]; rfl, ?_⟩
        rw [hg3, hg2, eM]

def tq_incS (n a b : Nat) : Nat := if a = 2 ^ (16 * n - 1) ∨ b = 2 ^ (16 * n - 1) then 2 ^ (16 * n - 1) else (a + b) % 2 ^ (16 * n)
def tq_ansS (n S : Nat) : Int := if S = 2 ^ (16 * n - 1) then -2 ^ (n - 1) else tq_rI n (tq_sgnd n S)
def tq_negS (n S : Nat) : Nat := (2 ^ (16 * n) - S) % 2 ^ (16 * n)
theorem tq_c_setProduct {size : Int32} {n : Nat} (h : tq_Sz size n) {N : Nat} (hN : 4 * N = n) {p0 : Int32} (hp : p0.toInt = 8 * n - 16) (nt0 ng0 : Int32) (mg0 : Int64) (ex0 nt1 ng1 : Int32) (mg1 : Int64) (ex1 : Int32) (f : Nat → Int64) (x y : Int32) :
    ∃ a b c d a' b' c' d' g, f_setProduct size nt0 ng0 mg0 ex0 nt1 ng1 mg1 ex1 p0 N f x y = some (a, b, c, d, a', b', c', d', g) ∧ tq_sv g N = tq_prodS n (tq_pat n x) (tq_pat n y) := by
  unfold f_setProduct
  obtain ⟨a, b, c, d, e1, o1⟩ := tq_read_spec h x nt0 ng0 mg0 ex0
  obtain ⟨a', b', c', d', e2, o2⟩ := tq_read_spec h y nt1 ng1 mg1 ex1
  rw [e1, e2]
  simp only [tq_nm_e]
  obtain ⟨g, e3, hg⟩ := tq_sumProduct_spec h.2 hN hp f (tq_pat_rng (x := x) h.2) (tq_pat_rng (x := y) h.2) o1 o2
  rw [tq_bd_e e3]
  exact ⟨a, b, c, d, a', b', c', d', g, rfl, hg⟩
theorem tq_c_include {n N : Nat} (hn : n = 8 ∨ n = 16 ∨ n = 32) (hN : 4 * N = n) (f f1 : Nat → Int64) : ∃ g, f_include N f N f1 = some g ∧ tq_sv g N = tq_incS n (tq_sv f N) (tq_sv f1 N) := by
  obtain ⟨g, e, hg⟩ := tq_include_spec (N := N) (by omega) (by omega) f f1
  have eM : 64 * N = 16 * n := by omega
  rw [eM] at hg
  exact ⟨g, e, hg⟩
theorem tq_pat_one {size : Int32} {n : Nat} (h : tq_Sz size n) : tq_pat n (f_one size) = 2 ^ (n - 2) := by
  have hi := tq_one_spec h
  have hu := tq_u32_i (f_one size)
  rw [hi] at hu
  unfold tq_pat
  rcases h.2 with rfl | rfl | rfl <;> (rw [if_pos (by omega)]; omega)
theorem tq_c_fused {size : Int32} {n : Nat} (h : tq_Sz size n) {N : Nat} (hN : 4 * N = n) {p0 : Int32} (hp : p0.toInt = 8 * n - 16) (nt0 ng0 : Int32) (mg0 : Int64) (ex0 nt1 ng1 : Int32) (mg1 : Int64) (ex1 : Int32) (f2 f3 : Nat → Int64) (x y z : Int32) :
    ∃ r a b c d a' b' c' d' g2 g3, f_fused size nt0 ng0 mg0 ex0 nt1 ng1 mg1 ex1 p0 N f2 f3 x y z = some (r, a, b, c, d, a', b', c', d', g2, g3) ∧
      r.toInt = tq_ansS n (tq_incS n (tq_prodS n (tq_pat n x) (tq_pat n y)) (tq_prodS n (tq_pat n z) (2 ^ (n - 2)))) := by
  unfold f_fused
  obtain ⟨a, b, c, d, a', b', c', d', g, e1, h1⟩ := tq_c_setProduct h hN hp nt0 ng0 mg0 ex0 nt1 ng1 mg1 ex1 f2 x y
  rw [tq_bd_e e1]; simp only [tq_nm_e]
  obtain ⟨a2, b2, c2, d2, a2', b2', c2', d2', g2, e2, h2⟩ := tq_c_setProduct h hN hp a b c d a' b' c' d' f3 z (f_one size)
  rw [tq_bd_e e2]; simp only [tq_nm_e]
  obtain ⟨g3, e3, h3⟩ := tq_c_include h.2 hN g g2
  rw [tq_bd_e e3]
  obtain ⟨r, g4, e4, h4⟩ := tq_roundedSum_spec h hN hp g3 g2
  rw [tq_bd_e e4]; simp only [tq_nm_e]
  refine ⟨r, a2, b2, c2, d2, a2', b2', c2', d2', g3, g4, rfl, ?_⟩
  rw [h4, h3, h1, h2, tq_pat_one h]; rfl
theorem tq_c_add {size : Int32} {n : Nat} (h : tq_Sz size n) {N : Nat} (hN : 4 * N = n) {p0 : Int32} (hp : p0.toInt = 8 * n - 16) (nt0 ng0 : Int32) (mg0 : Int64) (ex0 nt1 ng1 : Int32) (mg1 : Int64) (ex1 : Int32) (f2 f3 : Nat → Int64) (x y : Int32) :
    ∃ r a b c d a' b' c' d' g2 g3, f_add size nt0 ng0 mg0 ex0 nt1 ng1 mg1 ex1 p0 N f2 f3 x y = some (r, a, b, c, d, a', b', c', d', g2, g3) ∧
      r.toInt = tq_ansS n (tq_incS n (tq_prodS n (tq_pat n x) (2 ^ (n - 2))) (tq_prodS n (tq_pat n y) (2 ^ (n - 2)))) := by
  unfold f_add
  obtain ⟨r, a, b, c, d, a', b', c', d', g2, g3, e, hr⟩ := tq_c_fused h hN hp nt0 ng0 mg0 ex0 nt1 ng1 mg1 ex1 f2 f3 x (f_one size) y
  rw [tq_bd_e e]; simp only [tq_nm_e]
  rw [tq_pat_one h] at hr
  exact ⟨r, a, b, c, d, a', b', c', d', g2, g3, rfl, hr⟩
theorem tq_c_subtract {size : Int32} {n : Nat} (h : tq_Sz size n) {N : Nat} (hN : 4 * N = n) {p0 : Int32} (hp : p0.toInt = 8 * n - 16) (nt0 ng0 : Int32) (mg0 : Int64) (ex0 nt1 ng1 : Int32) (mg1 : Int64) (ex1 : Int32) (f2 f3 : Nat → Int64) (x y : Int32) :
    ∃ r a b c d a' b' c' d' g2 g3, f_subtract size nt0 ng0 mg0 ex0 nt1 ng1 mg1 ex1 p0 N f2 f3 x y = some (r, a, b, c, d, a', b', c', d', g2, g3) ∧
      r.toInt = tq_ansS n (tq_incS n (tq_prodS n (tq_pat n x) (2 ^ (n - 2))) (tq_prodS n (tq_pat n (-y)) (2 ^ (n - 2)))) := by
  unfold f_subtract
  obtain ⟨r, a, b, c, d, a', b', c', d', g2, g3, e, hr⟩ := tq_c_fused h hN hp nt0 ng0 mg0 ex0 nt1 ng1 mg1 ex1 f2 f3 x (f_one size) (-y)
  rw [tq_bd_e e]; simp only [tq_nm_e]
  rw [tq_pat_one h] at hr
  exact ⟨r, a, b, c, d, a', b', c', d', g2, g3, rfl, hr⟩
theorem tq_c_multiply {size : Int32} {n : Nat} (h : tq_Sz size n) {N : Nat} (hN : 4 * N = n) {p0 : Int32} (hp : p0.toInt = 8 * n - 16) (nt0 ng0 : Int32) (mg0 : Int64) (ex0 nt1 ng1 : Int32) (mg1 : Int64) (ex1 : Int32) (f2 f3 : Nat → Int64) (x y : Int32) :
    ∃ r a b c d a' b' c' d' g2 g3, f_multiply size nt0 ng0 mg0 ex0 nt1 ng1 mg1 ex1 p0 N f2 f3 x y = some (r, a, b, c, d, a', b', c', d', g2, g3) ∧
      r.toInt = tq_ansS n (tq_incS n (tq_prodS n (tq_pat n x) (tq_pat n y)) (tq_prodS n 0 (2 ^ (n - 2)))) := by
  unfold f_multiply
  obtain ⟨r, a, b, c, d, a', b', c', d', g2, g3, e, hr⟩ := tq_c_fused h hN hp nt0 ng0 mg0 ex0 nt1 ng1 mg1 ex1 f2 f3 x y 0
  rw [tq_bd_e e]; simp only [tq_nm_e]
  have : tq_pat n 0 = 0 := by rcases h.2 with rfl | rfl | rfl <;> decide
  rw [this] at hr
  exact ⟨r, a, b, c, d, a', b', c', d', g2, g3, rfl, hr⟩
theorem tq_is0 : f_isSum 0 = 1 := by decide
theorem tq_is1 : f_isSum 1 = 1 := by decide
theorem tq_isN {q : Int32} (a : ¬ q = 0) (b : ¬ q = 1) : f_isSum q = 0 := by
  unfold f_isSum; rw [if_neg a, if_pos b]
theorem tq_c_clear {n N : Nat} (hn : n = 8 ∨ n = 16 ∨ n = 32) (hN : 4 * N = n) (p0 : Int32) (f0 f1 : Nat → Int64) (q : Int32) :
    ∃ g0 g1, f_clear p0 N f0 f1 q = some (f_isSum q, g0, g1) ∧ tq_sv g0 N = (if q = 0 then 0 else tq_sv f0 N) ∧ tq_sv g1 N = (if q = 1 then 0 else tq_sv f1 N) := by
  unfold f_clear
  by_cases a : q = 0
  · subst a
    obtain ⟨g, e, hg⟩ := tq_setZero_spec (N := N) (by omega) f0
    rw [tq_is0, if_pos (show ¬ (1 : Int32) = 0 by decide), if_pos (show (0 : Int32) = 0 from rfl), tq_bd_e e]
    exact ⟨g, f1, rfl, by rw [if_pos (show (0 : Int32) = 0 from rfl)]; exact tq_sv_zero hg, by rw [if_neg (show ¬ (0 : Int32) = 1 by decide)]⟩
  · by_cases b : q = 1
    · subst b
      obtain ⟨g, e, hg⟩ := tq_setZero_spec (N := N) (by omega) f1
      rw [tq_is1, if_pos (show ¬ (1 : Int32) = 0 by decide), if_neg (show ¬ (1 : Int32) = 0 by decide), if_pos (show (1 : Int32) = 1 from rfl), tq_bd_e e]
      exact ⟨f0, g, rfl, by rw [if_neg (show ¬ (1 : Int32) = 0 by decide)], by rw [if_pos (show (1 : Int32) = 1 from rfl)]; exact tq_sv_zero hg⟩
    · rw [tq_isN a b, if_neg (show ¬ ¬ (0 : Int32) = 0 by decide)]
      exact ⟨f0, f1, rfl, by rw [if_neg a], by rw [if_neg b]⟩
theorem tq_c_merge {n N : Nat} (hn : n = 8 ∨ n = 16 ∨ n = 32) (hN : 4 * N = n) (p0 : Int32) (f0 f1 : Nat → Int64) (q : Int32) :
    ∃ g0 g1, f_merge p0 N f0 f1 q = some (f_isSum q, g0, g1) ∧ tq_sv g0 N = (if q = 0 then tq_incS n (tq_sv f0 N) (tq_sv f1 N) else tq_sv f0 N) ∧ tq_sv g1 N = (if q = 1 then tq_incS n (tq_sv f1 N) (tq_sv f0 N) else tq_sv f1 N) := by
  unfold f_merge
  by_cases a : q = 0
  · subst a
    obtain ⟨g, e, hg⟩ := tq_c_include hn hN f0 f1
    rw [tq_is0, if_pos (show ¬ (1 : Int32) = 0 by decide), if_pos (show (0 : Int32) = 0 from rfl), tq_bd_e e]
    exact ⟨g, f1, rfl, by rw [if_pos (show (0 : Int32) = 0 from rfl)]; exact hg, by rw [if_neg (show ¬ (0 : Int32) = 1 by decide)]⟩
  · by_cases b : q = 1
    · subst b
      obtain ⟨g, e, hg⟩ := tq_c_include hn hN f1 f0
      rw [tq_is1, if_pos (show ¬ (1 : Int32) = 0 by decide), if_neg (show ¬ (1 : Int32) = 0 by decide), if_pos (show (1 : Int32) = 1 from rfl), tq_bd_e e]
      exact ⟨f0, g, rfl, by rw [if_neg (show ¬ (1 : Int32) = 0 by decide)], by rw [if_pos (show (1 : Int32) = 1 from rfl)]; exact hg⟩
    · rw [tq_isN a b, if_neg (show ¬ ¬ (0 : Int32) = 0 by decide)]
      exact ⟨f0, f1, rfl, by rw [if_neg a], by rw [if_neg b]⟩
theorem tq_c_flip {n N : Nat} (hn : n = 8 ∨ n = 16 ∨ n = 32) (hN : 4 * N = n) (f : Nat → Int64) : ∃ g, f_flip N f = some g ∧ tq_sv g N = tq_negS n (tq_sv f N) := by
  obtain ⟨g, e, hg⟩ := tq_flip_spec (N := N) (by omega) f
  have eM : 64 * N = 16 * n := by omega
  rw [eM] at hg
  exact ⟨g, e, hg⟩
theorem tq_c_negate {n N : Nat} (hn : n = 8 ∨ n = 16 ∨ n = 32) (hN : 4 * N = n) (p0 : Int32) (f0 f1 : Nat → Int64) (q : Int32) :
    ∃ g0 g1, f_negate p0 N f0 f1 q = some (f_isSum q, g0, g1) ∧ tq_sv g0 N = (if q = 0 then tq_negS n (tq_sv f0 N) else tq_sv f0 N) ∧ tq_sv g1 N = (if q = 1 then tq_negS n (tq_sv f1 N) else tq_sv f1 N) := by
  unfold f_negate
  by_cases a : q = 0
  · subst a
    obtain ⟨g, e, hg⟩ := tq_c_flip hn hN f0
    rw [tq_is0, if_pos (show ¬ (1 : Int32) = 0 by decide), if_pos (show (0 : Int32) = 0 from rfl), tq_bd_e e]
    exact ⟨g, f1, rfl, by rw [if_pos (show (0 : Int32) = 0 from rfl)]; exact hg, by rw [if_neg (show ¬ (0 : Int32) = 1 by decide)]⟩
  · by_cases b : q = 1
    · subst b
      obtain ⟨g, e, hg⟩ := tq_c_flip hn hN f1
      rw [tq_is1, if_pos (show ¬ (1 : Int32) = 0 by decide), if_neg (show ¬ (1 : Int32) = 0 by decide), if_pos (show (1 : Int32) = 1 from rfl), tq_bd_e e]
      exact ⟨f0, g, rfl, by rw [if_neg (show ¬ (1 : Int32) = 0 by decide)], by rw [if_pos (show (1 : Int32) = 1 from rfl)]; exact hg⟩
    · rw [tq_isN a b, if_neg (show ¬ ¬ (0 : Int32) = 0 by decide)]
      exact ⟨f0, f1, rfl, by rw [if_neg a], by rw [if_neg b]⟩
theorem tq_c_total {size : Int32} {n : Nat} (h : tq_Sz size n) {N : Nat} (hN : 4 * N = n) {p0 : Int32} (hp : p0.toInt = 8 * n - 16) (f0 f1 f3 : Nat → Int64) (q : Int32) :
    ∃ r g, f_total size p0 N f0 f1 q f3 = some (r, g) ∧ r.toInt = if q = 0 then tq_ansS n (tq_sv f0 N) else if q = 1 then tq_ansS n (tq_sv f1 N) else -2 ^ (n - 1) := by
  unfold f_total
  by_cases a : q = 0
  · subst a
    obtain ⟨r, g, e, hg⟩ := tq_roundedSum_spec h hN hp f0 f3
    rw [tq_is0, if_pos (show ¬ (1 : Int32) = 0 by decide), if_pos (show (0 : Int32) = 0 from rfl), tq_bd_e e]
    exact ⟨r, g, rfl, by rw [if_pos (show (0 : Int32) = 0 from rfl)]; exact hg⟩
  · by_cases b : q = 1
    · subst b
      obtain ⟨r, g, e, hg⟩ := tq_roundedSum_spec h hN hp f1 f3
      rw [tq_is1, if_pos (show ¬ (1 : Int32) = 0 by decide), if_neg (show ¬ (1 : Int32) = 0 by decide), if_pos (show (1 : Int32) = 1 from rfl), tq_bd_e e]
      exact ⟨r, g, rfl, by rw [if_neg (show ¬ (1 : Int32) = 0 by decide), if_pos (show (1 : Int32) = 1 from rfl)]; exact hg⟩
    · rw [tq_isN a b, if_neg (show ¬ ¬ (0 : Int32) = 0 by decide)]
      exact ⟨_, f3, rfl, by rw [if_neg a, if_neg b]; exact tq_notOf_spec h⟩
theorem tq_c_word {n N : Nat} (hn : n = 8 ∨ n = 16 ∨ n = 32) (hN : 4 * N = n) (p0 : Int32) (f0 f1 : Nat → Int64) (q k : Int32) :
    f_word p0 N f0 f1 q k = some (if (q = 0 ∨ q = 1) ∧ 0 ≤ k.toInt ∧ k.toInt < N then (if q = 0 then f0 k.toNatClampNeg else f1 k.toNatClampNeg) else 0) := by
  unfold f_word
  have c0 : ((0 : Int32)).toInt = 0 := rfl
  have hNI := tq_nI_i (n := N) (by omega)
  by_cases ab : q = 0 ∨ q = 1
  · have hs : f_isSum q = 1 := by rcases ab with rfl | rfl; exact tq_is0; exact tq_is1
    rw [hs, if_neg (show ¬ (1 : Int32) = 0 by decide)]
    by_cases k0 : k < 0
    · have kk := k0
      rw [Int32.lt_iff_toInt_lt, c0] at kk
      rw [if_pos k0, if_neg (fun z => by have := z.2.1; omega)]
    · rw [if_neg k0]
      by_cases kN : k < nI N
      · have kk := kN
        rw [Int32.lt_iff_toInt_lt, hNI] at kk
        have k2 := k0
        rw [Int32.lt_iff_toInt_lt, c0] at k2
        have hcl := tq_cl_i (x := k) (by omega)
        have hok : ¬ (k < 0 ∨ N ≤ k.toNatClampNeg) := by rintro (z | z); exact k0 z; omega
        rw [if_pos kN, if_neg hok, if_pos kN, if_neg hok, if_pos (show (q = 0 ∨ q = 1) ∧ 0 ≤ k.toInt ∧ k.toInt < N from ⟨ab, by omega, by omega⟩)]
        rcases ab with rfl | rfl
        · rfl
        · rfl
      · have kk := kN
        rw [Int32.lt_iff_toInt_lt, hNI] at kk
        rw [if_neg kN, if_neg kN, if_neg (show ¬ ((q = 0 ∨ q = 1) ∧ 0 ≤ k.toInt ∧ k.toInt < N) from fun z => by have := z.2.2; omega)]
        rcases ab with rfl | rfl
        · rfl
        · rfl
  · rw [tq_isN (fun z => ab (.inl z)) (fun z => ab (.inr z)), if_pos rfl, if_neg (fun z => ab z.1)]
theorem tq_c_collect {size : Int32} {n : Nat} (h : tq_Sz size n) {N : Nat} (hN : 4 * N = n) {p0 : Int32} (hp : p0.toInt = 8 * n - 16) (nt0 ng0 : Int32) (mg0 : Int64) (ex0 nt1 ng1 : Int32) (mg1 : Int64) (ex1 : Int32) (f0 f1 f3 : Nat → Int64) (q x y mi : Int32) :
    ∃ g0 g1 g3 a b c d a' b' c' d', f_collect size nt0 ng0 mg0 ex0 nt1 ng1 mg1 ex1 p0 N f0 f1 q f3 x y mi = some (f_isSum q, g0, g1, g3, a, b, c, d, a', b', c', d') ∧
      tq_sv g0 N = (if q = 0 then tq_incS n (tq_sv f0 N) (if mi = 0 then tq_prodS n (tq_pat n x) (tq_pat n y) else tq_negS n (tq_prodS n (tq_pat n x) (tq_pat n y))) else tq_sv f0 N) ∧
      tq_sv g1 N = (if q = 1 then tq_incS n (tq_sv f1 N) (if mi = 0 then tq_prodS n (tq_pat n x) (tq_pat n y) else tq_negS n (tq_prodS n (tq_pat n x) (tq_pat n y))) else tq_sv f1 N) := by
  unfold f_collect
  by_cases ab : q = 0 ∨ q = 1
  · have hs : f_isSum q = 1 := by rcases ab with rfl | rfl; exact tq_is0; exact tq_is1
    rw [hs, if_pos (show ¬ (1 : Int32) = 0 by decide)]
    obtain ⟨a, b, c, d, a', b', c', d', g, e1, h1⟩ := tq_c_setProduct h hN hp nt0 ng0 mg0 ex0 nt1 ng1 mg1 ex1 f3 x y
    rw [tq_bd_e e1]; simp only [tq_nm_e]
    have tail : ∀ g : Nat → Int64, ∃ g0 g1, f_collect_b31 N q f0 f1 g a b c d a' b' c' d' = some (1, g0, g1, g, a, b, c, d, a', b', c', d') ∧ tq_sv g0 N = (if q = 0 then tq_incS n (tq_sv f0 N) (tq_sv g N) else tq_sv f0 N) ∧ tq_sv g1 N = (if q = 1 then tq_incS n (tq_sv f1 N) (tq_sv g N) else tq_sv f1 N) := by
      intro g
      unfold f_collect_b31
      rcases ab with rfl | rfl
      · obtain ⟨g2, e2, h2⟩ := tq_c_include h.2 hN f0 g
        rw [if_pos (show (0 : Int32) = 0 from rfl), tq_bd_e e2]
        exact ⟨g2, f1, rfl, by rw [if_pos (show (0 : Int32) = 0 from rfl)]; exact h2, by rw [if_neg (show ¬ (0 : Int32) = 1 by decide)]⟩
      · obtain ⟨g2, e2, h2⟩ := tq_c_include h.2 hN f1 g
        rw [if_neg (show ¬ (1 : Int32) = 0 by decide), if_pos (show (1 : Int32) = 1 from rfl), tq_bd_e e2]
        exact ⟨f0, g2, rfl, by rw [if_neg (show ¬ (1 : Int32) = 0 by decide)], by rw [if_pos (show (1 : Int32) = 1 from rfl)]; exact h2⟩
    by_cases m : mi = 0
    · rw [if_pos m, if_pos m, ← h1]
      obtain ⟨g0, g1, e, q1, q2⟩ := tail g
      exact ⟨g0, g1, g, a, b, c, d, a', b', c', d', e, q1, q2⟩
    · rw [if_neg m, if_neg m, ← h1]
      obtain ⟨g', e', h'⟩ := tq_c_flip h.2 hN g
      rw [tq_bd_e e', ← h']
      obtain ⟨g0, g1, e, q1, q2⟩ := tail g'
      exact ⟨g0, g1, g', a, b, c, d, a', b', c', d', e, q1, q2⟩
  · rw [tq_isN (fun z => ab (.inl z)) (fun z => ab (.inr z)), if_neg (show ¬ ¬ (0 : Int32) = 0 by decide)]
    exact ⟨f0, f1, f3, nt0, ng0, mg0, ex0, nt1, ng1, mg1, ex1, rfl, by rw [if_neg (fun z => ab (.inl z))], by rw [if_neg (fun z => ab (.inr z))]⟩
end
section
def tq_rM (n M : Nat) (e : Int) (mo : Bool) : Nat := if M = 0 then 0 else tq_pp n (e + Nat.log2 M) (M * 2 ^ (63 - Nat.log2 M)) mo
def tq_sg (ng : Bool) (v : Nat) : Int := if ng then -(v : Int) else v
theorem tq_log2_bd {M : Nat} (h : M ≠ 0) : 2 ^ Nat.log2 M ≤ M ∧ M < 2 ^ (Nat.log2 M + 1) := ⟨Nat.log2_self_le h, Nat.lt_log2_self⟩
theorem tq_c_rounded {size : Int32} {n : Nat} (h : tq_Sz size n) {neg ex : Int32} {e : Int} (he : ex.toInt = e) (hb : -2 ^ 30 ≤ e ∧ e < 2 ^ 30) {mg : Int64} {M : Nat} (hM : tq_u64 mg = M) {more : Int32} {mo ng : Bool} (hm : more = if mo then 1 else 0) (hn : neg = if ng then 1 else 0) :
    (f_rounded size neg mg ex more).toInt = tq_sg ng (tq_rM n M e mo) := by
  unfold tq_sg tq_rM
  by_cases z : M = 0
  · have : mg = 0 := tq_u64_inj (by rw [hM, z]; rfl)
    rw [this, tq_rounded_zero, if_pos z]; cases ng <;> rfl
  · rw [if_neg z]; exact tq_rounded_spec h he hb hM (tq_log2_bd z) hm hn
theorem tq_ng_b {n : Nat} {p : Int} {nt ng : Int32} {mg : Int64} {ex : Int32} (h : tq_Op n p nt ng mg ex) : ng = if decide (p < 0) then 1 else 0 := by
  rw [h.2.1]; simp
theorem tq_c_fromLong {size : Int32} {n : Nat} (h : tq_Sz size n) (v : Int64) : (f_fromLong size v).toInt = if v.toInt = -2 ^ 63 then -2 ^ (n - 1) else tq_sg (decide (v.toInt < 0)) (tq_rM n v.toInt.natAbs 0 false) := by
  unfold f_fromLong f_fromLong_b31
  have cm : ((-9223372036854775808 : Int64)).toInt = -2 ^ 63 := by decide
  have c0 : ((0 : Int64)).toInt = 0 := rfl
  have hr := tq_i64_rng v
  by_cases q : v.toInt = -2 ^ 63
  · rw [if_pos q, if_neg (by simp only [tq_cmp_eq]; intro w; exact w (Int64.toInt.inj (by rw [q, cm])))]
    exact tq_notOf_spec h
  · rw [if_neg q, if_pos (by simp only [tq_cmp_eq]; intro w; exact q (by rw [w, cm]))]
    have hab := tq_labs_spec (x := v) (by omega)
    by_cases w : 0 ≤ lg_cmp v 0
    · rw [if_pos w]; rw [tq_cmp_ge, c0] at w
      exact tq_c_rounded h (e := 0) rfl (by omega) (tq_u64_of_i hab) (mo := false) rfl (by rw [decide_eq_false (by omega)]; rfl)
    · rw [if_neg w]; rw [tq_cmp_ge, c0] at w
      exact tq_c_rounded h (e := 0) rfl (by omega) (tq_u64_of_i hab) (mo := false) rfl (by rw [decide_eq_true (by omega)]; rfl)
theorem tq_nt_b {n : Nat} {p : Int} {nt ng : Int32} {mg : Int64} {ex : Int32} (h : tq_Op n p nt ng mg ex) : (nt = 0) ↔ p ≠ -2 ^ (n - 1) := by
  have := h.1
  by_cases q : p = -2 ^ (n - 1)
  · rw [if_pos q] at this; rw [this]; constructor
    · intro w; exact absurd w (by decide)
    · intro w; exact absurd q w
  · rw [if_neg q] at this; rw [this]; exact ⟨fun _ => q, fun _ => rfl⟩
/-- the parts that reading gives: p = ± m * 2^e -/
def tq_Parts (n : Nat) (p : Int) (m : Nat) (e : Int) : Prop :=
  m < 2 ^ 28 ∧ -(4 * (n : Int) - 8) ≤ e ∧ e ≤ 4 * (n : Int) - 8 ∧ m * 2 ^ (e + (4 * (n : Int) - 8)).toNat = tq_mag n p.natAbs ∧ (p ≠ 0 → 1 ≤ m) ∧ (p = 0 → m = 0)
theorem tq_op_parts {n : Nat} {p : Int} {nt ng : Int32} {mg : Int64} {ex : Int32} (hn : n = 8 ∨ n = 16 ∨ n = 32) (hp : -2 ^ (n - 1) ≤ p ∧ p < 2 ^ (n - 1)) (hq : p ≠ -2 ^ (n - 1)) (h : tq_Op n p nt ng mg ex) : ∃ m : Nat, mg.toInt = m ∧ tq_Parts n p m ex.toInt := by
  obtain ⟨m, a1, a2, a3, a4, a5, a6, a7⟩ := tq_op_mag hn (by omega) h
  refine ⟨m, a1, a2, a3, a4, a5, a7, fun z => ?_⟩
  have := (h.2.2.1 (.inl z)).1
  rw [this] at a1
  have c0 : ((0 : Int64)).toInt = 0 := rfl
  omega
theorem tq_c_convert {size : Int32} {n : Nat} (h : tq_Sz size n) (nt0 ng0 : Int32) (mg0 : Int64) (ex0 : Int32) (x w : Int32) {n' : Nat} (hw : n' = if w = 0 then 8 else if w = 1 then 16 else 32) :
    ∃ r a b c d, f_convert size nt0 ng0 mg0 ex0 x w = (r, a, b, c, d) ∧
      (tq_pat n x = -2 ^ (n - 1) → r.toInt = -2 ^ (n' - 1)) ∧ (tq_pat n x ≠ -2 ^ (n - 1) → ∃ m e, tq_Parts n (tq_pat n x) m e ∧ r.toInt = tq_sg (decide (tq_pat n x < 0)) (tq_rM n' m e false)) := by
  unfold f_convert
  have hs := tq_sizeOfWidth_spec w
  rw [← hw] at hs
  generalize f_sizeOfWidth w = sz at *
  obtain ⟨a, b, c, d, e1, o1⟩ := tq_read_spec h x nt0 ng0 mg0 ex0
  simp only [tq_nm_e]
  rw [e1]
  by_cases q : tq_pat n x = -2 ^ (n - 1)
  · have : ¬ a = 0 := fun w => (tq_nt_b o1).1 w q
    refine ⟨f_notOf sz, a, b, c, d, if_neg this, fun _ => tq_notOf_spec hs, fun w => absurd q w⟩
  · obtain ⟨m, hm, hp⟩ := tq_op_parts h.2 (tq_pat_rng h.2) q o1
    refine ⟨f_rounded sz b c d 0, a, b, c, d, if_pos ((tq_nt_b o1).2 q), fun w => absurd w q, fun _ => ⟨m, d.toInt, hp, ?_⟩⟩
    have := h.2
    exact tq_c_rounded hs rfl (by have := hp.2.1; have := hp.2.2.1; omega) (tq_u64_of_i hm) (mo := false) rfl (tq_ng_b o1)
theorem tq_c_next {size : Int32} {n : Nat} (h : tq_Sz size n) (p : Int32) : (f_next size p).toInt = tq_pat n (p + 1) := tq_patternOf_spec h _
theorem tq_c_compare {size : Int32} {n : Nat} (h : tq_Sz size n) (x y : Int32) : (f_compare size x y).toInt = if tq_pat n x = tq_pat n y then 0 else if tq_pat n x < tq_pat n y then -1 else 1 := by
  unfold f_compare
  simp only [tq_nm_e]
  have h1 := tq_patternOf_spec h x
  have h2 := tq_patternOf_spec h y
  rw [← h1, ← h2]
  generalize f_patternOf x size = a at *
  generalize f_patternOf y size = b at *
  by_cases q : a = b
  · rw [if_neg (by simpa using q), if_pos (by rw [q])]; rfl
  · have q2 : ¬ a.toInt = b.toInt := fun w => q (Int32.toInt.inj w)
    rw [if_pos q, if_neg q2]
    by_cases w : b ≤ a
    · rw [if_pos w]; rw [Int32.le_iff_toInt_le] at w
      rw [if_neg (by omega)]; rfl
    · rw [if_neg w]; rw [Int32.le_iff_toInt_le] at w
      rw [if_pos (by omega)]; rfl
theorem tq_c_whole {size : Int32} {n : Nat} (h : tq_Sz size n) (nt0 ng0 : Int32) (mg0 : Int64) (ex0 : Int32) (x : Int32) :
    ∃ r a b c d, f_whole size nt0 ng0 mg0 ex0 x = (r, a, b, c, d) ∧
      (tq_pat n x = -2 ^ (n - 1) → r.toInt = -2 ^ (n - 1)) ∧ (tq_pat n x ≠ -2 ^ (n - 1) → ∃ m e, tq_Parts n (tq_pat n x) m e ∧ r.toInt = if 0 ≤ e then tq_pat n x else tq_sg (decide (tq_pat n x < 0)) (tq_rM n (tq_rnd m (-e).toNat false) 0 false)) := by
  unfold f_whole f_whole_b32
  obtain ⟨a, b, c, d, e1, o1⟩ := tq_read_spec h x nt0 ng0 mg0 ex0
  simp only [tq_nm_e]
  rw [e1]
  have c0 : ((0 : Int32)).toInt = 0 := rfl
  by_cases q : tq_pat n x = -2 ^ (n - 1)
  · have : ¬ a = 0 := fun w => (tq_nt_b o1).1 w q
    refine ⟨f_patternOf x size, a, b, c, d, if_pos this, fun _ => by rw [tq_patternOf_spec h, q], fun w => absurd q w⟩
  · obtain ⟨m, hm, hp⟩ := tq_op_parts h.2 (tq_pat_rng h.2) q o1
    have ha := (tq_nt_b o1).2 q
    have hh := h.2
    by_cases w : d < 0
    · have w2 := w
      rw [Int32.lt_iff_toInt_lt, c0] at w2
      refine ⟨f_rounded size b (f_nearestWhole a b c d) 0 0, a, b, c, d, ?_, fun w => absurd w q, fun _ => ⟨m, d.toInt, hp, ?_⟩⟩
      · dsimp only
        rw [if_neg (by simpa using ha), if_pos w]
      · rw [if_neg (by omega)]
        have hnr := tq_nearest_spec (mg := c) (ex := d) (d := (-d.toInt).toNat) a b hm (by have := hp.1; omega) (by omega) (by omega) (by have := hp.2.1; omega)
        exact tq_c_rounded h (e := 0) rfl (by omega) (tq_u64_of_i hnr) (mo := false) rfl (tq_ng_b o1)
    · have w2 := w
      rw [Int32.lt_iff_toInt_lt, c0] at w2
      refine ⟨f_patternOf x size, a, b, c, d, ?_, fun w => absurd w q, fun _ => ⟨m, d.toInt, hp, ?_⟩⟩
      · dsimp only
        rw [if_neg (by simpa using ha), if_neg w]
      · rw [if_pos (by omega), tq_patternOf_spec h]
theorem tq_c_toLong {size : Int32} {n : Nat} (h : tq_Sz size n) (nt0 ng0 : Int32) (mg0 : Int64) (ex0 : Int32) (x : Int32) :
    ∃ r a b c d, f_toLong size nt0 ng0 mg0 ex0 x = (r, a, b, c, d) ∧
      (tq_pat n x = -2 ^ (n - 1) → r.toInt = -2 ^ 63) ∧ (tq_pat n x ≠ -2 ^ (n - 1) → ∃ m e, tq_Parts n (tq_pat n x) m e ∧ r.toInt = if 0 ≤ e then (if m * 2 ^ e.toNat < 2 ^ 63 then tq_sg (decide (tq_pat n x < 0)) (m * 2 ^ e.toNat) else -2 ^ 63) else tq_sg (decide (tq_pat n x < 0)) (tq_rnd m (-e).toNat false)) := by
  unfold f_toLong
  obtain ⟨a, b, c, d, e1, o1⟩ := tq_read_spec h x nt0 ng0 mg0 ex0
  simp only [tq_nm_e]
  rw [e1]
  have c0 : ((0 : Int32)).toInt = 0 := rfl
  have cm : ((-9223372036854775808 : Int64)).toInt = -2 ^ 63 := by decide
  dsimp only
  unfold f_toLong_b37
  by_cases q : tq_pat n x = -2 ^ (n - 1)
  · have : ¬ a = 0 := fun w => (tq_nt_b o1).1 w q
    rw [if_pos this, if_pos this]
    refine ⟨-9223372036854775808, a, b, c, d, ite_self _, fun _ => cm, fun w => absurd q w⟩
  · obtain ⟨m, hm, hp⟩ := tq_op_parts h.2 (tq_pat_rng h.2) q o1
    have ha := (tq_nt_b o1).2 q
    have hh := h.2
    rw [if_neg (show ¬ ¬ a = 0 from fun w => w ha), if_neg (show ¬ ¬ a = 0 from fun w => w ha), if_pos (show (0 : Int32) = 0 from rfl), if_neg (show ¬ (1 : Int32) = 0 by decide), tq_nm_e]
    have hb := tq_ng_b o1
    have sgn : ∀ (y : Int64) (Y : Nat), y.toInt = Y → ∃ r, (if b = 0 then (y, a, b, c, d) else (-y, a, b, c, d)) = (r, a, b, c, d) ∧ r.toInt = tq_sg (decide (tq_pat n x < 0)) Y := by
      intro y Y hy
      unfold tq_sg
      by_cases s : tq_pat n x < 0
      · rw [decide_eq_true s] at hb ⊢
        rw [if_pos rfl] at hb
        refine ⟨-y, if_neg (by rw [hb]; decide), ?_⟩
        rw [tq_i64_neg (by rw [hy]; omega), hy, if_pos rfl]
      · rw [decide_eq_false s] at hb ⊢
        rw [if_neg (by decide)] at hb
        refine ⟨y, if_pos hb, ?_⟩
        rw [hy, if_neg (by decide)]
    -- is it too large?
    have hlz : (d < f_lnlz c) ↔ (d.toInt < 0 ∨ m * 2 ^ d.toInt.toNat < 2 ^ 63) := by
      rw [Int32.lt_iff_toInt_lt]
      by_cases mz : m = 0
      · subst mz
        have : c = 0 := Int64.toInt.inj hm
        rw [this, tq_lnlz_zero]
        have c64 : ((64 : Int32)).toInt = 64 := rfl
        rw [c64, Nat.zero_mul]
        have p0 : tq_pat n x = 0 := by
          by_cases w : tq_pat n x = 0
          · exact w
          · have := hp.2.2.2.2.1 w; omega
        have := (o1.2.2.1 (.inl p0)).2
        rw [this, c0]; simp
      · have nz : c ≠ 0 := fun w => by rw [w] at hm; have : ((0 : Int64)).toInt = 0 := rfl; omega
        obtain ⟨t, t1, t2, t3, t4⟩ := tq_lnlz_spec nz
        rw [tq_u64_of_i hm] at t3 t4
        rw [t2]
        rcases Int.lt_or_le d.toInt 0 with w | w
        · constructor
          · intro _; exact .inl w
          · intro _; omega
        · obtain ⟨k, hk⟩ : ∃ k : Nat, d.toInt = k := ⟨d.toInt.toNat, by omega⟩
          rw [hk, Int.toNat_natCast]
          constructor
          · intro z; right
            have h1 := Nat.mul_lt_mul_of_pos_right t4 (Nat.two_pow_pos k)
            rw [← Nat.pow_add] at h1
            have h2 : 2 ^ (t + 1 + k) ≤ 2 ^ 63 := Nat.pow_le_pow_right (by omega) (by omega)
            omega
          · rintro (z | z)
            · omega
            · have h1 := Nat.mul_le_mul_right (2 ^ k) t3
              rw [← Nat.pow_add] at h1
              have : t + k < 63 := by
                rcases Nat.lt_or_ge (t + k) 63 with y | y
                · exact y
                · have := Nat.pow_le_pow_right (n := 2) (by omega) y; omega
              omega
    by_cases w : d < f_lnlz c
    · rw [if_pos w]; rw [hlz] at w
      rcases Int.lt_or_le d.toInt 0 with y | y
      · have hnr := tq_nearest_spec (mg := c) (ex := d) (d := (-d.toInt).toNat) a b hm (by have := hp.1; omega) (by omega) (by omega) (by have := hp.2.1; omega)
        obtain ⟨r, er, hr⟩ := sgn _ _ hnr
        exact ⟨r, a, b, c, d, er, fun z => absurd z q, fun _ => ⟨m, d.toInt, hp, by rw [if_neg (by omega)]; exact hr⟩⟩
      · have w := w.resolve_left (by omega)
        have hv : (f_nearestWhole a b c d).toInt = ((m * 2 ^ d.toInt.toNat : Nat) : Int) := by
          unfold f_nearestWhole
          rw [if_neg (by rw [Int32.lt_iff_toInt_lt, c0]; omega)]
          have k63 : m = 0 ∨ d.toInt.toNat < 64 := by
            rcases Nat.eq_zero_or_pos m with z | z
            · exact .inl z
            · right
              rcases Nat.lt_or_ge d.toInt.toNat 64 with y | y
              · exact y
              · have := Nat.pow_le_pow_right (n := 2) (by omega) y
                have := Nat.mul_le_mul_right (2 ^ d.toInt.toNat) z
                omega
          rcases k63 with z | z
          · subst z
            have : c = 0 := Int64.toInt.inj hm
            rw [this, Int64.zero_shiftLeft, Nat.zero_mul]; rfl
          · apply tq_i64_of_u
            · rw [tq_u64_shl (k := d.toInt.toNat) (by omega) z, tq_u64_of_i hm, Nat.mod_eq_of_lt (by omega)]
            · exact w
        obtain ⟨r, er, hr⟩ := sgn _ _ hv
        exact ⟨r, a, b, c, d, er, fun z => absurd z q, fun _ => ⟨m, d.toInt, hp, by rw [if_pos y, if_pos w]; exact hr⟩⟩
    · rw [if_neg w]; rw [hlz] at w
      refine ⟨-9223372036854775808, a, b, c, d, rfl, fun z => absurd z q, fun _ => ⟨m, d.toInt, hp, ?_⟩⟩
      rw [if_pos (by omega), if_neg (by omega)]; exact cm

theorem tq_lnlz_log {x : Int64} {m : Nat} (hm : x.toInt = m) (hz : m ≠ 0) : (f_lnlz x).toInt = 63 - (Nat.log2 m : Int) := by
  have nz : x ≠ 0 := fun w => by rw [w] at hm; have : ((0 : Int64)).toInt = 0 := rfl; omega
  obtain ⟨t, t1, t2, t3, t4⟩ := tq_lnlz_spec nz
  rw [tq_u64_of_i hm] at t3 t4
  rw [t2, tq_log2_eq t3 t4]
theorem tq_log2_lt28 {m k : Nat} (h : m < 2 ^ k) (hz : m ≠ 0) : Nat.log2 m < k := (Nat.log2_lt hz).2 h
/-- the dividend, its leading bit at 62 -/
def tq_dvd62 (m : Nat) : Nat := m * 2 ^ (62 - Nat.log2 m)
theorem tq_c_divide {size : Int32} {n : Nat} (h : tq_Sz size n) (nt0 ng0 : Int32) (mg0 : Int64) (ex0 nt1 ng1 : Int32) (mg1 : Int64) (ex1 : Int32) (x y : Int32) :
    ∃ r a b c d a' b' c' d', f_divide size nt0 ng0 mg0 ex0 nt1 ng1 mg1 ex1 x y = some (r, a, b, c, d, a', b', c', d') ∧
      ((tq_pat n x = -2 ^ (n - 1) ∨ tq_pat n y = -2 ^ (n - 1) ∨ tq_pat n y = 0) → r.toInt = -2 ^ (n - 1)) ∧
      (tq_pat n x ≠ -2 ^ (n - 1) → tq_pat n y ≠ -2 ^ (n - 1) → tq_pat n y ≠ 0 → ∃ m e m' e', tq_Parts n (tq_pat n x) m e ∧ tq_Parts n (tq_pat n y) m' e' ∧
        r.toInt = tq_sg (decide ((tq_pat n x < 0) ≠ (tq_pat n y < 0))) (if m = 0 then 0 else tq_rM n (tq_dvd62 m / m') (e - (62 - Nat.log2 m : Nat) - e') (decide (tq_dvd62 m / m' * m' ≠ tq_dvd62 m)))) := by
  unfold f_divide
  obtain ⟨a, b, c, d, e1, o1⟩ := tq_read_spec h x nt0 ng0 mg0 ex0
  obtain ⟨a', b', c', d', e2, o2⟩ := tq_read_spec h y nt1 ng1 mg1 ex1
  simp only [tq_nm_e]
  rw [e1, e2]
  dsimp only
  unfold f_divide_b56
  have c1 : ((1 : Int32)).toInt = 1 := rfl
  have z0 : ((0 : Int64)).toInt = 0 := rfl
  by_cases q : tq_pat n x = -2 ^ (n - 1)
  · have : ¬ a = 0 := fun w => (tq_nt_b o1).1 w q
    rw [if_pos this]
    exact ⟨_, _, _, _, _, _, _, _, _, rfl, fun _ => tq_notOf_spec h, fun w => absurd q w⟩
  · have ha := (tq_nt_b o1).2 q
    rw [if_neg (show ¬ ¬ a = 0 from fun w => w ha)]
    by_cases q' : tq_pat n y = -2 ^ (n - 1)
    · have : ¬ a' = 0 := fun w => (tq_nt_b o2).1 w q'
      rw [if_pos this]
      exact ⟨_, _, _, _, _, _, _, _, _, rfl, fun _ => tq_notOf_spec h, fun _ w => absurd q' w⟩
    · have ha' := (tq_nt_b o2).2 q'
      rw [if_neg (show ¬ ¬ a' = 0 from fun w => w ha')]
      obtain ⟨m, hm, hp⟩ := tq_op_parts h.2 (tq_pat_rng h.2) q o1
      obtain ⟨m', hm', hp'⟩ := tq_op_parts h.2 (tq_pat_rng h.2) q' o2
      have hh := h.2
      by_cases y0 : tq_pat n y = 0
      · have m0 := hp'.2.2.2.2.2 y0
        have : c' = 0 := Int64.toInt.inj (by rw [hm', m0]; rfl)
        rw [if_neg (show ¬ ¬ lg_cmp c' 0 = 0 from fun w => w (tq_cmp_eq.2 this))]
        exact ⟨_, _, _, _, _, _, _, _, _, rfl, fun _ => tq_notOf_spec h, fun _ _ w => absurd y0 w⟩
      · have m1 := hp'.2.2.2.2.1 y0
        have cz : c' ≠ 0 := fun w => by rw [w, z0] at hm'; omega
        rw [if_pos (show ¬ lg_cmp c' 0 = 0 from fun w => cz (tq_cmp_eq.1 w)), if_neg cz]
        -- the dividend
        have hdv : ∃ sh : Nat, sh < 64 ∧ (m ≠ 0 → sh = 62 - Nat.log2 m) ∧ (f_lnlz c - 1).toInt = sh ∧ m * 2 ^ sh < 2 ^ 63 := by
          by_cases mz : m = 0
          · have : c = 0 := Int64.toInt.inj (by rw [hm, mz]; rfl)
            refine ⟨63, by omega, fun w => absurd mz w, by rw [this, tq_lnlz_zero]; rfl, by rw [mz]; omega⟩
          · have hl := tq_lnlz_log hm mz
            have h28 := tq_log2_lt28 hp.1 mz
            refine ⟨62 - Nat.log2 m, by omega, fun _ => rfl, by rw [tq_i32_sub (by rw [hl, c1]; omega), hl, c1]; omega, ?_⟩
            have := Nat.mul_lt_mul_of_pos_right (tq_log2_bd mz).2 (Nat.two_pow_pos (62 - Nat.log2 m))
            rw [← Nat.pow_add, show Nat.log2 m + 1 + (62 - Nat.log2 m) = 63 by omega] at this
            exact this
        obtain ⟨sh, s1, s2, s3, s4⟩ := hdv
        have hsh : (c <<< ((f_lnlz c - 1).toInt64 &&& 63)).toInt = ((m * 2 ^ sh : Nat) : Int) := by
          apply tq_i64_of_u
          · rw [tq_u64_shl s3 s1, tq_u64_of_i hm, Nat.mod_eq_of_lt (by omega)]
          · exact s4
        generalize f_lnlz c - 1 = shv at *
        generalize c <<< (shv.toInt64 &&& 63) = dv at *
        have hq : (dv / c').toInt = ((m * 2 ^ sh / m' : Nat) : Int) := by
          have nm1 : c' ≠ -1 := fun w => by rw [w] at hm'; have : ((-1 : Int64)).toInt = -1 := rfl; omega
          rw [Int64.toInt_div_of_ne_right _ _ nm1, hsh, hm', ← Int.ofNat_tdiv]
        have hmul : (dv / c' * c').toInt = ((m * 2 ^ sh / m' * m' : Nat) : Int) := by
          have hle := Nat.div_mul_le_self (m * 2 ^ sh) m'
          have e : (dv / c').toInt * c'.toInt = ((m * 2 ^ sh / m' * m' : Nat) : Int) := by rw [hq, hm']; norm_cast
          rw [tq_i64_mul (by rw [e]; omega), e]
        have hex : ((d - shv) - d').toInt = d.toInt - sh - d'.toInt := by
          have w1 := hp.2.1; have w2 := hp.2.2.1; have w3 := hp'.2.1; have w4 := hp'.2.2.1
          have : (d - shv).toInt = d.toInt - sh := by rw [tq_i32_sub (by rw [s3]; omega), s3]
          rw [tq_i32_sub (by rw [this]; omega), this]
        have ql : m * 2 ^ sh / m' < 2 ^ 63 := Nat.lt_of_le_of_lt (Nat.div_le_self _ _) s4
        have hw1 := hp.2.1; have hw2 := hp.2.2.1; have hw3 := hp'.2.1; have hw4 := hp'.2.2.1
        have fin : ∀ (mo : Bool), (mo = decide (m * 2 ^ sh / m' * m' ≠ m * 2 ^ sh)) → ∃ r, f_divide_b121 size shv (dv / c') (if mo then 1 else 0) a b c d a' b' c' d' = some (r, a, b, c, d, a', b', c', d') ∧ r.toInt = tq_sg (decide ((tq_pat n x < 0) ≠ (tq_pat n y < 0))) (tq_rM n (m * 2 ^ sh / m') (d.toInt - sh - d'.toInt) mo) := by
          intro mo hmo
          unfold f_divide_b121 f_divide_b168
          rw [tq_nm_e]
          have hb := tq_ng_b o1
          have hb' := tq_ng_b o2
          by_cases s : (tq_pat n x < 0) = (tq_pat n y < 0)
          · have : b = b' := by rw [hb, hb']; simp only [s]
            rw [if_pos this]
            exact ⟨_, rfl, tq_c_rounded h hex (by omega) (tq_u64_of_i hq) rfl (by rw [decide_eq_false (by simpa using s)]; rfl)⟩
          · have : ¬ b = b' := by
              rw [hb, hb']
              by_cases w1 : tq_pat n x < 0 <;> by_cases w2 : tq_pat n y < 0 <;> simp [w1, w2] at s ⊢
            rw [if_neg this]
            exact ⟨_, rfl, tq_c_rounded h hex (by omega) (tq_u64_of_i hq) rfl (by rw [decide_eq_true s]; rfl)⟩
        have fin2 : ∃ r, (if lg_cmp (dv / c' * c') dv = 0 then f_divide_b121 size shv (dv / c') 0 a b c d a' b' c' d' else f_divide_b121 size shv (dv / c') 1 a b c d a' b' c' d') = some (r, a, b, c, d, a', b', c', d') ∧ r.toInt = tq_sg (decide ((tq_pat n x < 0) ≠ (tq_pat n y < 0))) (tq_rM n (m * 2 ^ sh / m') (d.toInt - sh - d'.toInt) (decide (m * 2 ^ sh / m' * m' ≠ m * 2 ^ sh))) := by
          by_cases w : lg_cmp (dv / c' * c') dv = 0
          · rw [if_pos w]; rw [tq_cmp_eq, ← Int64.toInt_inj, hmul, hsh] at w
            have w : m * 2 ^ sh / m' * m' = m * 2 ^ sh := by omega
            have em : decide (m * 2 ^ sh / m' * m' ≠ m * 2 ^ sh) = false := decide_eq_false (fun z => z w)
            have := fin false em.symm
            rw [em]
            exact this
          · rw [if_neg w]; rw [tq_cmp_eq, ← Int64.toInt_inj, hmul, hsh] at w
            have w : m * 2 ^ sh / m' * m' ≠ m * 2 ^ sh := by omega
            have em : decide (m * 2 ^ sh / m' * m' ≠ m * 2 ^ sh) = true := decide_eq_true w
            have := fin true em.symm
            rw [em]
            exact this
        obtain ⟨r, er, hr⟩ := fin2
        refine ⟨r, a, b, c, d, a', b', c', d', er, fun w => absurd w (by rintro (z | z | z); exact q z; exact q' z; exact y0 z), fun _ _ _ => ⟨m, d.toInt, m', d'.toInt, hp, hp', ?_⟩⟩
        rw [hr]
        by_cases mz : m = 0
        · rw [if_pos mz, mz, Nat.zero_mul, Nat.zero_div]
          have : tq_rM n 0 (d.toInt - sh - d'.toInt) (decide (0 * m' ≠ 0)) = 0 := by unfold tq_rM; rw [if_pos rfl]
          rw [this]
        · rw [if_neg mz, s2 mz]; rfl
/-- the radicand's shift: 61 or 62 bits, and an even exponent -/
def tq_rsh (m : Nat) (e : Int) : Nat := if (e - (61 - (Nat.log2 m : Int))) % 2 = 0 then 61 - Nat.log2 m else 60 - Nat.log2 m
theorem tq_i32_and1 {x : Int32} : (x &&& 1 = 0) ↔ x.toInt % 2 = 0 := by
  have e : tq_u32 (x &&& 1) = tq_u32 x % 2 := by
    rw [tq_u32_and]; have : tq_u32 (1 : Int32) = 1 := rfl
    rw [this, Nat.and_one_is_mod]
  have hu := tq_u32_i x
  constructor
  · intro q; rw [q] at e; have : tq_u32 (0 : Int32) = 0 := rfl; omega
  · intro q; apply tq_u32_inj; rw [e]; show _ = 0; omega
theorem tq_c_root {size : Int32} {n : Nat} (h : tq_Sz size n) (nt0 ng0 : Int32) (mg0 : Int64) (ex0 : Int32) (x : Int32) :
    ∃ r a b c d, f_root size nt0 ng0 mg0 ex0 x = some (r, a, b, c, d) ∧
      ((tq_pat n x < 0) → r.toInt = -2 ^ (n - 1)) ∧ (tq_pat n x = 0 → r.toInt = 0) ∧
      (0 < tq_pat n x → ∃ m e R, tq_Parts n (tq_pat n x) m e ∧ R * R ≤ m * 2 ^ tq_rsh m e ∧ m * 2 ^ tq_rsh m e < (R + 1) * (R + 1) ∧
        r.toInt = tq_rM n R ((e - tq_rsh m e) / 2) (decide (R * R ≠ m * 2 ^ tq_rsh m e))) := by
  unfold f_root
  obtain ⟨a, b, c, d, e1, o1⟩ := tq_read_spec h x nt0 ng0 mg0 ex0
  simp only [tq_nm_e]
  rw [e1]
  dsimp only
  unfold f_root_b32
  have c1 : ((1 : Int32)).toInt = 1 := rfl
  have c2 : ((2 : Int32)).toInt = 2 := rfl
  have cm1 : ((-1 : Int32)).toInt = -1 := rfl
  have z0 : ((0 : Int64)).toInt = 0 := rfl
  have hr := tq_pat_rng (x := x) h.2
  have hh := h.2
  by_cases q : tq_pat n x = -2 ^ (n - 1)
  · have : ¬ a = 0 := fun w => (tq_nt_b o1).1 w q
    rw [if_pos this]
    refine ⟨_, _, _, _, _, rfl, fun _ => tq_notOf_spec h, fun w => ?_, fun w => ?_⟩
    · exfalso; rcases hh with rfl | rfl | rfl <;> omega
    · exfalso; rcases hh with rfl | rfl | rfl <;> omega
  · have ha := (tq_nt_b o1).2 q
    rw [if_neg (show ¬ ¬ a = 0 from fun w => w ha)]
    have hb := tq_ng_b o1
    by_cases s : tq_pat n x < 0
    · have : ¬ b = 0 := by rw [hb, decide_eq_true s]; decide
      rw [if_neg this]
      exact ⟨_, _, _, _, _, rfl, fun _ => tq_notOf_spec h, fun w => by omega, fun w => by omega⟩
    · have : b = 0 := by rw [hb, decide_eq_false s]; rfl
      rw [if_pos this]
      obtain ⟨m, hm, hp⟩ := tq_op_parts h.2 (tq_pat_rng h.2) q o1
      by_cases p0 : tq_pat n x = 0
      · have m0 := hp.2.2.2.2.2 p0
        have : c = 0 := Int64.toInt.inj (by rw [hm, m0]; rfl)
        rw [if_neg (show ¬ ¬ lg_cmp c 0 = 0 from fun w => w (tq_cmp_eq.2 this))]
        exact ⟨_, _, _, _, _, rfl, fun w => by omega, fun _ => rfl, fun w => by omega⟩
      · have m1 := hp.2.2.2.2.1 p0
        have cz : c ≠ 0 := fun w => by rw [w, z0] at hm; omega
        rw [if_pos (show ¬ lg_cmp c 0 = 0 from fun w => cz (tq_cmp_eq.1 w))]
        have hl := tq_lnlz_log hm (by omega)
        have h28 := tq_log2_lt28 hp.1 (by omega)
        have es : (f_lnlz c - 2).toInt = ((61 - Nat.log2 m : Nat) : Int) := by rw [tq_i32_sub (by rw [hl, c2]; omega), hl, c2]; omega
        generalize f_lnlz c - 2 = shv at *
        have w1 := hp.2.1; have w2 := hp.2.2.1
        have ed : (d - shv).toInt = d.toInt - (61 - Nat.log2 m : Nat) := by rw [tq_i32_sub (by rw [es]; omega), es]
        have main : ∀ (sv' : Int32) (S : Nat), sv'.toInt = S → S = tq_rsh m d.toInt → S ≤ 61 - Nat.log2 m →
            ∃ r a' b' c' d', f_root_b84 size sv' a b c d = some (r, a', b', c', d') ∧ ((tq_pat n x < 0) → r.toInt = -2 ^ (n - 1)) ∧ (tq_pat n x = 0 → r.toInt = 0) ∧
            (0 < tq_pat n x → ∃ m e R, tq_Parts n (tq_pat n x) m e ∧ R * R ≤ m * 2 ^ tq_rsh m e ∧ m * 2 ^ tq_rsh m e < (R + 1) * (R + 1) ∧ r.toInt = tq_rM n R ((e - tq_rsh m e) / 2) (decide (R * R ≠ m * 2 ^ tq_rsh m e))) := by
          intro sv' S hS hSr hS2
          have hlt : m * 2 ^ S < 2 ^ 62 := by
            have h1 := Nat.mul_lt_mul_of_pos_right (tq_log2_bd (show m ≠ 0 by omega)).2 (Nat.two_pow_pos S)
            rw [← Nat.pow_add] at h1
            have : 2 ^ (Nat.log2 m + 1 + S) ≤ 2 ^ 62 := Nat.pow_le_pow_right (by omega) (by omega)
            omega
          unfold f_root_b84
          rw [tq_nm_e]
          have hrad : (c <<< (sv'.toInt64 &&& 63)).toInt = ((m * 2 ^ S : Nat) : Int) := by
            apply tq_i64_of_u
            · rw [tq_u64_shl hS (by omega), tq_u64_of_i hm, Nat.mod_eq_of_lt (by omega)]
            · omega
          generalize c <<< (sv'.toInt64 &&& 63) = rad at *
          obtain ⟨fl, R, f1, f2, f3, f4, f5⟩ := tq_root_spec hrad hlt
          rw [tq_bd_e f1]
          have hsq : (fl * fl).toInt = ((R * R : Nat) : Int) := by
            have hle : R * R < 2 ^ 62 := by omega
            have e : fl.toInt * fl.toInt = ((R * R : Nat) : Int) := by rw [f2]; norm_cast
            rw [tq_i64_mul (by rw [e]; omega), e]
          have hds : (d - sv').toInt = d.toInt - S := by rw [tq_i32_sub (by rw [hS]; omega), hS]
          have hex : ((d - sv') >>> ((1 : Int32) &&& 31)).toInt = (d.toInt - S) / 2 := by rw [tq_i32_shr (k := 1) rfl (by omega), hds]; rfl
          have tail : ∀ mo : Bool, mo = decide (R * R ≠ m * 2 ^ S) → ∃ r a' b' c' d', f_root_b115 size sv' fl (if mo then 1 else 0) a b c d = some (r, a', b', c', d') ∧ ((tq_pat n x < 0) → r.toInt = -2 ^ (n - 1)) ∧ (tq_pat n x = 0 → r.toInt = 0) ∧
              (0 < tq_pat n x → ∃ m e R, tq_Parts n (tq_pat n x) m e ∧ R * R ≤ m * 2 ^ tq_rsh m e ∧ m * 2 ^ tq_rsh m e < (R + 1) * (R + 1) ∧ r.toInt = tq_rM n R ((e - tq_rsh m e) / 2) (decide (R * R ≠ m * 2 ^ tq_rsh m e))) := by
            intro mo hmo
            unfold f_root_b115
            refine ⟨_, _, _, _, _, rfl, fun w => absurd w s, fun w => absurd w p0, fun _ => ⟨m, d.toInt, R, hp, by rw [← hSr]; exact f4, by rw [← hSr]; exact f5, ?_⟩⟩
            rw [← hSr, ← hmo, tq_c_rounded h (neg := 0) hex (by omega) (tq_u64_of_i f2) rfl (ng := false) rfl]
            rfl
          by_cases w : lg_cmp (fl * fl) rad = 0
          · rw [if_pos w]; rw [tq_cmp_eq, ← Int64.toInt_inj, hsq, hrad] at w
            exact tail false (by rw [decide_eq_false (by omega)])
          · rw [if_neg w]; rw [tq_cmp_eq, ← Int64.toInt_inj, hsq, hrad] at w
            exact tail true (by rw [decide_eq_true (by omega)])
        by_cases par : (d - shv) &&& 1 = 0
        · rw [if_pos par]; rw [tq_i32_and1, ed] at par
          exact main shv _ es (by unfold tq_rsh; rw [if_pos (by omega)]) (Nat.le_refl _)
        · rw [if_neg par]; rw [tq_i32_and1, ed] at par
          refine main (shv + (-1)) (60 - Nat.log2 m) ?_ (by unfold tq_rsh; rw [if_neg (by omega)]) (by omega)
          rw [tq_i32_add (by rw [es, cm1]; omega), es, cm1]; omega
end
section
def m_sizeOf (width : Int32) : Int32 := if ¬ width = 0 then if ¬ width = (1 : Int32) then (32 : Int32) else (16 : Int32) else (8 : Int32)
def m_not (size : Int32) : Int32 := ((-1 : Int32) <<< ((size - (1 : Int32)) &&& 31))
def m_isSum (q : Int32) : Int32 := if q = 0 then (1 : Int32) else if ¬ q = (1 : Int32) then (0 : Int32) else (1 : Int32)
def m_bits (nz : Int32) : Int32 := nz
def m_zero_b2 (rg : Int32) : Nat → Int32 → (Nat → Int32) → Option ((Nat → Int32))
  | 0, _, _ => none
  | n + 1, v2, lf => if (40 : Int32) ≤ v2 then some lf else if ((((40 : Int32) * rg) + v2) < 0 ∨ 200 ≤ (((40 : Int32) * rg) + v2).toNatClampNeg) then none else (m_zero_b2 rg n) (v2 + (1 : Int32)) (upd lf (((40 : Int32) * rg) + v2).toNatClampNeg (0 : Int32))
def m_zero (lf : Nat → Int32) (rg : Int32) : Option ((Nat → Int32)) := m_zero_b2 rg 41 (0 : Int32) lf
def m_move_b2 (fr : Int32) (to : Int32) : Nat → Int32 → (Nat → Int32) → Option ((Nat → Int32))
  | 0, _, _ => none
  | n + 1, v3, lf => if (40 : Int32) ≤ v3 then some lf else if ((((40 : Int32) * fr) + v3) < 0 ∨ 200 ≤ (((40 : Int32) * fr) + v3).toNatClampNeg) then none else if ((((40 : Int32) * to) + v3) < 0 ∨ 200 ≤ (((40 : Int32) * to) + v3).toNatClampNeg) then none else (m_move_b2 fr to n) (v3 + (1 : Int32)) (upd lf (((40 : Int32) * to) + v3).toNatClampNeg (lf (((40 : Int32) * fr) + v3).toNatClampNeg))
def m_move (lf : Nat → Int32) (fr : Int32) (to : Int32) : Option ((Nat → Int32)) := m_move_b2 fr to 41 (0 : Int32) lf
def m_order_b3 (lf : Nat → Int32) (ga : Int32) (gb : Int32) : Nat → Int32 → Option (Int32)
  | 0, _ => none
  | n + 1, v3 => if v3 < 0 then some (0 : Int32) else if ((((40 : Int32) * ga) + v3) < 0 ∨ 200 ≤ (((40 : Int32) * ga) + v3).toNatClampNeg) then none else tq_nm (lf (((40 : Int32) * ga) + v3).toNatClampNeg) (fun x3 : Int32 => if ((((40 : Int32) * gb) + v3) < 0 ∨ 200 ≤ (((40 : Int32) * gb) + v3).toNatClampNeg) then none else tq_nm (lf (((40 : Int32) * gb) + v3).toNatClampNeg) (fun x5 : Int32 => if x3 = x5 then (m_order_b3 lf ga gb n) (v3 + (-1 : Int32)) else if x5 ≤ x3 then some (1 : Int32) else some (-1 : Int32)))
def m_order (lf : Nat → Int32) (ga : Int32) (gb : Int32) : Option (Int32) := m_order_b3 lf ga gb 41 (39 : Int32)
def m_isZero_b33 (k4 : Int32 → Int32 → Option (Int32)) (v3 : Int32) (t0 : Int32) : Option (Int32) := k4 t0 (v3 + (1 : Int32))
def m_isZero_b4 (lf : Nat → Int32) (rg : Int32) : Nat → Int32 → Int32 → Option (Int32)
  | 0, _, _ => none
  | n + 1, v2, v3 => if (40 : Int32) ≤ v3 then some v2 else if v2 = 0 then m_isZero_b33 (m_isZero_b4 lf rg n) v3 (0 : Int32) else if ((((40 : Int32) * rg) + v3) < 0 ∨ 200 ≤ (((40 : Int32) * rg) + v3).toNatClampNeg) then none else if ¬ (lf (((40 : Int32) * rg) + v3).toNatClampNeg) = 0 then m_isZero_b33 (m_isZero_b4 lf rg n) v3 (0 : Int32) else m_isZero_b33 (m_isZero_b4 lf rg n) v3 (1 : Int32)
def m_isZero (lf : Nat → Int32) (rg : Int32) : Option (Int32) := m_isZero_b4 lf rg 41 (1 : Int32) (0 : Int32)
def m_plus_b5 (ga : Int32) (gb : Int32) : Nat → Int32 → Int32 → (Nat → Int32) → Option ((Nat → Int32))
  | 0, _, _, _ => none
  | n + 1, v3, v4, lf => if (40 : Int32) ≤ v4 then some lf else if ((((40 : Int32) * ga) + v4) < 0 ∨ 200 ≤ (((40 : Int32) * ga) + v4).toNatClampNeg) then none else if ((((40 : Int32) * gb) + v4) < 0 ∨ 200 ≤ (((40 : Int32) * gb) + v4).toNatClampNeg) then none else tq_nm (((lf (((40 : Int32) * ga) + v4).toNatClampNeg) + (lf (((40 : Int32) * gb) + v4).toNatClampNeg)) + v3) (fun x4 : Int32 => if ((((40 : Int32) * ga) + v4) < 0 ∨ 200 ≤ (((40 : Int32) * ga) + v4).toNatClampNeg) then none else tq_nm (x4 >>> ((16 : Int32) &&& 31)) (fun x6 : Int32 => (m_plus_b5 ga gb n) x6 (v4 + (1 : Int32)) (upd lf (((40 : Int32) * ga) + v4).toNatClampNeg (x4 &&& (65535 : Int32)))))
def m_plus (lf : Nat → Int32) (ga : Int32) (gb : Int32) : Option ((Nat → Int32)) := m_plus_b5 ga gb 41 (0 : Int32) (0 : Int32) lf
def m_apart_b70 (k6 : Int32 → Int32 → (Nat → Int32) → Option ((Nat → Int32))) (v5 : Int32) (t0 : Int32) (lf : Nat → Int32) : Option ((Nat → Int32)) := k6 t0 (v5 + (1 : Int32)) lf
def m_apart_b6 (ga : Int32) (gb : Int32) (gt : Int32) : Nat → Int32 → Int32 → (Nat → Int32) → Option ((Nat → Int32))
  | 0, _, _, _ => none
  | n + 1, v4, v5, lf => if (40 : Int32) ≤ v5 then some lf else if ((((40 : Int32) * ga) + v5) < 0 ∨ 200 ≤ (((40 : Int32) * ga) + v5).toNatClampNeg) then none else if ((((40 : Int32) * gb) + v5) < 0 ∨ 200 ≤ (((40 : Int32) * gb) + v5).toNatClampNeg) then none else tq_nm (((lf (((40 : Int32) * ga) + v5).toNatClampNeg) - (lf (((40 : Int32) * gb) + v5).toNatClampNeg)) - v4) (fun x4 : Int32 => if ((((40 : Int32) * gt) + v5) < 0 ∨ 200 ≤ (((40 : Int32) * gt) + v5).toNatClampNeg) then none else if 0 ≤ x4 then m_apart_b70 (m_apart_b6 ga gb gt n) v5 (0 : Int32) (upd lf (((40 : Int32) * gt) + v5).toNatClampNeg (x4 &&& (65535 : Int32))) else m_apart_b70 (m_apart_b6 ga gb gt n) v5 (1 : Int32) (upd lf (((40 : Int32) * gt) + v5).toNatClampNeg (x4 &&& (65535 : Int32))))
def m_apart (lf : Nat → Int32) (ga : Int32) (gb : Int32) (gt : Int32) : Option ((Nat → Int32)) := m_apart_b6 ga gb gt 41 (0 : Int32) (0 : Int32) lf
def m_times_b36 (gb : Int32) (gt : Int32) (k8 : Int32 → (Nat → Int32) → Option ((Nat → Int32))) : Nat → Int32 → Int64 → Int64 → Int32 → (Nat → Int32) → Option ((Nat → Int32))
  | 0, _, _, _, _, _ => none
  | n + 1, v4, v5, v7, v9, lf => if ((40 : Int32) - v4) ≤ v9 then k8 (v4 + (1 : Int32)) lf else if (lg_cmp v5 (0 : Int64)) = 0 then k8 (v4 + (1 : Int32)) lf else if ((((40 : Int32) * gb) + v9) < 0 ∨ 200 ≤ (((40 : Int32) * gb) + v9).toNatClampNeg) then none else if (((((40 : Int32) * gt) + v4) + v9) < 0 ∨ 200 ≤ ((((40 : Int32) * gt) + v4) + v9).toNatClampNeg) then none else tq_nm (((v5 * ((lf (((40 : Int32) * gb) + v9).toNatClampNeg).toInt64)) + ((lf ((((40 : Int32) * gt) + v4) + v9).toNatClampNeg).toInt64)) + v7) (fun x9 : Int64 => if (((((40 : Int32) * gt) + v4) + v9) < 0 ∨ 200 ≤ ((((40 : Int32) * gt) + v4) + v9).toNatClampNeg) then none else tq_nm (x9 >>> ((16 : Int32).toInt64 &&& 63)) (fun x11 : Int64 => (m_times_b36 gb gt k8 n) v4 v5 x11 (v9 + (1 : Int32)) (upd lf ((((40 : Int32) * gt) + v4) + v9).toNatClampNeg ((x9 &&& (65535 : Int64)).toInt32))))
def m_times_b8 (ga : Int32) (gb : Int32) (gt : Int32) : Nat → Int32 → (Nat → Int32) → Option ((Nat → Int32))
  | 0, _, _ => none
  | n + 1, v4, lf => if (40 : Int32) ≤ v4 then some lf else if ((((40 : Int32) * ga) + v4) < 0 ∨ 200 ≤ (((40 : Int32) * ga) + v4).toNatClampNeg) then none else tq_nm ((lf (((40 : Int32) * ga) + v4).toNatClampNeg).toInt64) (fun x4 : Int64 => m_times_b36 gb gt (m_times_b8 ga gb gt n) 41 v4 x4 (0 : Int64) (0 : Int32) lf)
def m_times (lf : Nat → Int32) (ga : Int32) (gb : Int32) (gt : Int32) : Option ((Nat → Int32)) := tq_bd (m_zero lf gt) (fun lf1 : Nat → Int32 => m_times_b8 ga gb gt 41 (0 : Int32) lf1)
def m_raise_b76 (rg : Int32) (k15 : Int32 → Int32 → Int32 → (Nat → Int32) → Option ((Nat → Int32))) (v3 : Int32) (v4 : Int32) (v5 : Int32) (v6 : Int32) (t0 : Int32) (lf : Nat → Int32) : Option ((Nat → Int32)) := if ((((40 : Int32) * rg) + v5) < 0 ∨ 200 ≤ (((40 : Int32) * rg) + v5).toNatClampNeg) then none else k15 v3 v4 (v5 + (-1 : Int32)) (upd lf (((40 : Int32) * rg) + v5).toNatClampNeg (((v6 <<< (v4 &&& 31)) ||| (t0 >>> (((16 : Int32) - v4) &&& 31))) &&& (65535 : Int32)))
def m_raise_b45 (rg : Int32) (k15 : Int32 → Int32 → Int32 → (Nat → Int32) → Option ((Nat → Int32))) (v3 : Int32) (v4 : Int32) (v5 : Int32) (t0 : Int32) (lf : Nat → Int32) : Option ((Nat → Int32)) := if ((v5 - v3) - (1 : Int32)) < 0 then m_raise_b76 rg k15 v3 v4 v5 t0 (0 : Int32) lf else if ((((((40 : Int32) * rg) + v5) - v3) - (1 : Int32)) < 0 ∨ 200 ≤ (((((40 : Int32) * rg) + v5) - v3) - (1 : Int32)).toNatClampNeg) then none else m_raise_b76 rg k15 v3 v4 v5 t0 (lf (((((40 : Int32) * rg) + v5) - v3) - (1 : Int32)).toNatClampNeg) lf
def m_raise_b15 (rg : Int32) : Nat → Int32 → Int32 → Int32 → (Nat → Int32) → Option ((Nat → Int32))
  | 0, _, _, _, _ => none
  | n + 1, v3, v4, v5, lf => if v5 < 0 then some lf else if (v5 - v3) < 0 then m_raise_b45 rg (m_raise_b15 rg n) v3 v4 v5 (0 : Int32) lf else if (((((40 : Int32) * rg) + v5) - v3) < 0 ∨ 200 ≤ ((((40 : Int32) * rg) + v5) - v3).toNatClampNeg) then none else m_raise_b45 rg (m_raise_b15 rg n) v3 v4 v5 (lf ((((40 : Int32) * rg) + v5) - v3).toNatClampNeg) lf
def m_raise (lf : Nat → Int32) (rg : Int32) (my : Int32) : Option ((Nat → Int32)) := tq_nm (my / (16 : Int32)) (fun x1 : Int32 => tq_nm (my - my / (16 : Int32) * (16 : Int32)) (fun x2 : Int32 => m_raise_b15 rg 41 x1 x2 (39 : Int32) lf))
def m_lower_b81 (rg : Int32) (k14 : Int32 → Int32 → Int32 → (Nat → Int32) → Option ((Nat → Int32))) (v3 : Int32) (v4 : Int32) (v5 : Int32) (v6 : Int32) (t0 : Int32) (lf : Nat → Int32) : Option ((Nat → Int32)) := if ((((40 : Int32) * rg) + v5) < 0 ∨ 200 ≤ (((40 : Int32) * rg) + v5).toNatClampNeg) then none else k14 v3 v4 (v5 + (1 : Int32)) (upd lf (((40 : Int32) * rg) + v5).toNatClampNeg (((v6 >>> (v4 &&& 31)) ||| (t0 <<< (((16 : Int32) - v4) &&& 31))) &&& (65535 : Int32)))
def m_lower_b48 (rg : Int32) (k14 : Int32 → Int32 → Int32 → (Nat → Int32) → Option ((Nat → Int32))) (v3 : Int32) (v4 : Int32) (v5 : Int32) (t0 : Int32) (lf : Nat → Int32) : Option ((Nat → Int32)) := if (40 : Int32) ≤ ((v5 + v3) + (1 : Int32)) then m_lower_b81 rg k14 v3 v4 v5 t0 (0 : Int32) lf else if ((((((40 : Int32) * rg) + v5) + v3) + (1 : Int32)) < 0 ∨ 200 ≤ (((((40 : Int32) * rg) + v5) + v3) + (1 : Int32)).toNatClampNeg) then none else m_lower_b81 rg k14 v3 v4 v5 t0 (lf (((((40 : Int32) * rg) + v5) + v3) + (1 : Int32)).toNatClampNeg) lf
def m_lower_b14 (rg : Int32) : Nat → Int32 → Int32 → Int32 → (Nat → Int32) → Option ((Nat → Int32))
  | 0, _, _, _, _ => none
  | n + 1, v3, v4, v5, lf => if (40 : Int32) ≤ v5 then some lf else if (40 : Int32) ≤ (v5 + v3) then m_lower_b48 rg (m_lower_b14 rg n) v3 v4 v5 (0 : Int32) lf else if (((((40 : Int32) * rg) + v5) + v3) < 0 ∨ 200 ≤ ((((40 : Int32) * rg) + v5) + v3).toNatClampNeg) then none else m_lower_b48 rg (m_lower_b14 rg n) v3 v4 v5 (lf ((((40 : Int32) * rg) + v5) + v3).toNatClampNeg) lf
def m_lower (lf : Nat → Int32) (rg : Int32) (my : Int32) : Option ((Nat → Int32)) := tq_nm (my / (16 : Int32)) (fun x1 : Int32 => tq_nm (my - my / (16 : Int32) * (16 : Int32)) (fun x2 : Int32 => m_lower_b14 rg 41 x1 x2 (0 : Int32) lf))
def m_bit (lf : Nat → Int32) (rg : Int32) (kx : Int32) : Option (Int32) := if ((((40 : Int32) * rg) + (kx / (16 : Int32))) < 0 ∨ 200 ≤ (((40 : Int32) * rg) + (kx / (16 : Int32))).toNatClampNeg) then none else some (((lf (((40 : Int32) * rg) + (kx / (16 : Int32))).toNatClampNeg) >>> ((kx - kx / (16 : Int32) * (16 : Int32)) &&& 31)) &&& (1 : Int32))
def m_setLong_b8 (rg : Int32) (v : Int64) : Nat → Int32 → (Nat → Int32) → Option ((Nat → Int32))
  | 0, _, _ => none
  | n + 1, v4, lf => if (4 : Int32) ≤ v4 then some lf else if ((((40 : Int32) * rg) + v4) < 0 ∨ 200 ≤ (((40 : Int32) * rg) + v4).toNatClampNeg) then none else (m_setLong_b8 rg v n) (v4 + (1 : Int32)) (upd lf (((40 : Int32) * rg) + v4).toNatClampNeg (((v >>> (((16 : Int32) * v4).toInt64 &&& 63)) &&& (65535 : Int64)).toInt32))
def m_setLong (lf : Nat → Int32) (rg : Int32) (v : Int64) : Option ((Nat → Int32)) := tq_bd (m_zero lf rg) (fun lf1 : Nat → Int32 => m_setLong_b8 rg v 41 (0 : Int32) lf1)
def m_value_b121 (rg : Int32) (pv : Int64) (un : Int32) (v10 : Int32) (v11 : Int32) (t0 : Int32) (lf : Nat → Int32) : Option ((Nat → Int32)) := tq_bd (m_setLong lf rg (((1 : Int64) <<< (t0.toInt64 &&& 63)) + (pv &&& (((1 : Int64) <<< (t0.toInt64 &&& 63)) - (1 : Int64))))) (fun lf9 : Nat → Int32 => tq_nm (((((4 : Int32) * v10) + v11) - t0) + un) (fun x10 : Int32 => if x10 < 0 then tq_bd (m_lower lf9 rg (-x10)) (fun lf12 : Nat → Int32 => some lf12) else tq_bd (m_raise lf9 rg x10) (fun lf13 : Nat → Int32 => some lf13)))
def m_value_b102 (rg : Int32) (pv : Int64) (un : Int32) (v6 : Int32) (v10 : Int32) (t0 : Int32) (t1 : Int32) (lf : Nat → Int32) : Option ((Nat → Int32)) := tq_nm (t1 + t0) (fun x7 : Int32 => if (v6 + (-2 : Int32)) < 0 then m_value_b121 rg pv un v10 x7 (0 : Int32) lf else m_value_b121 rg pv un v10 x7 ((v6 + (-2 : Int32)) + (1 : Int32)) lf)
def m_value_b83 (rg : Int32) (pv : Int64) (un : Int32) (v6 : Int32) (v10 : Int32) (t0 : Int32) (lf : Nat → Int32) : Option ((Nat → Int32)) := if v6 < (1 : Int32) then m_value_b102 rg pv un v6 v10 (0 : Int32) t0 lf else m_value_b102 rg pv un v6 v10 (((pv >>> ((v6 - (1 : Int32)).toInt64 &&& 63)) &&& (1 : Int64)).toInt32) t0 lf
def m_value_b60 (rg : Int32) (pv : Int64) (un : Int32) (v6 : Int32) (t0 : Int32) (lf : Nat → Int32) : Option ((Nat → Int32)) := if (v6 + (-1 : Int32)) < 0 then m_value_b83 rg pv un (v6 + (-1 : Int32)) t0 (0 : Int32) lf else m_value_b83 rg pv un (v6 + (-1 : Int32)) t0 ((2 : Int32) * (((pv >>> ((v6 + (-1 : Int32)).toInt64 &&& 63)) &&& (1 : Int64)).toInt32)) lf
def m_value_b43 (rg : Int32) (pv : Int64) (un : Int32) (v6 : Int32) (v7 : Int64) (v9 : Int32) (lf : Nat → Int32) : Option ((Nat → Int32)) := if ¬ (lg_cmp v7 (1 : Int64)) = 0 then m_value_b60 rg pv un v6 (-v9) lf else m_value_b60 rg pv un v6 (v9 - (1 : Int32)) lf
def m_value_b17 (rg : Int32) (pv : Int64) (un : Int32) : Nat → Int32 → Int64 → Int32 → (Nat → Int32) → Option ((Nat → Int32))
  | 0, _, _, _, _ => none
  | n + 1, v6, v7, v9, lf => if v6 < 0 then m_value_b43 rg pv un v6 v7 v9 lf else if ¬ (lg_cmp ((pv >>> (v6.toInt64 &&& 63)) &&& (1 : Int64)) v7) = 0 then m_value_b43 rg pv un v6 v7 v9 lf else (m_value_b17 rg pv un n) (v6 + (-1 : Int32)) v7 (v9 + (1 : Int32)) lf
def m_value (lf : Nat → Int32) (rg : Int32) (pv : Int64) (size : Int32) (un : Int32) : Option ((Nat → Int32)) := tq_nm (size - (2 : Int32)) (fun x1 : Int32 => tq_nm ((pv >>> (x1.toInt64 &&& 63)) &&& (1 : Int64)) (fun x2 : Int64 => m_value_b17 rg pv un 41 x1 x2 (0 : Int32) lf))
def m_pattern (nz : Int32) (x : Int32) : Int32 := if ¬ nz = (32 : Int32) then if ¬ nz = (16 : Int32) then x.toInt8.toInt32 else x.toInt16.toInt32 else x
def m_isNot (nz : Int32) (x : Int32) : Int32 := if ¬ (m_pattern nz x) = (m_not nz) then (0 : Int32) else (1 : Int32)
def m_negative (nz : Int32) (x : Int32) : Int32 := if 0 ≤ (m_pattern nz x) then (0 : Int32) else (1 : Int32)
def m_load_b40 (nz : Int32) (un : Int32) (t0 : Int64) (t1 : Int32) (lf : Nat → Int32) : Option ((Nat → Int32)) := tq_bd (m_value lf t1 t0 nz un) (fun lf5 : Nat → Int32 => some lf5)
def m_load (nz : Int32) (lf : Nat → Int32) (rg : Int32) (x : Int32) (un : Int32) : Option ((Nat → Int32)) := tq_nm ((m_pattern nz x).toInt64) (fun x2 : Int64 => if ¬ (lg_cmp x2 (0 : Int64)) = 0 then if 0 ≤ (lg_cmp x2 (0 : Int64)) then m_load_b40 nz un x2 rg lf else m_load_b40 nz un (-x2) rg lf else tq_bd (m_zero lf rg) (fun lf6 : Nat → Int32 => some lf6))
def m_factor (sq : Int32) (lf : Nat → Int32) (pw : Int32) : Option (Int32 × (Nat → Int32)) := tq_bd (m_setLong lf (4 : Int32) (1 : Int64)) (fun lf1 : Nat → Int32 => tq_bd (m_raise lf1 (4 : Int32) pw) (fun lf2 : Nat → Int32 => some ((0 : Int32), lf2)))
def m_against_b23 (t0 : Int32) (t1 : Int32) (lf : Nat → Int32) : Option (Int32 × (Nat → Int32)) := tq_bd (m_times lf t1 t0 (3 : Int32)) (fun lf3 : Nat → Int32 => tq_bd (m_order lf3 (0 : Int32) (3 : Int32)) (fun r4 : Int32 => some (r4, lf3)))
def m_against (sq : Int32) (lf : Nat → Int32) (pv : Int64) (size : Int32) : Option (Int32 × (Nat → Int32)) := tq_bd (m_value lf (2 : Int32) pv size (124 : Int32)) (fun lf1 : Nat → Int32 => if sq = 0 then m_against_b23 (4 : Int32) (2 : Int32) lf1 else m_against_b23 (2 : Int32) (2 : Int32) lf1)
def m_rounded_b156 (mi : Int32) (v7 : Int64) (lf : Nat → Int32) : Option (Int32 × (Nat → Int32)) := if mi = 0 then some (v7.toInt32, lf) else some ((-v7).toInt32, lf)
def m_rounded_b145 (mi : Int32) (v7 : Int64) (lf : Nat → Int32) : Option (Int32 × (Nat → Int32)) := tq_nm (v7 + (1 : Int64)) (fun x18 : Int64 => m_rounded_b156 mi x18 lf)
def m_rounded_b50 (sq : Int32) (mi : Int32) (size : Int32) : Nat → Int64 → Int64 → (Nat → Int32) → Option (Int32 × (Nat → Int32))
  | 0, _, _, _ => none
  | n + 1, v3, v5, lf => if 0 ≤ (lg_cmp v3 v5) then tq_bd (m_against sq lf v3 size) (fun u : Int32 × (Nat → Int32) => tq_nm u.1 (fun r12 : Int32 => tq_nm u.2 (fun lf13 : Nat → Int32 => if r12 = 0 then m_rounded_b156 mi v3 lf13 else tq_bd (m_against sq lf13 (((2 : Int64) * v3) + (1 : Int64)) (size + (1 : Int32))) (fun u : Int32 × (Nat → Int32) => tq_nm u.1 (fun r15 : Int32 => tq_nm u.2 (fun lf16 : Nat → Int32 => if 0 < r15 then m_rounded_b145 mi v3 lf16 else if ¬ r15 = 0 then m_rounded_b156 mi v3 lf16 else if ¬ (lg_cmp (v3 - v3 / (2 : Int64) * (2 : Int64)) (1 : Int64)) = 0 then m_rounded_b156 mi v3 lf16 else m_rounded_b145 mi v3 lf16)))))) else tq_nm (((v3 + v5) + (1 : Int64)) / (2 : Int64)) (fun x21 : Int64 => tq_bd (m_against sq lf x21 size) (fun u : Int32 × (Nat → Int32) => tq_nm u.1 (fun r22 : Int32 => tq_nm u.2 (fun lf23 : Nat → Int32 => if r22 < 0 then tq_nm (x21 - (1 : Int64)) (fun x25 : Int64 => (m_rounded_b50 sq mi size n) v3 x25 lf23) else (m_rounded_b50 sq mi size n) x21 v5 lf23))))
def m_rounded (sq : Int32) (lf : Nat → Int32) (mi : Int32) (size : Int32) : Option (Int32 × (Nat → Int32)) := tq_bd (m_isZero lf (0 : Int32)) (fun r1 : Int32 => if r1 = 0 then tq_nm (((1 : Int64) <<< ((size - (1 : Int32)).toInt64 &&& 63)) - (1 : Int64)) (fun x3 : Int64 => tq_bd (m_against sq lf x3 size) (fun u : Int32 × (Nat → Int32) => tq_nm u.1 (fun r4 : Int32 => tq_nm u.2 (fun lf5 : Nat → Int32 => if r4 ≤ 0 then tq_bd (m_against sq lf5 (1 : Int64) size) (fun u : Int32 × (Nat → Int32) => tq_nm u.1 (fun r7 : Int32 => tq_nm u.2 (fun lf8 : Nat → Int32 => if r7 < 0 then m_rounded_b156 mi (1 : Int64) lf8 else m_rounded_b50 sq mi size 41 (1 : Int64) x3 lf8))) else m_rounded_b156 mi x3 lf5)))) else some ((0 : Int32), lf))
def m_joined (lf : Nat → Int32) (mi : Int32) (om : Int32) : Option (Int32 × (Nat → Int32)) := if ¬ mi = om then tq_bd (m_order lf (0 : Int32) (1 : Int32)) (fun r2 : Int32 => if r2 < 0 then tq_bd (m_apart lf (1 : Int32) (0 : Int32) (0 : Int32)) (fun lf4 : Nat → Int32 => some (om, lf4)) else tq_bd (m_apart lf (0 : Int32) (1 : Int32) (0 : Int32)) (fun lf5 : Nat → Int32 => some (mi, lf5))) else tq_bd (m_plus lf (0 : Int32) (1 : Int32)) (fun lf6 : Nat → Int32 => some (mi, lf6))
def m_together_b16 (nz : Int32) (sq : Int32) (lf : Nat → Int32) : Option (Int32 × Int32 × (Nat → Int32)) := some (m_not nz, sq, lf)
def m_together_b60 (nz : Int32) (t0 : Int32) (t1 : Int32) (sq : Int32) (lf : Nat → Int32) : Option (Int32 × Int32 × (Nat → Int32)) := tq_bd (m_joined lf t1 t0) (fun u : Int32 × (Nat → Int32) => tq_nm u.1 (fun r17 : Int32 => tq_nm u.2 (fun lf18 : Nat → Int32 => tq_bd (m_factor sq lf18 (0 : Int32)) (fun u : Int32 × (Nat → Int32) => tq_nm u.1 (fun sq19 : Int32 => tq_nm u.2 (fun lf20 : Nat → Int32 => tq_bd (m_rounded sq19 lf20 r17 nz) (fun u : Int32 × (Nat → Int32) => tq_nm u.1 (fun r21 : Int32 => tq_nm u.2 (fun lf22 : Nat → Int32 => some (r21, sq19, lf22))))))))))
def m_together (nz : Int32) (sq : Int32) (lf : Nat → Int32) (x : Int32) (y : Int32) (tu : Int32) : Option (Int32 × Int32 × (Nat → Int32)) := if ¬ (m_isNot nz x) = 0 then m_together_b16 nz sq lf else if (m_isNot nz y) = 0 then tq_bd (m_load nz lf (0 : Int32) x (124 : Int32)) (fun lf6 : Nat → Int32 => tq_bd (m_load nz lf6 (1 : Int32) y (124 : Int32)) (fun lf7 : Nat → Int32 => if (m_negative nz y) = tu then m_together_b60 nz (0 : Int32) (m_negative nz x) sq lf7 else m_together_b60 nz (1 : Int32) (m_negative nz x) sq lf7)) else m_together_b16 nz sq lf
def m_add (nz : Int32) (sq : Int32) (lf : Nat → Int32) (x : Int32) (y : Int32) : Option (Int32 × Int32 × (Nat → Int32)) := tq_bd (m_together nz sq lf x y (0 : Int32)) (fun u : Int32 × Int32 × (Nat → Int32) => tq_nm u.1 (fun r1 : Int32 => tq_nm u.2.1 (fun sq2 : Int32 => tq_nm u.2.2 (fun lf3 : Nat → Int32 => some (r1, sq2, lf3)))))
def m_subtract (nz : Int32) (sq : Int32) (lf : Nat → Int32) (x : Int32) (y : Int32) : Option (Int32 × Int32 × (Nat → Int32)) := tq_bd (m_together nz sq lf x y (1 : Int32)) (fun u : Int32 × Int32 × (Nat → Int32) => tq_nm u.1 (fun r1 : Int32 => tq_nm u.2.1 (fun sq2 : Int32 => tq_nm u.2.2 (fun lf3 : Nat → Int32 => some (r1, sq2, lf3)))))
def m_fused_b24 (nz : Int32) (sq : Int32) (lf : Nat → Int32) : Option (Int32 × Int32 × (Nat → Int32)) := some (m_not nz, sq, lf)
def m_fused_b89 (nz : Int32) (z : Int32) (t0 : Int32) (sq : Int32) (lf : Nat → Int32) : Option (Int32 × Int32 × (Nat → Int32)) := tq_bd (m_joined lf t0 (m_negative nz z)) (fun u : Int32 × (Nat → Int32) => tq_nm u.1 (fun r24 : Int32 => tq_nm u.2 (fun lf25 : Nat → Int32 => tq_bd (m_factor sq lf25 (124 : Int32)) (fun u : Int32 × (Nat → Int32) => tq_nm u.1 (fun sq26 : Int32 => tq_nm u.2 (fun lf27 : Nat → Int32 => tq_bd (m_rounded sq26 lf27 r24 nz) (fun u : Int32 × (Nat → Int32) => tq_nm u.1 (fun r28 : Int32 => tq_nm u.2 (fun lf29 : Nat → Int32 => some (r28, sq26, lf29))))))))))
def m_fused (nz : Int32) (sq : Int32) (lf : Nat → Int32) (x : Int32) (y : Int32) (z : Int32) : Option (Int32 × Int32 × (Nat → Int32)) := if ¬ (m_isNot nz x) = 0 then m_fused_b24 nz sq lf else if ¬ (m_isNot nz y) = 0 then m_fused_b24 nz sq lf else if (m_isNot nz z) = 0 then tq_bd (m_load nz lf (1 : Int32) x (124 : Int32)) (fun lf8 : Nat → Int32 => tq_bd (m_load nz lf8 (2 : Int32) y (124 : Int32)) (fun lf9 : Nat → Int32 => tq_bd (m_times lf9 (1 : Int32) (2 : Int32) (0 : Int32)) (fun lf10 : Nat → Int32 => tq_bd (m_load nz lf10 (1 : Int32) z (124 : Int32)) (fun lf11 : Nat → Int32 => tq_bd (m_raise lf11 (1 : Int32) (124 : Int32)) (fun lf12 : Nat → Int32 => if (m_negative nz x) = (m_negative nz y) then m_fused_b89 nz z (0 : Int32) sq lf12 else m_fused_b89 nz z (1 : Int32) sq lf12))))) else m_fused_b24 nz sq lf
def m_multiply (nz : Int32) (sq : Int32) (lf : Nat → Int32) (x : Int32) (y : Int32) : Option (Int32 × Int32 × (Nat → Int32)) := tq_bd (m_fused nz sq lf x y (0 : Int32)) (fun u : Int32 × Int32 × (Nat → Int32) => tq_nm u.1 (fun r1 : Int32 => tq_nm u.2.1 (fun sq2 : Int32 => tq_nm u.2.2 (fun lf3 : Nat → Int32 => some (r1, sq2, lf3)))))
def m_divide_b24 (nz : Int32) (sq : Int32) (lf : Nat → Int32) : Option (Int32 × Int32 × (Nat → Int32)) := some (m_not nz, sq, lf)
def m_divide_b79 (nz : Int32) (t0 : Int32) (sq : Int32) (lf : Nat → Int32) : Option (Int32 × Int32 × (Nat → Int32)) := tq_bd (m_rounded sq lf t0 nz) (fun u : Int32 × (Nat → Int32) => tq_nm u.1 (fun r14 : Int32 => tq_nm u.2 (fun lf15 : Nat → Int32 => some (r14, sq, lf15))))
def m_divide (nz : Int32) (sq : Int32) (lf : Nat → Int32) (x : Int32) (y : Int32) : Option (Int32 × Int32 × (Nat → Int32)) := if ¬ (m_isNot nz x) = 0 then m_divide_b24 nz sq lf else if ¬ (m_isNot nz y) = 0 then m_divide_b24 nz sq lf else if ¬ (m_pattern nz y) = 0 then tq_bd (m_load nz lf (0 : Int32) x (124 : Int32)) (fun lf8 : Nat → Int32 => tq_bd (m_raise lf8 (0 : Int32) (124 : Int32)) (fun lf9 : Nat → Int32 => tq_bd (m_load nz lf9 (4 : Int32) y (124 : Int32)) (fun lf10 : Nat → Int32 => if (m_negative nz x) = (m_negative nz y) then m_divide_b79 nz (0 : Int32) (0 : Int32) lf10 else m_divide_b79 nz (1 : Int32) (0 : Int32) lf10))) else m_divide_b24 nz sq lf
def m_root_b16 (nz : Int32) (sq : Int32) (lf : Nat → Int32) : Option (Int32 × Int32 × (Nat → Int32)) := some (m_not nz, sq, lf)
def m_root (nz : Int32) (sq : Int32) (lf : Nat → Int32) (x : Int32) : Option (Int32 × Int32 × (Nat → Int32)) := if ¬ (m_isNot nz x) = 0 then m_root_b16 nz sq lf else if (m_negative nz x) = 0 then tq_bd (m_load nz lf (0 : Int32) x (124 : Int32)) (fun lf6 : Nat → Int32 => tq_bd (m_raise lf6 (0 : Int32) (124 : Int32)) (fun lf7 : Nat → Int32 => tq_bd (m_rounded (1 : Int32) lf7 (0 : Int32) nz) (fun u : Int32 × (Nat → Int32) => tq_nm u.1 (fun r8 : Int32 => tq_nm u.2 (fun lf9 : Nat → Int32 => some (r8, (1 : Int32), lf9)))))) else m_root_b16 nz sq lf
def m_nearest_b89 (lf : Nat → Int32) : Option ((Nat → Int32)) := tq_bd (m_setLong lf (1 : Int32) (1 : Int64)) (fun lf8 : Nat → Int32 => tq_bd (m_plus lf8 (0 : Int32) (1 : Int32)) (fun lf9 : Nat → Int32 => some lf9))
def m_nearest_b57 (k30 : Int32 → Int32 → Int32 → (Nat → Int32) → Option ((Nat → Int32))) (v2 : Int32) (v4 : Int32) (t0 : Int32) (lf : Nat → Int32) : Option ((Nat → Int32)) := k30 v2 t0 (v4 + (1 : Int32)) lf
def m_nearest_b30 : Nat → Int32 → Int32 → Int32 → (Nat → Int32) → Option ((Nat → Int32))
  | 0, _, _, _, _ => none
  | n + 1, v2, v3, v4, lf => if (123 : Int32) ≤ v4 then tq_bd (m_lower lf (0 : Int32) (124 : Int32)) (fun lf5 : Nat → Int32 => if v2 = 0 then some lf5 else if ¬ v3 = 0 then m_nearest_b89 lf5 else tq_bd (m_bit lf5 (0 : Int32) (0 : Int32)) (fun r10 : Int32 => if ¬ r10 = (1 : Int32) then some lf5 else m_nearest_b89 lf5)) else if ¬ v3 = 0 then m_nearest_b57 (m_nearest_b30 n) v2 v4 (1 : Int32) lf else tq_bd (m_bit lf (0 : Int32) v4) (fun r13 : Int32 => if ¬ r13 = (1 : Int32) then m_nearest_b57 (m_nearest_b30 n) v2 v4 (0 : Int32) lf else m_nearest_b57 (m_nearest_b30 n) v2 v4 (1 : Int32) lf)
def m_nearest_b24 (t0 : Int32) (lf : Nat → Int32) : Option ((Nat → Int32)) := m_nearest_b30 124 t0 (0 : Int32) (0 : Int32) lf
def m_nearest (nz : Int32) (lf : Nat → Int32) (x : Int32) : Option ((Nat → Int32)) := tq_bd (m_load nz lf (0 : Int32) x (124 : Int32)) (fun lf1 : Nat → Int32 => tq_bd (m_bit lf1 (0 : Int32) (123 : Int32)) (fun r2 : Int32 => if ¬ r2 = (1 : Int32) then m_nearest_b24 (0 : Int32) lf1 else m_nearest_b24 (1 : Int32) lf1))
def m_whole (nz : Int32) (sq : Int32) (lf : Nat → Int32) (x : Int32) : Option (Int32 × Int32 × (Nat → Int32)) := if (m_isNot nz x) = 0 then tq_bd (m_nearest nz lf x) (fun lf3 : Nat → Int32 => tq_bd (m_raise lf3 (0 : Int32) (124 : Int32)) (fun lf4 : Nat → Int32 => tq_bd (m_factor sq lf4 (0 : Int32)) (fun u : Int32 × (Nat → Int32) => tq_nm u.1 (fun sq5 : Int32 => tq_nm u.2 (fun lf6 : Nat → Int32 => tq_bd (m_rounded sq5 lf6 (m_negative nz x) nz) (fun u : Int32 × (Nat → Int32) => tq_nm u.1 (fun r8 : Int32 => tq_nm u.2 (fun lf9 : Nat → Int32 => some (r8, sq5, lf9))))))))) else some (m_not nz, sq, lf)
def m_next (nz : Int32) (x : Int32) : Int32 := (m_pattern nz (x + (1 : Int32)))
def m_fromLong_b62 (nz : Int32) (t0 : Int32) (sq : Int32) (lf : Nat → Int32) : Option (Int32 × Int32 × (Nat → Int32)) := tq_bd (m_rounded sq lf t0 nz) (fun u : Int32 × (Nat → Int32) => tq_nm u.1 (fun r8 : Int32 => tq_nm u.2 (fun lf9 : Nat → Int32 => some (r8, sq, lf9))))
def m_fromLong_b35 (nz : Int32) (v : Int64) (t0 : Int64) (t1 : Int32) (sq : Int32) (lf : Nat → Int32) : Option (Int32 × Int32 × (Nat → Int32)) := tq_bd (m_setLong lf t1 t0) (fun lf3 : Nat → Int32 => tq_bd (m_raise lf3 (0 : Int32) (124 : Int32)) (fun lf4 : Nat → Int32 => tq_bd (m_factor sq lf4 (0 : Int32)) (fun u : Int32 × (Nat → Int32) => tq_nm u.1 (fun sq5 : Int32 => tq_nm u.2 (fun lf6 : Nat → Int32 => if 0 ≤ (lg_cmp v (0 : Int64)) then m_fromLong_b62 nz (0 : Int32) sq5 lf6 else m_fromLong_b62 nz (1 : Int32) sq5 lf6)))))
def m_fromLong_b21 (nz : Int32) (v : Int64) (sq : Int32) (lf : Nat → Int32) : Option (Int32 × Int32 × (Nat → Int32)) := if 0 ≤ (lg_cmp v (0 : Int64)) then m_fromLong_b35 nz v v (0 : Int32) sq lf else m_fromLong_b35 nz v (-v) (0 : Int32) sq lf
def m_fromLong (nz : Int32) (sq : Int32) (lf : Nat → Int32) (v : Int64) : Option (Int32 × Int32 × (Nat → Int32)) := if 0 ≤ (lg_cmp v (0 : Int64)) then m_fromLong_b21 nz v sq lf else if ¬ (lg_cmp v (-v)) = 0 then m_fromLong_b21 nz v sq lf else some (m_not nz, sq, lf)
def m_toLong_b105 (k43 : Int64 → Int64 → Int32 → Int32 → (Nat → Int32) → Option (Int64 × (Nat → Int32))) (v2 : Int64) (v6 : Int32) (v7 : Int32) (t0 : Int64) (lf : Nat → Int32) : Option (Int64 × (Nat → Int32)) := k43 v2 t0 v6 (v7 + (-1 : Int32)) lf
def m_toLong_b76 (k43 : Int64 → Int64 → Int32 → Int32 → (Nat → Int32) → Option (Int64 × (Nat → Int32))) (v2 : Int64) (v4 : Int64) (v7 : Int32) (t0 : Int32) (lf : Nat → Int32) : Option (Int64 × (Nat → Int32)) := if (4 : Int32) ≤ v7 then m_toLong_b105 k43 v2 t0 v7 v4 lf else if (((0 : Int32) + v7) < 0 ∨ 200 ≤ ((0 : Int32) + v7).toNatClampNeg) then none else m_toLong_b105 k43 v2 t0 v7 ((v4 <<< ((16 : Int32).toInt64 &&& 63)) ||| ((lf ((0 : Int32) + v7).toNatClampNeg).toInt64)) lf
def m_toLong_b43 (nz : Int32) (x : Int32) : Nat → Int64 → Int64 → Int32 → Int32 → (Nat → Int32) → Option (Int64 × (Nat → Int32))
  | 0, _, _, _, _, _ => none
  | n + 1, v2, v4, v6, v7, lf => if v7 < 0 then if ¬ v6 = 0 then if (m_negative nz x) = 0 then some (v4, lf) else some (-v4, lf) else some (v2, lf) else if v6 = 0 then m_toLong_b76 (m_toLong_b43 nz x n) v2 v4 v7 (0 : Int32) lf else if v7 < (4 : Int32) then m_toLong_b76 (m_toLong_b43 nz x n) v2 v4 v7 (1 : Int32) lf else if (((0 : Int32) + v7) < 0 ∨ 200 ≤ ((0 : Int32) + v7).toNatClampNeg) then none else if ¬ (lf ((0 : Int32) + v7).toNatClampNeg) = 0 then m_toLong_b76 (m_toLong_b43 nz x n) v2 v4 v7 (0 : Int32) lf else m_toLong_b76 (m_toLong_b43 nz x n) v2 v4 v7 (1 : Int32) lf
def m_toLong_b37 (nz : Int32) (x : Int32) (v2 : Int64) (v4 : Int64) (t0 : Int32) (lf : Nat → Int32) : Option (Int64 × (Nat → Int32)) := m_toLong_b43 nz x 41 v2 v4 t0 (39 : Int32) lf
def m_toLong (nz : Int32) (lf : Nat → Int32) (x : Int32) : Option (Int64 × (Nat → Int32)) := if (m_isNot nz x) = 0 then tq_bd (m_nearest nz lf x) (fun lf3 : Nat → Int32 => tq_bd (m_bit lf3 (0 : Int32) (63 : Int32)) (fun r4 : Int32 => if ¬ r4 = 0 then m_toLong_b37 nz x (-9223372036854775808 : Int64) (0 : Int64) (0 : Int32) lf3 else m_toLong_b37 nz x (-9223372036854775808 : Int64) (0 : Int64) (1 : Int32) lf3)) else some ((-9223372036854775808 : Int64), lf)
def m_convert (nz : Int32) (sq : Int32) (lf : Nat → Int32) (x : Int32) (width : Int32) : Option (Int32 × Int32 × (Nat → Int32)) := tq_nm (m_sizeOf width) (fun x2 : Int32 => if (m_isNot nz x) = 0 then tq_bd (m_load nz lf (0 : Int32) x (124 : Int32)) (fun lf5 : Nat → Int32 => tq_bd (m_factor sq lf5 (0 : Int32)) (fun u : Int32 × (Nat → Int32) => tq_nm u.1 (fun sq6 : Int32 => tq_nm u.2 (fun lf7 : Nat → Int32 => tq_bd (m_rounded sq6 lf7 (m_negative nz x) x2) (fun u : Int32 × (Nat → Int32) => tq_nm u.1 (fun r9 : Int32 => tq_nm u.2 (fun lf10 : Nat → Int32 => some (r9, sq6, lf10)))))))) else some (m_not x2, sq, lf))
def m_lost_b62 (k29 : Int32 → Int32 → Option (Int32)) (v3 : Int32) (t0 : Int32) : Option (Int32) := k29 t0 (v3 + (1 : Int32))
def m_lost_b29 (nz : Int32) (sf : Nat → Int32) (q : Int32) : Nat → Int32 → Int32 → Option (Int32)
  | 0, _, _ => none
  | n + 1, v2, v3 => if (nz - (1 : Int32)) ≤ v3 then some v2 else if v2 = 0 then m_lost_b62 (m_lost_b29 nz sf q n) v3 (0 : Int32) else if ((((32 : Int32) * q) + v3) < 0 ∨ 64 ≤ (((32 : Int32) * q) + v3).toNatClampNeg) then none else if ¬ (sf (((32 : Int32) * q) + v3).toNatClampNeg) = 0 then m_lost_b62 (m_lost_b29 nz sf q n) v3 (0 : Int32) else m_lost_b62 (m_lost_b29 nz sf q n) v3 (1 : Int32)
def m_lost_b26 (nz : Int32) (sf : Nat → Int32) (q : Int32) (t0 : Int32) : Option (Int32) := m_lost_b29 nz sf q 41 t0 (0 : Int32)
def m_lost (nz : Int32) (sf : Nat → Int32) (q : Int32) : Option (Int32) := if (((((32 : Int32) * q) + nz) - (1 : Int32)) < 0 ∨ 64 ≤ ((((32 : Int32) * q) + nz) - (1 : Int32)).toNatClampNeg) then none else if ¬ (sf ((((32 : Int32) * q) + nz) - (1 : Int32)).toNatClampNeg) = (32768 : Int32) then m_lost_b26 nz sf q (0 : Int32) else m_lost_b26 nz sf q (1 : Int32)
def m_lose_b36 (k2 : Int32 → (Nat → Int32) → Option ((Nat → Int32))) (v2 : Int32) (t0 : Int32) (t1 : Int32) (sf : Nat → Int32) : Option ((Nat → Int32)) := if (t1 < 0 ∨ 64 ≤ t1.toNatClampNeg) then none else k2 (v2 + (1 : Int32)) (upd sf t1.toNatClampNeg t0)
def m_lose_b2 (nz : Int32) (q : Int32) : Nat → Int32 → (Nat → Int32) → Option ((Nat → Int32))
  | 0, _, _ => none
  | n + 1, v2, sf => if nz ≤ v2 then some sf else if ¬ v2 = (nz - (1 : Int32)) then m_lose_b36 (m_lose_b2 nz q n) v2 (0 : Int32) (((32 : Int32) * q) + v2) sf else m_lose_b36 (m_lose_b2 nz q n) v2 (32768 : Int32) (((32 : Int32) * q) + v2) sf
def m_lose (nz : Int32) (sf : Nat → Int32) (q : Int32) : Option ((Nat → Int32)) := m_lose_b2 nz q 41 (0 : Int32) sf
def m_clear_b11 (nz : Int32) (q : Int32) : Nat → Int32 → (Nat → Int32) → Option (Int32 × (Nat → Int32))
  | 0, _, _ => none
  | n + 1, v2, sf => if nz ≤ v2 then some ((1 : Int32), sf) else if ((((32 : Int32) * q) + v2) < 0 ∨ 64 ≤ (((32 : Int32) * q) + v2).toNatClampNeg) then none else (m_clear_b11 nz q n) (v2 + (1 : Int32)) (upd sf (((32 : Int32) * q) + v2).toNatClampNeg (0 : Int32))
def m_clear (nz : Int32) (sf : Nat → Int32) (q : Int32) : Option (Int32 × (Nat → Int32)) := if ¬ (m_isSum q) = 0 then m_clear_b11 nz q 41 (0 : Int32) sf else some ((0 : Int32), sf)
def m_pour_b59 (q : Int32) (k6 : Int32 → Int32 → (Nat → Int32) → Option ((Nat → Int32))) (v4 : Int32) (v5 : Int32) (t0 : Int32) (t1 : Int32) (sf : Nat → Int32) : Option ((Nat → Int32)) := tq_nm ((t1 + t0) + v4) (fun x5 : Int32 => if ((((32 : Int32) * q) + v5) < 0 ∨ 64 ≤ (((32 : Int32) * q) + v5).toNatClampNeg) then none else tq_nm (x5 >>> ((16 : Int32) &&& 31)) (fun x7 : Int32 => k6 x7 (v5 + (1 : Int32)) (upd sf (((32 : Int32) * q) + v5).toNatClampNeg (x5 &&& (65535 : Int32)))))
def m_pour_b6 (nz : Int32) (lf : Nat → Int32) (q : Int32) (rg : Int32) (mi : Int32) : Nat → Int32 → Int32 → (Nat → Int32) → Option ((Nat → Int32))
  | 0, _, _, _ => none
  | n + 1, v4, v5, sf => if nz ≤ v5 then some sf else if ((((32 : Int32) * q) + v5) < 0 ∨ 64 ≤ (((32 : Int32) * q) + v5).toNatClampNeg) then none else if mi = 0 then if ((((40 : Int32) * rg) + v5) < 0 ∨ 200 ≤ (((40 : Int32) * rg) + v5).toNatClampNeg) then none else m_pour_b59 q (m_pour_b6 nz lf q rg mi n) v4 v5 (lf (((40 : Int32) * rg) + v5).toNatClampNeg) (sf (((32 : Int32) * q) + v5).toNatClampNeg) sf else if ((((40 : Int32) * rg) + v5) < 0 ∨ 200 ≤ (((40 : Int32) * rg) + v5).toNatClampNeg) then none else m_pour_b59 q (m_pour_b6 nz lf q rg mi n) v4 v5 (-(lf (((40 : Int32) * rg) + v5).toNatClampNeg)) (sf (((32 : Int32) * q) + v5).toNatClampNeg) sf
def m_pour (nz : Int32) (lf : Nat → Int32) (sf : Nat → Int32) (q : Int32) (rg : Int32) (mi : Int32) : Option ((Nat → Int32)) := m_pour_b6 nz lf q rg mi 41 (0 : Int32) (0 : Int32) sf
def m_collect_b108 (nz : Int32) (t0 : Int32) (t1 : Int32) (t2 : Int32) (lf : Nat → Int32) (sf : Nat → Int32) : Option (Int32 × (Nat → Int32) × (Nat → Int32)) := tq_bd (m_pour nz lf sf t2 t1 t0) (fun sf15 : Nat → Int32 => some ((1 : Int32), lf, sf15))
def m_collect_b100 (nz : Int32) (t0 : Int32) (t1 : Int32) (t2 : Int32) (t3 : Int32) (lf : Nat → Int32) (sf : Nat → Int32) : Option (Int32 × (Nat → Int32) × (Nat → Int32)) := if t1 = t0 then m_collect_b108 nz (0 : Int32) t2 t3 lf sf else m_collect_b108 nz (1 : Int32) t2 t3 lf sf
def m_collect_b30 (nz : Int32) (q : Int32) (x : Int32) (y : Int32) (mi : Int32) (lf : Nat → Int32) (sf : Nat → Int32) : Option (Int32 × (Nat → Int32) × (Nat → Int32)) := tq_bd (m_lost nz sf q) (fun r6 : Int32 => if r6 = 0 then tq_bd (m_load nz lf (1 : Int32) x (((4 : Int32) * nz) - (8 : Int32))) (fun lf8 : Nat → Int32 => tq_bd (m_load nz lf8 (2 : Int32) y (((4 : Int32) * nz) - (8 : Int32))) (fun lf9 : Nat → Int32 => tq_bd (m_times lf9 (1 : Int32) (2 : Int32) (0 : Int32)) (fun lf10 : Nat → Int32 => if (m_negative nz x) = (m_negative nz y) then m_collect_b100 nz (0 : Int32) mi (0 : Int32) q lf10 sf else m_collect_b100 nz (1 : Int32) mi (0 : Int32) q lf10 sf))) else some ((1 : Int32), lf, sf))
def m_collect_b25 (nz : Int32) (q : Int32) (x : Int32) (y : Int32) (mi : Int32) (lf : Nat → Int32) (sf : Nat → Int32) : Option (Int32 × (Nat → Int32) × (Nat → Int32)) := tq_bd (m_lose nz sf q) (fun sf5 : Nat → Int32 => m_collect_b30 nz q x y mi lf sf5)
def m_collect (nz : Int32) (lf : Nat → Int32) (sf : Nat → Int32) (q : Int32) (x : Int32) (y : Int32) (mi : Int32) : Option (Int32 × (Nat → Int32) × (Nat → Int32)) := if ¬ (m_isSum q) = 0 then if ¬ (m_isNot nz x) = 0 then m_collect_b25 nz q x y mi lf sf else if (m_isNot nz y) = 0 then m_collect_b30 nz q x y mi lf sf else m_collect_b25 nz q x y mi lf sf else some ((0 : Int32), lf, sf)
def m_draw_b7 (nz : Int32) (sf : Nat → Int32) (q : Int32) (rg : Int32) : Nat → Int32 → (Nat → Int32) → Option ((Nat → Int32))
  | 0, _, _ => none
  | n + 1, v3, lf => if nz ≤ v3 then some lf else if ((((32 : Int32) * q) + v3) < 0 ∨ 64 ≤ (((32 : Int32) * q) + v3).toNatClampNeg) then none else if ((((40 : Int32) * rg) + v3) < 0 ∨ 200 ≤ (((40 : Int32) * rg) + v3).toNatClampNeg) then none else (m_draw_b7 nz sf q rg n) (v3 + (1 : Int32)) (upd lf (((40 : Int32) * rg) + v3).toNatClampNeg (sf (((32 : Int32) * q) + v3).toNatClampNeg))
def m_draw (nz : Int32) (lf : Nat → Int32) (sf : Nat → Int32) (q : Int32) (rg : Int32) : Option ((Nat → Int32)) := tq_bd (m_zero lf rg) (fun lf1 : Nat → Int32 => m_draw_b7 nz sf q rg 41 (0 : Int32) lf1)
def m_merge_b24 (nz : Int32) (q : Int32) (lf : Nat → Int32) (sf : Nat → Int32) : Option (Int32 × (Nat → Int32) × (Nat → Int32)) := tq_bd (m_lost nz sf q) (fun r5 : Int32 => if r5 = 0 then tq_bd (m_draw nz lf sf ((1 : Int32) - q) (0 : Int32)) (fun lf7 : Nat → Int32 => tq_bd (m_pour nz lf7 sf q (0 : Int32) (0 : Int32)) (fun sf8 : Nat → Int32 => some ((1 : Int32), lf7, sf8))) else some ((1 : Int32), lf, sf))
def m_merge (nz : Int32) (lf : Nat → Int32) (sf : Nat → Int32) (q : Int32) : Option (Int32 × (Nat → Int32) × (Nat → Int32)) := if ¬ (m_isSum q) = 0 then tq_bd (m_lost nz sf ((1 : Int32) - q)) (fun r3 : Int32 => if r3 = 0 then m_merge_b24 nz q lf sf else tq_bd (m_lose nz sf q) (fun sf9 : Nat → Int32 => m_merge_b24 nz q lf sf9)) else some ((0 : Int32), lf, sf)
def m_negate (nz : Int32) (lf : Nat → Int32) (sf : Nat → Int32) (q : Int32) : Option (Int32 × (Nat → Int32) × (Nat → Int32)) := if ¬ (m_isSum q) = 0 then tq_bd (m_draw nz lf sf q (0 : Int32)) (fun lf3 : Nat → Int32 => tq_bd (m_pour nz lf3 sf q (0 : Int32) (1 : Int32)) (fun sf4 : Nat → Int32 => tq_bd (m_pour nz lf3 sf4 q (0 : Int32) (1 : Int32)) (fun sf5 : Nat → Int32 => some ((1 : Int32), lf3, sf5)))) else some ((0 : Int32), lf, sf)
def m_total_b15 (nz : Int32) (sq : Int32) (lf : Nat → Int32) (sf : Nat → Int32) : Option (Int32 × Int32 × (Nat → Int32) × (Nat → Int32)) := some (m_not nz, sq, lf, sf)
def m_total_b76 (nz : Int32) (v2 : Int32) (sq : Int32) (lf : Nat → Int32) (sf : Nat → Int32) : Option (Int32 × Int32 × (Nat → Int32) × (Nat → Int32)) := tq_bd (m_move lf (1 : Int32) (0 : Int32)) (fun lf11 : Nat → Int32 => tq_bd (m_raise lf11 (0 : Int32) ((264 : Int32) - ((8 : Int32) * nz))) (fun lf12 : Nat → Int32 => tq_bd (m_factor sq lf12 (124 : Int32)) (fun u : Int32 × (Nat → Int32) => tq_nm u.1 (fun sq13 : Int32 => tq_nm u.2 (fun lf14 : Nat → Int32 => tq_bd (m_rounded sq13 lf14 v2 nz) (fun u : Int32 × (Nat → Int32) => tq_nm u.1 (fun r15 : Int32 => tq_nm u.2 (fun lf16 : Nat → Int32 => some (r15, sq13, lf16, sf)))))))))
def m_total_b60 (nz : Int32) (q : Int32) (v2 : Int32) (sq : Int32) (lf : Nat → Int32) (sf : Nat → Int32) : Option (Int32 × Int32 × (Nat → Int32) × (Nat → Int32)) := tq_bd (m_draw nz lf sf q (1 : Int32)) (fun lf9 : Nat → Int32 => if v2 = 0 then m_total_b76 nz v2 sq lf9 sf else tq_bd (m_negate nz lf9 sf q) (fun u : Int32 × (Nat → Int32) × (Nat → Int32) => tq_nm u.1 (fun r17 : Int32 => tq_nm u.2.1 (fun lf18 : Nat → Int32 => tq_nm u.2.2 (fun sf19 : Nat → Int32 => m_total_b76 nz v2 sq lf18 sf19)))))
def m_total_b49 (nz : Int32) (q : Int32) (t0 : Int32) (sq : Int32) (lf : Nat → Int32) (sf : Nat → Int32) : Option (Int32 × Int32 × (Nat → Int32) × (Nat → Int32)) := if t0 = 0 then m_total_b60 nz q t0 sq lf sf else tq_bd (m_negate nz lf sf q) (fun u : Int32 × (Nat → Int32) × (Nat → Int32) => tq_nm u.1 (fun r20 : Int32 => tq_nm u.2.1 (fun lf21 : Nat → Int32 => tq_nm u.2.2 (fun sf22 : Nat → Int32 => m_total_b60 nz q t0 sq lf21 sf22))))
def m_total (nz : Int32) (sq : Int32) (lf : Nat → Int32) (sf : Nat → Int32) (q : Int32) : Option (Int32 × Int32 × (Nat → Int32) × (Nat → Int32)) := if (m_isSum q) = 0 then m_total_b15 nz sq lf sf else tq_bd (m_lost nz sf q) (fun r4 : Int32 => if r4 = 0 then if (((((32 : Int32) * q) + nz) - (1 : Int32)) < 0 ∨ 64 ≤ ((((32 : Int32) * q) + nz) - (1 : Int32)).toNatClampNeg) then none else if (sf ((((32 : Int32) * q) + nz) - (1 : Int32)).toNatClampNeg) < (32768 : Int32) then m_total_b49 nz q (0 : Int32) sq lf sf else m_total_b49 nz q (1 : Int32) sq lf sf else m_total_b15 nz sq lf sf)
def m_word_b28 (sf : Nat → Int32) (q : Int32) (kx : Int32) : Nat → Int64 → Int32 → Option (Int64)
  | 0, _, _ => none
  | n + 1, v3, v5 => if v5 < 0 then some v3 else if (((((32 : Int32) * q) + ((4 : Int32) * kx)) + v5) < 0 ∨ 64 ≤ ((((32 : Int32) * q) + ((4 : Int32) * kx)) + v5).toNatClampNeg) then none else tq_nm ((v3 <<< ((16 : Int32).toInt64 &&& 63)) ||| ((sf ((((32 : Int32) * q) + ((4 : Int32) * kx)) + v5).toNatClampNeg).toInt64)) (fun x7 : Int64 => (m_word_b28 sf q kx n) x7 (v5 + (-1 : Int32)))
def m_word (nz : Int32) (sf : Nat → Int32) (q : Int32) (kx : Int32) : Option (Int64) := if (m_isSum q) = 0 then some (0 : Int64) else if kx < 0 then some (0 : Int64) else if kx < (nz / (4 : Int32)) then m_word_b28 sf q kx 41 (0 : Int64) (3 : Int32) else some (0 : Int64)
def m_compare (nz : Int32) (x : Int32) (y : Int32) : Int32 := tq_nm (m_pattern nz x) (fun x2 : Int32 => tq_nm (m_pattern nz y) (fun x4 : Int32 => if ¬ x2 = x4 then if x4 ≤ x2 then (1 : Int32) else (-1 : Int32) else (0 : Int32)))
theorem zb_m_isSum (q : Int32) : m_isSum q = 0 ∨ m_isSum q = 1 := by
  unfold m_isSum; (repeat' split) <;> simp
theorem zb_m_isNot (nz : Int32) (x : Int32) : m_isNot nz x = 0 ∨ m_isNot nz x = 1 := by
  unfold m_isNot; (repeat' split) <;> simp
theorem zb_m_negative (nz : Int32) (x : Int32) : m_negative nz x = 0 ∨ m_negative nz x = 1 := by
  unfold m_negative; (repeat' split) <;> simp
end
section
/-- a limb's number -/
def tq_lim (x : Int32) : Nat := x.toInt.toNat
def tq_WL (N : Nat) (f : Nat → Int32) : Prop := ∀ i, i < N → 0 ≤ (f i).toInt ∧ (f i).toInt < 65536
/-- what k limbs from b on stand for -/
def tq_rv (f : Nat → Int32) (b : Nat) : Nat → Nat
  | 0 => 0
  | k + 1 => tq_rv f b k + tq_lim (f (b + k)) * 2 ^ (16 * k)
theorem tq_p16 (k : Nat) : 2 ^ (16 * (k + 1)) = 2 ^ 16 * 2 ^ (16 * k) := by rw [← Nat.pow_add]; congr 1; omega
theorem tq_lim_i {x : Int32} (h : 0 ≤ x.toInt) : (tq_lim x : Int) = x.toInt := by unfold tq_lim; omega
theorem tq_lim_of {x : Int32} {k : Nat} (h : x.toInt = k) : tq_lim x = k := by unfold tq_lim; omega
theorem tq_lim_lt {N : Nat} {f : Nat → Int32} (h : tq_WL N f) {i : Nat} (hi : i < N) : tq_lim (f i) < 65536 := by
  have := h i hi; unfold tq_lim; omega
theorem tq_lim_0 : tq_lim 0 = 0 := rfl
theorem tq_rv_lt {f : Nat → Int32} {b : Nat} : ∀ {k : Nat}, (∀ j, j < k → tq_lim (f (b + j)) < 65536) → tq_rv f b k < 2 ^ (16 * k)
  | 0, _ => by simp [tq_rv]
  | k + 1, h => by
    have h1 := tq_rv_lt (k := k) (fun j hj => h j (by omega))
    have h2 := h k (by omega)
    rw [tq_rv, tq_p16]
    have : tq_lim (f (b + k)) * 2 ^ (16 * k) ≤ (2 ^ 16 - 1) * 2 ^ (16 * k) := Nat.mul_le_mul_right _ (by omega)
    rw [Nat.sub_mul] at this
    have : 1 * 2 ^ (16 * k) ≤ 2 ^ 16 * 2 ^ (16 * k) := Nat.mul_le_mul_right _ (by decide)
    omega
theorem tq_rv_congr {f g : Nat → Int32} {b c : Nat} : ∀ {k : Nat}, (∀ j, j < k → f (b + j) = g (c + j)) → tq_rv f b k = tq_rv g c k
  | 0, _ => rfl
  | k + 1, h => by rw [tq_rv, tq_rv, tq_rv_congr (k := k) (fun j hj => h j (by omega)), h k (by omega)]
theorem tq_rv_zero {f : Nat → Int32} {b : Nat} : ∀ {k : Nat}, (∀ j, j < k → f (b + j) = 0) → tq_rv f b k = 0
  | 0, _ => rfl
  | k + 1, h => by rw [tq_rv, tq_rv_zero (k := k) (fun j hj => h j (by omega)), h k (by omega), tq_lim_0]; omega
theorem tq_rv_eq0 {f : Nat → Int32} {b N : Nat} (hw : tq_WL N f) : ∀ {k : Nat}, b + k ≤ N → tq_rv f b k = 0 → ∀ j, j < k → f (b + j) = 0
  | 0, _, _ => fun j hj => by omega
  | k + 1, hk, h => by
    rw [tq_rv] at h
    have p := Nat.two_pow_pos (16 * k)
    have h1 : tq_rv f b k = 0 := by omega
    have h2 : tq_lim (f (b + k)) = 0 := by
      rcases Nat.eq_zero_or_pos (tq_lim (f (b + k))) with q | q
      · exact q
      · have := Nat.mul_pos q p; omega
    intro j hj
    rcases Nat.lt_or_ge j k with q | q
    · exact tq_rv_eq0 hw (k := k) (by omega) h1 j q
    · have : j = k := by omega
      subst this
      have := hw (b + j) (by omega)
      apply Int32.toInt.inj
      unfold tq_lim at h2
      show _ = 0
      omega
theorem tq_rv_split {f : Nat → Int32} {b i : Nat} : ∀ m, tq_rv f b (i + m) = tq_rv f b i + 2 ^ (16 * i) * tq_rv f (b + i) m
  | 0 => by simp [tq_rv]
  | m + 1 => by
    show tq_rv f b (i + m) + tq_lim (f (b + (i + m))) * 2 ^ (16 * (i + m)) = _
    have e : tq_lim (f (b + (i + m))) * 2 ^ (16 * (i + m)) = 2 ^ (16 * i) * (tq_lim (f (b + i + m)) * 2 ^ (16 * m)) := by
      rw [Nat.mul_left_comm, ← Nat.pow_add, Nat.add_assoc b i m]; congr 2; omega
    rw [tq_rv_split m, e, tq_rv, Nat.mul_add, Nat.add_assoc]
theorem tq_upI_at (f : Nat → Int32) (i : Nat) (x : Int32) : upd f i x i = x := by unfold upd; rw [if_pos rfl]
theorem tq_upI_ne {f : Nat → Int32} {i j : Nat} {x : Int32} (h : j ≠ i) : upd f i x j = f j := by unfold upd; rw [if_neg h]
theorem tq_ix40 (r i : Nat) : (40 : Int32) * nI r + nI i = nI (40 * r + i) := by
  show nI 40 * nI r + nI i = _
  unfold nI; rw [← Int32.ofNat_mul, ← Int32.ofNat_add]
theorem tq_ixok {r i : Nat} (hr : r ≤ 4) (hi : i < 40) : ¬ (nI (40 * r + i) < 0 ∨ 200 ≤ (nI (40 * r + i)).toNatClampNeg) := tq_nI_ok (by omega) (by omega)
theorem tq_ixcl {r i : Nat} (hr : r ≤ 4) (hi : i < 40) : (nI (40 * r + i)).toNatClampNeg = 40 * r + i := tq_nI_cl (by omega)
theorem tq_and16 (x : Int32) : (x &&& 65535).toInt = x.toInt % 65536 := by
  have h1 : tq_u32 (x &&& 65535) = tq_u32 x % 2 ^ 16 := by
    rw [tq_u32_and]
    have : tq_u32 (65535 : Int32) = 2 ^ 16 - 1 := rfl
    rw [this, Nat.and_two_pow_sub_one_eq_mod]
  have h2 := tq_i32_of_u h1 (by omega)
  have h3 := tq_u32_i x
  omega
theorem tq_sar16 (x : Int32) : (x >>> ((16 : Int32) &&& 31)).toInt = x.toInt / 65536 := by
  rw [tq_i32_shr (k := 16) rfl (by omega)]; rfl
theorem tq_WL_upd {N : Nat} {f : Nat → Int32} (h : tq_WL N f) {k : Nat} {x : Int32} (hx : 0 ≤ x.toInt ∧ x.toInt < 65536) : tq_WL N (upd f k x) := by
  intro i hi
  by_cases q : i = k
  · subst q; rw [tq_upI_at]; exact hx
  · rw [tq_upI_ne q]; exact h i hi
theorem tq_WL_upd16 {N : Nat} {f : Nat → Int32} (h : tq_WL N f) {k : Nat} (x : Int32) : tq_WL N (upd f k (x &&& 65535)) :=
  tq_WL_upd h (by rw [tq_and16]; omega)
/-- nothing but row r may differ -/
def tq_Fr (r : Nat) (f g : Nat → Int32) : Prop := ∀ x, x / 40 ≠ r → g x = f x
theorem tq_Fr_rv {r : Nat} {f g : Nat → Int32} (h : tq_Fr r f g) {q : Nat} (hq : q ≠ r) : tq_rv g (40 * q) 40 = tq_rv f (40 * q) 40 := by
  exact tq_rv_congr (fun j hj => h _ (by omega))

theorem tq_zero_loop {r : Nat} (hr : r ≤ 4) : ∀ n i (f : Nat → Int32), i ≤ 40 → 40 < n + i →
    ∃ g, m_zero_b2 (nI r) n (nI i) f = some g ∧ (∀ j, i ≤ j → j < 40 → g (40 * r + j) = 0) ∧ (∀ x, (x < 40 * r + i ∨ 40 * r + 40 ≤ x) → g x = f x)
  | 0, i, f, h1, h2 => by omega
  | n + 1, i, f, h1, h2 => by
    unfold m_zero_b2
    show ∃ g, (if nI 40 ≤ nI i then some f else _) = some g ∧ _
    by_cases h : 40 ≤ i
    · rw [if_pos ((tq_nI_le (by omega) (by omega)).2 h)]
      exact ⟨f, rfl, fun j a b => by omega, fun _ _ => rfl⟩
    · rw [if_neg (fun q => h ((tq_nI_le (by omega) (by omega)).1 q)), tq_ix40, if_neg (tq_ixok hr (by omega)), tq_ixcl hr (by omega), tq_nI_add]
      obtain ⟨g, e, a, b⟩ := tq_zero_loop hr n (i + 1) (upd f (40 * r + i) 0) (by omega) (by omega)
      refine ⟨g, e, fun j h3 h4 => ?_, fun x h3 => ?_⟩
      · rcases Nat.eq_or_lt_of_le h3 with q | q
        · subst q; rw [b _ (by omega), tq_upI_at]
        · exact a j (by omega) h4
      · rw [b x (by omega), tq_upI_ne (by omega)]
theorem tq_zero_spec {r : Nat} (hr : r ≤ 4) {f : Nat → Int32} (hw : tq_WL 200 f) : ∃ g, m_zero f (nI r) = some g ∧ tq_WL 200 g ∧ tq_Fr r f g ∧ (∀ j, j < 40 → g (40 * r + j) = 0) := by
  obtain ⟨g, e, a, b⟩ := tq_zero_loop hr 41 0 f (by omega) (by omega)
  refine ⟨g, e, fun i hi => ?_, fun x hx => b x (by omega), fun j hj => a j (by omega) hj⟩
  by_cases q : i / 40 = r
  · have : i = 40 * r + (i - 40 * r) := by omega
    rw [this, a (i - 40 * r) (by omega) (by omega)]; decide
  · rw [b i (by omega)]; exact hw i hi
theorem tq_zero_rv {r : Nat} {g : Nat → Int32} (h : ∀ j, j < 40 → g (40 * r + j) = 0) : tq_rv g (40 * r) 40 = 0 := tq_rv_zero h
theorem tq_move_loop {a b : Nat} (ha : a ≤ 4) (hb : b ≤ 4) (hab : a ≠ b) (f0 : Nat → Int32) : ∀ n i (f : Nat → Int32), i ≤ 40 → 40 < n + i → tq_WL 200 f → tq_Fr b f0 f → (∀ j, j < i → f (40 * b + j) = f0 (40 * a + j)) →
    ∃ g, m_move_b2 (nI a) (nI b) n (nI i) f = some g ∧ tq_WL 200 g ∧ tq_Fr b f0 g ∧ (∀ j, j < 40 → g (40 * b + j) = f0 (40 * a + j))
  | 0, i, f, h1, h2, hw, hf, hs => by omega
  | n + 1, i, f, h1, h2, hw, hf, hs => by
    unfold m_move_b2
    show ∃ g, (if nI 40 ≤ nI i then some f else _) = some g ∧ _
    by_cases h : 40 ≤ i
    · rw [if_pos ((tq_nI_le (by omega) (by omega)).2 h)]
      exact ⟨f, rfl, hw, hf, fun j hj => hs j (by omega)⟩
    · rw [if_neg (fun q => h ((tq_nI_le (by omega) (by omega)).1 q)), tq_ix40, tq_ix40, if_neg (tq_ixok ha (by omega)), if_neg (tq_ixok hb (by omega)), tq_ixcl ha (by omega), tq_ixcl hb (by omega), tq_nI_add]
      apply tq_move_loop ha hb hab f0 n (i + 1) _ (by omega) (by omega)
      · exact tq_WL_upd hw (hw _ (by omega))
      · intro x hx; rw [tq_upI_ne (by omega)]; exact hf x hx
      · intro j hj
        rcases Nat.lt_or_ge j i with q | q
        · rw [tq_upI_ne (by omega)]; exact hs j q
        · have : j = i := by omega
          subst this; rw [tq_upI_at]; exact hf _ (by omega)
theorem tq_move_spec {a b : Nat} (ha : a ≤ 4) (hb : b ≤ 4) (hab : a ≠ b) {f : Nat → Int32} (hw : tq_WL 200 f) : ∃ g, m_move f (nI a) (nI b) = some g ∧ tq_WL 200 g ∧ tq_Fr b f g ∧ tq_rv g (40 * b) 40 = tq_rv f (40 * a) 40 := by
  obtain ⟨g, e, w, fr, h⟩ := tq_move_loop ha hb hab f 41 0 f (by omega) (by omega) hw (fun _ _ => rfl) (fun j hj => by omega)
  exact ⟨g, e, w, fr, tq_rv_congr h⟩
theorem tq_order_loop {a b : Nat} (ha : a ≤ 4) (hb : b ≤ 4) {f : Nat → Int32} (hw : tq_WL 200 f) : ∀ i n, i ≤ 40 → i < n → (∀ j, i ≤ j → j < 40 → f (40 * a + j) = f (40 * b + j)) →
    ∃ r, m_order_b3 f (nI a) (nI b) n (nI i + (-1)) = some r ∧ ((tq_rv f (40 * a) i < tq_rv f (40 * b) i ∧ r = -1) ∨ (tq_rv f (40 * a) i = tq_rv f (40 * b) i ∧ r = 0) ∨ (tq_rv f (40 * b) i < tq_rv f (40 * a) i ∧ r = 1))
  | 0, n, h1, h2, hs => by
    obtain ⟨m, rfl⟩ : ∃ m, n = m + 1 := ⟨n - 1, by omega⟩
    unfold m_order_b3
    exact ⟨0, by rw [if_pos (by decide)], .inr (.inl ⟨rfl, rfl⟩)⟩
  | i + 1, n, h1, h2, hs => by
    obtain ⟨m, rfl⟩ : ∃ m, n = m + 1 := ⟨n - 1, by omega⟩
    unfold m_order_b3
    rw [tq_nI_pred (by omega), if_neg (tq_nI_nn (by omega)), tq_ix40, tq_ix40, if_neg (tq_ixok ha (by omega)), tq_nm_e, if_neg (tq_ixok hb (by omega)), tq_nm_e, tq_ixcl ha (by omega), tq_ixcl hb (by omega)]
    have la := hw (40 * a + i) (by omega)
    have lb := hw (40 * b + i) (by omega)
    have lt : ∀ c, c ≤ 4 → tq_rv f (40 * c) i < 2 ^ (16 * i) := fun c hc => tq_rv_lt (fun j hj => tq_lim_lt hw (by omega))
    have lta := lt a ha
    have ltb := lt b hb
    rw [tq_rv, tq_rv]
    have p := Nat.two_pow_pos (16 * i)
    by_cases q : f (40 * a + i) = f (40 * b + i)
    · rw [if_pos q]
      obtain ⟨r, e, hr⟩ := tq_order_loop ha hb hw i m (by omega) (by omega) (fun j h3 h4 => by
        rcases Nat.eq_or_lt_of_le h3 with w | w
        · subst w; exact q
        · exact hs j (by omega) h4)
      refine ⟨r, e, ?_⟩
      rw [q]
      rcases hr with ⟨w1, w2⟩ | ⟨w1, w2⟩ | ⟨w1, w2⟩
      · exact .inl ⟨by omega, w2⟩
      · exact .inr (.inl ⟨by omega, w2⟩)
      · exact .inr (.inr ⟨by omega, w2⟩)
    · rw [if_neg q]
      have q2 : (f (40 * a + i)).toInt ≠ (f (40 * b + i)).toInt := fun w => q (Int32.toInt.inj w)
      by_cases w : f (40 * b + i) ≤ f (40 * a + i)
      · rw [if_pos w]; rw [Int32.le_iff_toInt_le] at w
        refine ⟨1, rfl, .inr (.inr ⟨?_, rfl⟩)⟩
        have : (tq_lim (f (40 * b + i)) + 1) * 2 ^ (16 * i) ≤ tq_lim (f (40 * a + i)) * 2 ^ (16 * i) := Nat.mul_le_mul_right _ (by unfold tq_lim; omega)
        rw [Nat.add_mul] at this; omega
      · rw [if_neg w]; rw [Int32.le_iff_toInt_le] at w
        refine ⟨-1, rfl, .inl ⟨?_, rfl⟩⟩
        have : (tq_lim (f (40 * a + i)) + 1) * 2 ^ (16 * i) ≤ tq_lim (f (40 * b + i)) * 2 ^ (16 * i) := Nat.mul_le_mul_right _ (by unfold tq_lim; omega)
        rw [Nat.add_mul] at this; omega
theorem tq_order_spec {a b : Nat} (ha : a ≤ 4) (hb : b ≤ 4) {f : Nat → Int32} (hw : tq_WL 200 f) :
    ∃ r, m_order f (nI a) (nI b) = some r ∧ ((tq_rv f (40 * a) 40 < tq_rv f (40 * b) 40 ∧ r = -1) ∨ (tq_rv f (40 * a) 40 = tq_rv f (40 * b) 40 ∧ r = 0) ∨ (tq_rv f (40 * b) 40 < tq_rv f (40 * a) 40 ∧ r = 1)) := by
  have := tq_order_loop ha hb hw 40 41 (by omega) (by omega) (fun j h3 h4 => by omega)
  exact this
theorem tq_isZero_loop {a : Nat} (ha : a ≤ 4) (f : Nat → Int32) : ∀ n i (v : Int32), i ≤ 40 → 40 < n + i → (v = 0 ∨ v = 1) → (v = 1 ↔ ∀ j, j < i → f (40 * a + j) = 0) →
    ∃ r, m_isZero_b4 f (nI a) n v (nI i) = some r ∧ (r = 0 ∨ r = 1) ∧ (r = 1 ↔ ∀ j, j < 40 → f (40 * a + j) = 0)
  | 0, i, v, h1, h2, hv, hs => by omega
  | n + 1, i, v, h1, h2, hv, hs => by
    unfold m_isZero_b4 m_isZero_b33
    show ∃ r, (if nI 40 ≤ nI i then some v else _) = some r ∧ _
    by_cases h : 40 ≤ i
    · have : i = 40 := by omega
      subst this
      rw [if_pos ((tq_nI_le (by omega) (by omega)).2 h)]
      exact ⟨v, rfl, hv, hs⟩
    · rw [if_neg (fun q => h ((tq_nI_le (by omega) (by omega)).1 q)), tq_ix40, if_neg (tq_ixok ha (by omega)), tq_ixcl ha (by omega), tq_nI_add]
      by_cases q : v = 0
      · rw [if_pos q]
        apply tq_isZero_loop ha f n (i + 1) 0 (by omega) (by omega) (.inl rfl)
        constructor
        · intro w; exact absurd w (by decide)
        · intro w
          have := hs.2 (fun j hj => w j (by omega))
          rw [this] at q; exact absurd q (by decide)
      · rw [if_neg q]
        have v1 : v = 1 := hv.resolve_left q
        by_cases w : f (40 * a + i) = 0
        · rw [if_neg (fun z => z w)]
          apply tq_isZero_loop ha f n (i + 1) 1 (by omega) (by omega) (.inr rfl)
          constructor
          · intro _ j hj
            rcases Nat.lt_or_ge j i with z | z
            · exact hs.1 v1 j z
            · have : j = i := by omega
              subst this; exact w
          · intro _; rfl
        · rw [if_pos w]
          apply tq_isZero_loop ha f n (i + 1) 0 (by omega) (by omega) (.inl rfl)
          constructor
          · intro z; exact absurd z (by decide)
          · intro z; exact absurd (z i (by omega)) w
theorem tq_isZero_spec {a : Nat} (ha : a ≤ 4) {f : Nat → Int32} (hw : tq_WL 200 f) : ∃ r, m_isZero f (nI a) = some r ∧ ((tq_rv f (40 * a) 40 = 0 ∧ r = 1) ∨ (tq_rv f (40 * a) 40 ≠ 0 ∧ r = 0)) := by
  obtain ⟨r, e, h1, h2⟩ := tq_isZero_loop ha f 41 0 1 (by omega) (by omega) (.inr rfl) ⟨fun _ j hj => by omega, fun _ => rfl⟩
  refine ⟨r, e, ?_⟩
  by_cases q : tq_rv f (40 * a) 40 = 0
  · exact .inl ⟨q, h2.2 (tq_rv_eq0 hw (by omega) q)⟩
  · right
    refine ⟨q, h1.resolve_right (fun w => q (tq_rv_zero (h2.1 w)))⟩
theorem tq_plus_loop {a b : Nat} (ha : a ≤ 4) (hb : b ≤ 4) (hab : a ≠ b) {f0 : Nat → Int32} (hw0 : tq_WL 200 f0) : ∀ n i (c : Int32) (f : Nat → Int32), i ≤ 40 → 40 < n + i → (c = 0 ∨ c = 1) → tq_WL 200 f → tq_Fr a f0 f → (∀ j, i ≤ j → j < 40 → f (40 * a + j) = f0 (40 * a + j)) →
    tq_rv f (40 * a) i + tq_lim c * 2 ^ (16 * i) = tq_rv f0 (40 * a) i + tq_rv f0 (40 * b) i →
    ∃ g c', m_plus_b5 (nI a) (nI b) n c (nI i) f = some g ∧ tq_WL 200 g ∧ tq_Fr a f0 g ∧ tq_rv g (40 * a) 40 + c' * 2 ^ 640 = tq_rv f0 (40 * a) 40 + tq_rv f0 (40 * b) 40
  | 0, i, c, f, h1, h2, hc, hw, hf, hk, hs => by omega
  | n + 1, i, c, f, h1, h2, hc, hw, hf, hk, hs => by
    unfold m_plus_b5
    show ∃ g c', (if nI 40 ≤ nI i then some f else _) = some g ∧ _
    by_cases h : 40 ≤ i
    · have : i = 40 := by omega
      subst this
      rw [if_pos ((tq_nI_le (by omega) (by omega)).2 h)]
      exact ⟨f, tq_lim c, rfl, hw, hf, hs⟩
    · rw [if_neg (fun q => h ((tq_nI_le (by omega) (by omega)).1 q)), tq_ix40, tq_ix40, if_neg (tq_ixok ha (by omega)), if_neg (tq_ixok hb (by omega)), tq_nm_e, if_neg (tq_ixok ha (by omega)), tq_nm_e, tq_ixcl ha (by omega), tq_ixcl hb (by omega), tq_nI_add]
      have eb : f (40 * b + i) = f0 (40 * b + i) := hf _ (by omega)
      have ea : f (40 * a + i) = f0 (40 * a + i) := hk i (Nat.le_refl _) (by omega)
      rw [ea, eb]
      have la := hw0 (40 * a + i) (by omega)
      have lb := hw0 (40 * b + i) (by omega)
      have lc : 0 ≤ c.toInt ∧ c.toInt ≤ 1 := by rcases hc with rfl | rfl <;> decide
      have e1 : (f0 (40 * a + i) + f0 (40 * b + i)).toInt = (f0 (40 * a + i)).toInt + (f0 (40 * b + i)).toInt := tq_i32_add (by omega)
      have e2 : (f0 (40 * a + i) + f0 (40 * b + i) + c).toInt = (f0 (40 * a + i)).toInt + (f0 (40 * b + i)).toInt + c.toInt := by rw [tq_i32_add (by rw [e1]; omega), e1]
      generalize f0 (40 * a + i) + f0 (40 * b + i) + c = s at *
      have e3 := tq_sar16 s
      have e4 := tq_and16 s
      generalize hcn : s >>> ((16 : Int32) &&& 31) = c' at *
      apply tq_plus_loop ha hb hab hw0 n (i + 1) c' _ (by omega) (by omega)
      · have : c'.toInt = 0 ∨ c'.toInt = 1 := by omega
        rcases this with w | w
        · left; exact Int32.toInt.inj w
        · right; exact Int32.toInt.inj w
      · exact tq_WL_upd16 hw s
      · intro x hx; rw [tq_upI_ne (by omega)]; exact hf x hx
      · intro j h3 h4; rw [tq_upI_ne (by omega)]; exact hk j (by omega) h4
      · rw [tq_rv, tq_rv, tq_rv, tq_upI_at, tq_p16, tq_rv_congr (g := f) (c := 40 * a) (fun j hj => by rw [tq_upI_ne (by omega)])]
        have key : tq_lim (s &&& 65535) + tq_lim c' * 2 ^ 16 = tq_lim (f0 (40 * a + i)) + tq_lim (f0 (40 * b + i)) + tq_lim c := by unfold tq_lim; omega
        have := congrArg (· * 2 ^ (16 * i)) key
        simp only [Nat.add_mul, Nat.mul_assoc] at this
        omega
theorem tq_plus_spec {a b : Nat} (ha : a ≤ 4) (hb : b ≤ 4) (hab : a ≠ b) {f : Nat → Int32} (hw : tq_WL 200 f) : ∃ g, m_plus f (nI a) (nI b) = some g ∧ tq_WL 200 g ∧ tq_Fr a f g ∧ tq_rv g (40 * a) 40 = (tq_rv f (40 * a) 40 + tq_rv f (40 * b) 40) % 2 ^ 640 := by
  obtain ⟨g, c', e, w, fr, h⟩ := tq_plus_loop ha hb hab hw 41 0 0 f (by omega) (by omega) (.inl rfl) hw (fun _ _ => rfl) (fun _ _ _ => rfl) (by simp [tq_rv, tq_lim_0])
  refine ⟨g, e, w, fr, ?_⟩
  have hl : tq_rv g (40 * a) 40 < 2 ^ (16 * 40) := tq_rv_lt (fun j hj => tq_lim_lt w (by omega))
  rw [← h, Nat.add_mul_mod_self_right, Nat.mod_eq_of_lt hl]
theorem tq_apart_loop {a b t : Nat} (ha : a ≤ 4) (hb : b ≤ 4) (ht : t ≤ 4) {f0 : Nat → Int32} (hw0 : tq_WL 200 f0) : ∀ n i (c : Int32) (f : Nat → Int32), i ≤ 40 → 40 < n + i → (c = 0 ∨ c = 1) → tq_WL 200 f → tq_Fr t f0 f → (∀ j, i ≤ j → j < 40 → f (40 * t + j) = f0 (40 * t + j)) →
    tq_rv f (40 * t) i + tq_rv f0 (40 * b) i = tq_rv f0 (40 * a) i + tq_lim c * 2 ^ (16 * i) →
    ∃ g c', m_apart_b6 (nI a) (nI b) (nI t) n c (nI i) f = some g ∧ tq_WL 200 g ∧ tq_Fr t f0 g ∧ tq_rv g (40 * t) 40 + tq_rv f0 (40 * b) 40 = tq_rv f0 (40 * a) 40 + c' * 2 ^ 640
  | 0, i, c, f, h1, h2, hc, hw, hf, hk, hs => by omega
  | n + 1, i, c, f, h1, h2, hc, hw, hf, hk, hs => by
    unfold m_apart_b6 m_apart_b70
    show ∃ g c', (if nI 40 ≤ nI i then some f else _) = some g ∧ _
    by_cases h : 40 ≤ i
    · have : i = 40 := by omega
      subst this
      rw [if_pos ((tq_nI_le (by omega) (by omega)).2 h)]
      exact ⟨f, tq_lim c, rfl, hw, hf, hs⟩
    · rw [if_neg (fun q => h ((tq_nI_le (by omega) (by omega)).1 q)), tq_ix40, tq_ix40, tq_ix40, if_neg (tq_ixok ha (by omega)), if_neg (tq_ixok hb (by omega)), tq_nm_e, if_neg (tq_ixok ht (by omega)), tq_ixcl ha (by omega), tq_ixcl hb (by omega), tq_ixcl ht (by omega), tq_nI_add]
      have same : ∀ c, c ≤ 4 → f (40 * c + i) = f0 (40 * c + i) := fun c hc => by
        by_cases q : c = t
        · subst q; exact hk i (Nat.le_refl _) (by omega)
        · exact hf _ (by omega)
      rw [same a ha, same b hb]
      have la := hw0 (40 * a + i) (by omega)
      have lb := hw0 (40 * b + i) (by omega)
      have lc : 0 ≤ c.toInt ∧ c.toInt ≤ 1 := by rcases hc with rfl | rfl <;> decide
      have e1 : (f0 (40 * a + i) - f0 (40 * b + i)).toInt = (f0 (40 * a + i)).toInt - (f0 (40 * b + i)).toInt := tq_i32_sub (by omega)
      have e2 : (f0 (40 * a + i) - f0 (40 * b + i) - c).toInt = (f0 (40 * a + i)).toInt - (f0 (40 * b + i)).toInt - c.toInt := by rw [tq_i32_sub (by rw [e1]; omega), e1]
      generalize f0 (40 * a + i) - f0 (40 * b + i) - c = s at *
      have e4 := tq_and16 s
      have c0 : ((0 : Int32)).toInt = 0 := rfl
      have fin : ∀ c' : Int32, (c' = 0 ∨ c' = 1) → tq_lim (s &&& 65535) + tq_lim (f0 (40 * b + i)) + tq_lim c = tq_lim (f0 (40 * a + i)) + tq_lim c' * 2 ^ 16 →
          ∃ g c'', m_apart_b6 (nI a) (nI b) (nI t) n c' (nI (i + 1)) (upd f (40 * t + i) (s &&& 65535)) = some g ∧ tq_WL 200 g ∧ tq_Fr t f0 g ∧ tq_rv g (40 * t) 40 + tq_rv f0 (40 * b) 40 = tq_rv f0 (40 * a) 40 + c'' * 2 ^ 640 := by
        intro c' hc' key
        apply tq_apart_loop ha hb ht hw0 n (i + 1) c' _ (by omega) (by omega) hc'
        · exact tq_WL_upd16 hw s
        · intro x hx; rw [tq_upI_ne (by omega)]; exact hf x hx
        · intro j h3 h4; rw [tq_upI_ne (by omega)]; exact hk j (by omega) h4
        · rw [tq_rv, tq_rv, tq_rv, tq_upI_at, tq_p16, tq_rv_congr (g := f) (c := 40 * t) (fun j hj => by rw [tq_upI_ne (by omega)])]
          have := congrArg (· * 2 ^ (16 * i)) key
          simp only [Nat.add_mul, Nat.mul_assoc] at this
          omega
      by_cases q : 0 ≤ s
      · rw [if_pos q]; rw [Int32.le_iff_toInt_le, c0] at q
        exact fin 0 (.inl rfl) (by rw [tq_lim_0]; unfold tq_lim; omega)
      · rw [if_neg q]; rw [Int32.le_iff_toInt_le, c0] at q
        have l1 : tq_lim 1 = 1 := rfl
        exact fin 1 (.inr rfl) (by rw [l1]; unfold tq_lim; omega)
theorem tq_apart_spec {a b t : Nat} (ha : a ≤ 4) (hb : b ≤ 4) (ht : t ≤ 4) {f : Nat → Int32} (hw : tq_WL 200 f) (hle : tq_rv f (40 * b) 40 ≤ tq_rv f (40 * a) 40) : ∃ g, m_apart f (nI a) (nI b) (nI t) = some g ∧ tq_WL 200 g ∧ tq_Fr t f g ∧ tq_rv g (40 * t) 40 = tq_rv f (40 * a) 40 - tq_rv f (40 * b) 40 := by
  obtain ⟨g, c', e, w, fr, h⟩ := tq_apart_loop ha hb ht hw 41 0 0 f (by omega) (by omega) (.inl rfl) hw (fun _ _ => rfl) (fun _ _ _ => rfl) (by simp [tq_rv, tq_lim_0])
  refine ⟨g, e, w, fr, ?_⟩
  have hl : tq_rv g (40 * t) 40 < 2 ^ (16 * 40) := tq_rv_lt (fun j hj => tq_lim_lt w (by omega))
  have hl2 : 2 ^ (16 * 40) = 2 ^ 640 := rfl
  rw [hl2] at hl
  generalize 2 ^ 640 = X at *
  rcases Nat.eq_zero_or_pos c' with q | q
  · subst q; omega
  · have := Nat.mul_le_mul_right X q; omega
end
section
theorem tq_i64_of_lim {x : Int32} (h : 0 ≤ x.toInt) : x.toInt64.toInt = (tq_lim x : Int) := by rw [tq_i64_of_32, tq_lim_i h]
theorem tq_and16L {x : Int64} {k : Nat} (h : x.toInt = k) : ((x &&& 65535).toInt32).toInt = ((k % 65536 : Nat) : Int) := by
  have h1 : tq_u64 (x &&& 65535) = tq_u64 x % 2 ^ 16 := by
    rw [tq_u64_and]
    have : tq_u64 (65535 : Int64) = 2 ^ 16 - 1 := rfl
    rw [this, Nat.and_two_pow_sub_one_eq_mod]
  apply tq_i32_of_u
  · rw [tq_u32_of_64, h1, tq_u64_of_i h]; omega
  · omega
theorem tq_ix40b (r i j : Nat) : (40 : Int32) * nI r + nI i + nI j = nI (40 * r + i + j) := by
  rw [tq_ix40]; unfold nI; rw [← Int32.ofNat_add]
theorem tq_alg1 (X V L P Q : Nat) : X * (V + L * P) * Q = X * V * Q + X * (L * (P * Q)) := by
  rw [Nat.mul_add, Nat.add_mul, Nat.mul_assoc X (L * P) Q, Nat.mul_assoc L P Q]
theorem tq_alg2 (L R H P Q : Nat) : L * Q * (R + P * H) = L * R * Q + L * H * (P * Q) := by
  rw [Nat.mul_add, Nat.mul_right_comm L Q R, Nat.mul_right_comm L Q (P * H), Nat.mul_comm P H, Nat.mul_assoc L (H * P) Q, Nat.mul_assoc H P Q, ← Nat.mul_assoc L H (P * Q)]
theorem tq_alg3 {A B C X V Q P R : Nat} (hX : X = 0) (hC : C = 0) (h : A + C * R = B) : A + 0 * P = B + X * V * Q := by
  subst hX hC; rw [Nat.zero_mul, Nat.add_zero] at h; rw [h, Nat.zero_mul, Nat.zero_mul, Nat.zero_mul]
theorem tq_times_inner {b t : Nat} (hb : b ≤ 4) (ht : t ≤ 4) (hbt : b ≠ t) {k8 : Int32 → (Nat → Int32) → Option (Nat → Int32)} {i : Nat} (hi : i < 40) {x : Int64} {X : Nat} (hx : x.toInt = X) (hX : X < 65536) {f1 : Nat → Int32} (hw1 : tq_WL 200 f1) :
    ∀ n j (c : Int64) (C : Nat) (f : Nat → Int32), i + j ≤ 40 → 40 < n + i + j → c.toInt = C → C < 65536 → tq_WL 200 f → tq_Fr t f1 f → (∀ k, i + j ≤ k → k < 40 → f (40 * t + k) = f1 (40 * t + k)) →
    tq_rv f (40 * t) (i + j) + C * 2 ^ (16 * (i + j)) = tq_rv f1 (40 * t) (i + j) + X * tq_rv f1 (40 * b) j * 2 ^ (16 * i) →
    ∃ g c', m_times_b36 (nI b) (nI t) k8 n (nI i) x c (nI j) f = k8 (nI (i + 1)) g ∧ tq_WL 200 g ∧ tq_Fr t f1 g ∧ tq_rv g (40 * t) 40 + c' * 2 ^ 640 = tq_rv f1 (40 * t) 40 + X * tq_rv f1 (40 * b) (40 - i) * 2 ^ (16 * i) := by
  intro n
  induction n with
  | zero => intro j c C f h1 h2 hc hC hw hf hk hs; omega
  | succ n ih =>
    intro j c C f h1 h2 hc hC hw hf hk hs
    unfold m_times_b36
    have e40 : (40 : Int32) - nI i = nI (40 - i) := by
      apply Int32.toInt.inj
      have c40 : ((40 : Int32)).toInt = 40 := rfl
      rw [tq_i32_sub (by rw [tq_nI_i (by omega), c40]; omega), tq_nI_i (by omega), tq_nI_i (by omega), c40]; omega
    rw [e40, tq_nI_add]
    by_cases h : 40 - i ≤ j
    · rw [if_pos ((tq_nI_le (by omega) (by omega)).2 h)]
      have : i + j = 40 := by omega
      rw [this] at hs
      have ej : j = 40 - i := by omega
      rw [ej] at hs
      exact ⟨f, C, rfl, hw, hf, hs⟩
    · rw [if_neg (fun q => h ((tq_nI_le (by omega) (by omega)).1 q))]
      by_cases z : lg_cmp x 0 = 0
      · rw [if_pos z]; rw [tq_cmp_eq] at z
        have X0 : X = 0 := by rw [z] at hx; have : ((0 : Int64)).toInt = 0 := rfl; omega
        have hC0 : tq_rv f (40 * t) 40 + C * 2 ^ (16 * (i + j)) = tq_rv f1 (40 * t) 40 := by
          have s1 := tq_rv_split (f := f) (b := 40 * t) (i := i + j) (40 - (i + j))
          have s2 := tq_rv_split (f := f1) (b := 40 * t) (i := i + j) (40 - (i + j))
          have e : i + j + (40 - (i + j)) = 40 := by omega
          rw [e] at s1 s2
          have s3 : tq_rv f (40 * t + (i + j)) (40 - (i + j)) = tq_rv f1 (40 * t + (i + j)) (40 - (i + j)) := tq_rv_congr (fun k hk2 => by
            rw [Nat.add_assoc]; exact hk _ (by omega) (by omega))
          rw [s1, s2, s3]
          rw [X0] at hs; simp only [Nat.zero_mul] at hs; omega
        have hfl : tq_rv f (40 * t) (i + j) < 2 ^ (16 * (i + j)) := tq_rv_lt (fun k hk2 => tq_lim_lt hw (by omega))
        have hfl1 : tq_rv f1 (40 * t) (i + j) < 2 ^ (16 * (i + j)) := tq_rv_lt (fun k hk2 => tq_lim_lt hw1 (by omega))
        have C0 : C = 0 := by
          rcases Nat.eq_zero_or_pos C with q | q
          · exact q
          · rw [X0] at hs; simp only [Nat.zero_mul] at hs
            have := Nat.mul_le_mul_right (2 ^ (16 * (i + j))) q; omega
        exact ⟨f, 0, rfl, hw, hf, tq_alg3 X0 C0 hC0⟩
      · rw [if_neg z, tq_ix40, tq_ix40b, if_neg (tq_ixok hb (by omega)), Nat.add_assoc, if_neg (tq_ixok ht (by omega)), tq_nm_e, if_neg (tq_ixok ht (by omega)), tq_nm_e, tq_ixcl hb (by omega), tq_ixcl ht (by omega)]
        have eb : f (40 * b + j) = f1 (40 * b + j) := hf _ (by omega)
        have et : f (40 * t + (i + j)) = f1 (40 * t + (i + j)) := hk _ (Nat.le_refl _) (by omega)
        rw [eb, et]
        have lb := hw1 (40 * b + j) (by omega)
        have lt := hw1 (40 * t + (i + j)) (by omega)
        have lb2 := tq_lim_lt hw1 (i := 40 * b + j) (by omega)
        have lt2 := tq_lim_lt hw1 (i := 40 * t + (i + j)) (by omega)
        have hprod : X * tq_lim (f1 (40 * b + j)) ≤ 65535 * 65535 := Nat.mul_le_mul (by omega) (by omega)
        have m1 : (x * (f1 (40 * b + j)).toInt64).toInt = ((X * tq_lim (f1 (40 * b + j)) : Nat) : Int) := by
          have e : x.toInt * (f1 (40 * b + j)).toInt64.toInt = ((X * tq_lim (f1 (40 * b + j)) : Nat) : Int) := by rw [hx, tq_i64_of_lim lb.1]; norm_cast
          rw [tq_i64_mul (by rw [e]; omega), e]
        have m2 : (x * (f1 (40 * b + j)).toInt64 + (f1 (40 * t + (i + j))).toInt64).toInt = ((X * tq_lim (f1 (40 * b + j)) + tq_lim (f1 (40 * t + (i + j))) : Nat) : Int) := by
          rw [tq_i64_add (by rw [m1, tq_i64_of_lim lt.1]; omega), m1, tq_i64_of_lim lt.1]; omega
        have m3 : (x * (f1 (40 * b + j)).toInt64 + (f1 (40 * t + (i + j))).toInt64 + c).toInt = ((X * tq_lim (f1 (40 * b + j)) + tq_lim (f1 (40 * t + (i + j))) + C : Nat) : Int) := by
          rw [tq_i64_add (by rw [m2, hc]; omega), m2, hc]; omega
        generalize x * (f1 (40 * b + j)).toInt64 + (f1 (40 * t + (i + j))).toInt64 + c = s at *
        generalize hS : X * tq_lim (f1 (40 * b + j)) + tq_lim (f1 (40 * t + (i + j))) + C = S at *
        have e3 : (s >>> ((16 : Int32).toInt64 &&& 63)).toInt = ((S / 65536 : Nat) : Int) := by
          rw [tq_i64_shr (k := 16) rfl (by omega), m3]; norm_cast
        have e4 := tq_and16L m3
        rw [tq_nI_add]
        apply ih (j + 1) _ (S / 65536) _ (by omega) (by omega) e3 (by omega)
        · exact tq_WL_upd hw (by rw [e4]; omega)
        · intro y hy; rw [tq_upI_ne (by omega)]; exact hf y hy
        · intro k h3 h4; rw [tq_upI_ne (by omega)]; exact hk k (by omega) h4
        · have ea : i + (j + 1) = i + j + 1 := by omega
          have r1 : ∀ (h : Nat → Int32) (z k : Nat), tq_rv h z (k + 1) = tq_rv h z k + tq_lim (h (z + k)) * 2 ^ (16 * k) := fun _ _ _ => rfl
          rw [ea, r1, r1, r1, tq_upI_at, tq_p16, tq_rv_congr (g := f) (c := 40 * t) (fun k hk2 => by rw [tq_upI_ne (by omega)])]
          have key : tq_lim ((s &&& 65535).toInt32) + S / 65536 * 2 ^ 16 = S := by rw [tq_lim_of e4]; omega
          have e16 : 2 ^ (16 * (i + j)) = 2 ^ (16 * j) * 2 ^ (16 * i) := by rw [← Nat.pow_add]; congr 1; omega
          have k2 := congrArg (· * 2 ^ (16 * (i + j))) (key.trans hS.symm)
          simp only [Nat.add_mul, Nat.mul_assoc] at k2
          have k3 : X * (tq_rv f1 (40 * b) j + tq_lim (f1 (40 * b + j)) * 2 ^ (16 * j)) * 2 ^ (16 * i) = X * tq_rv f1 (40 * b) j * 2 ^ (16 * i) + X * (tq_lim (f1 (40 * b + j)) * 2 ^ (16 * (i + j))) := by
            rw [e16]; exact tq_alg1 _ _ _ _ _
          rw [k3]
          omega
theorem tq_times_outer {a b t : Nat} (ha : a ≤ 4) (hb : b ≤ 4) (ht : t ≤ 4) (hat : a ≠ t) (hbt : b ≠ t) {f0 : Nat → Int32} (hw0 : tq_WL 200 f0) : ∀ n i (f : Nat → Int32), i ≤ 40 → 40 < n + i → tq_WL 200 f → tq_Fr t f0 f →
    (∃ c, tq_rv f (40 * t) 40 + c * 2 ^ 640 = tq_rv f0 (40 * a) i * tq_rv f0 (40 * b) 40) →
    ∃ g c, m_times_b8 (nI a) (nI b) (nI t) n (nI i) f = some g ∧ tq_WL 200 g ∧ tq_Fr t f0 g ∧ tq_rv g (40 * t) 40 + c * 2 ^ 640 = tq_rv f0 (40 * a) 40 * tq_rv f0 (40 * b) 40 := by
  intro n
  induction n with
  | zero => intro i f h1 h2 hw hf hs; omega
  | succ n ih =>
    intro i f h1 h2 hw hf hs
    unfold m_times_b8
    obtain ⟨c0, hs⟩ := hs
    show ∃ g c, (if nI 40 ≤ nI i then some f else _) = some g ∧ _
    by_cases h : 40 ≤ i
    · have : i = 40 := by omega
      subst this
      rw [if_pos ((tq_nI_le (by omega) (by omega)).2 h)]
      exact ⟨f, c0, rfl, hw, hf, hs⟩
    · rw [if_neg (fun q => h ((tq_nI_le (by omega) (by omega)).1 q)), tq_ix40, if_neg (tq_ixok ha (by omega)), tq_nm_e, tq_ixcl ha (by omega)]
      have ea : f (40 * a + i) = f0 (40 * a + i) := hf _ (by omega)
      rw [ea]
      have la := hw0 (40 * a + i) (by omega)
      obtain ⟨g, c1, e, hwg, hfg, hg⟩ := tq_times_inner (k8 := m_times_b8 (nI a) (nI b) (nI t) n) hb ht hbt (i := i) (by omega) (tq_i64_of_lim la.1) (tq_lim_lt hw0 (by omega)) hw 41 0 0 0 f (by omega) (by omega) rfl (by omega) hw (fun _ _ => rfl) (fun _ _ _ => rfl) (by simp [tq_rv])
      have e0 : nI 0 = (0 : Int32) := rfl
      rw [e0] at e
      rw [e]
      apply ih (i + 1) g (by omega) (by omega) hwg
      · intro x hx; rw [hfg x hx]; exact hf x hx
      · have eb : tq_rv f (40 * b) (40 - i) = tq_rv f0 (40 * b) (40 - i) := tq_rv_congr (fun j hj => hf _ (by omega))
        rw [eb] at hg
        have s2 := tq_rv_split (f := f0) (b := 40 * b) (i := 40 - i) i
        have e40 : 40 - i + i = 40 := by omega
        rw [e40] at s2
        refine ⟨c0 + c1 + tq_lim (f0 (40 * a + i)) * tq_rv f0 (40 * b + (40 - i)) i, ?_⟩
        have er : tq_rv f0 (40 * a) (i + 1) = tq_rv f0 (40 * a) i + tq_lim (f0 (40 * a + i)) * 2 ^ (16 * i) := rfl
        rw [er, Nat.add_mul (tq_rv f0 (40 * a) i), ← hs]
        have k1 : tq_lim (f0 (40 * a + i)) * 2 ^ (16 * i) * tq_rv f0 (40 * b) 40 = tq_lim (f0 (40 * a + i)) * tq_rv f0 (40 * b) (40 - i) * 2 ^ (16 * i) + tq_lim (f0 (40 * a + i)) * tq_rv f0 (40 * b + (40 - i)) i * 2 ^ 640 := by
          have ep : 2 ^ 640 = 2 ^ (16 * (40 - i)) * 2 ^ (16 * i) := by rw [← Nat.pow_add, show 16 * (40 - i) + 16 * i = 640 by omega]
          rw [s2, ep]; exact tq_alg2 _ _ _ _ _
        rw [k1, Nat.add_mul, Nat.add_mul]
        generalize tq_lim (f0 (40 * a + i)) * tq_rv f0 (40 * b + (40 - i)) i * 2 ^ 640 = Y at *
        generalize tq_lim (f0 (40 * a + i)) * tq_rv f0 (40 * b) (40 - i) * 2 ^ (16 * i) = Z at *
        generalize c0 * 2 ^ 640 = C0 at *
        generalize c1 * 2 ^ 640 = C1 at *
        omega
theorem tq_times_spec {a b t : Nat} (ha : a ≤ 4) (hb : b ≤ 4) (ht : t ≤ 4) (hat : a ≠ t) (hbt : b ≠ t) {f : Nat → Int32} (hw : tq_WL 200 f) : ∃ g, m_times f (nI a) (nI b) (nI t) = some g ∧ tq_WL 200 g ∧ tq_Fr t f g ∧ tq_rv g (40 * t) 40 = tq_rv f (40 * a) 40 * tq_rv f (40 * b) 40 % 2 ^ 640 := by
  unfold m_times
  obtain ⟨f1, e1, w1, fr1, z1⟩ := tq_zero_spec ht hw
  rw [tq_bd_e e1]
  obtain ⟨g, c, e, w, fr, h⟩ := tq_times_outer ha hb ht hat hbt w1 41 0 f1 (by omega) (by omega) w1 (fun _ _ => rfl) ⟨0, by rw [tq_zero_rv z1]; simp [tq_rv]⟩
  refine ⟨g, e, w, fun x hx => by rw [fr x hx]; exact fr1 x hx, ?_⟩
  rw [tq_Fr_rv fr1 hat, tq_Fr_rv fr1 hbt] at h
  have hl : tq_rv g (40 * t) 40 < 2 ^ (16 * 40) := tq_rv_lt (fun j hj => tq_lim_lt w (by omega))
  rw [← h, Nat.add_mul_mod_self_right, Nat.mod_eq_of_lt hl]
end
section
theorem tq_rv_bit {f : Nat → Int32} {b k j t : Nat} (hl : ∀ j, j < k → tq_lim (f (b + j)) < 65536) (hj : j < k) (ht : t < 16) : (tq_rv f b k).testBit (16 * j + t) = (tq_lim (f (b + j))).testBit t := by
  have s1 := tq_rv_split (f := f) (b := b) (i := j) (k - j)
  have e1 : j + (k - j) = k := by omega
  rw [e1] at s1
  have l1 : tq_rv f b j < 2 ^ (16 * j) := tq_rv_lt (fun i hi => hl i (by omega))
  rw [s1, Nat.add_comm, Nat.testBit_two_pow_mul_add _ l1, if_neg (by omega), Nat.add_sub_cancel_left]
  have s2 := tq_rv_split (f := f) (b := b + j) (i := 1) (k - j - 1)
  have e2 : 1 + (k - j - 1) = k - j := by omega
  rw [e2] at s2
  have e3 : tq_rv f (b + j) 1 = tq_lim (f (b + j)) := by
    show 0 + tq_lim (f (b + j + 0)) * 2 ^ (16 * 0) = _
    simp
  have h16 := hl j hj
  rw [s2, e3, Nat.add_comm, Nat.testBit_two_pow_mul_add _ (by omega), if_pos (by omega)]
theorem tq_bits_ext {X Y : Nat} (hX : X < 2 ^ 640) (hY : Y < 2 ^ 640) (h : ∀ j t, j < 40 → t < 16 → X.testBit (16 * j + t) = Y.testBit (16 * j + t)) : X = Y := by
  apply Nat.eq_of_testBit_eq
  intro p
  rcases Nat.lt_or_ge p 640 with q | q
  · have := h (p / 16) (p % 16) (by omega) (by omega)
    rw [show 16 * (p / 16) + p % 16 = p by omega] at this
    exact this
  · rw [Nat.testBit_lt_two_pow (Nat.lt_of_lt_of_le hX (Nat.pow_le_pow_right (by omega) q)), Nat.testBit_lt_two_pow (Nat.lt_of_lt_of_le hY (Nat.pow_le_pow_right (by omega) q))]
theorem tq_div16 {x : Int32} {k : Nat} (h : x.toInt = k) : (x / 16).toInt = ((k / 16 : Nat) : Int) := by
  have := tq_i32_rng x
  have c16 : ((16 : Int32)).toInt = 16 := rfl
  rw [Int32.toInt_div, h, c16]
  have e : ((k : Int)).tdiv 16 = ((k / 16 : Nat) : Int) := by
    show ((k : Int)).tdiv ((16 : Nat) : Int) = _
    rw [Int.ofNat_tdiv]
  rw [e]; exact tq_bmod_of (by omega)
theorem tq_rem16 {x : Int32} {k : Nat} (h : x.toInt = k) : (x - x / 16 * 16).toInt = ((k % 16 : Nat) : Int) := by
  have := tq_i32_rng x
  have c16 : ((16 : Int32)).toInt = 16 := rfl
  have d := tq_div16 h
  have e : (x / 16 * 16).toInt = ((k / 16 * 16 : Nat) : Int) := by rw [tq_i32_mul (by rw [d, c16]; omega), d, c16]; omega
  rw [tq_i32_sub (by rw [h, e]; omega), h, e]; omega
/-- two limbs, moved up by b bits: the upper one's low bits and the lower one's high bits -/
theorem tq_mix_up {x y : Int32} (hx : 0 ≤ x.toInt ∧ x.toInt < 65536) (hy : 0 ≤ y.toInt ∧ y.toInt < 65536) {v : Int32} {b : Nat} (hb : b < 16) (hv : v.toInt = b) {t : Nat} (ht : t < 16) :
    (tq_lim (((x <<< (v &&& 31)) ||| (y >>> (((16 : Int32) - v) &&& 31))) &&& 65535)).testBit t = if b ≤ t then (tq_lim x).testBit (t - b) else (tq_lim y).testBit (16 + t - b) := by
  have c16 : ((16 : Int32)).toInt = 16 := rfl
  have e16 : ((16 : Int32) - v).toInt = ((16 - b : Nat) : Int) := by rw [tq_i32_sub (by rw [c16, hv]; omega), c16, hv]; omega
  have hX : x.toInt = ((tq_lim x : Nat) : Int) := by rw [tq_lim_i hx.1]
  have hY : y.toInt = ((tq_lim y : Nat) : Int) := by rw [tq_lim_i hy.1]
  have xl : tq_lim x < 65536 := by omega
  have yl : tq_lim y < 65536 := by omega
  have p15 : 2 ^ b ≤ 2 ^ 15 := Nat.pow_le_pow_right (by omega) (by omega)
  have hm : tq_lim x * 2 ^ b < 2 ^ 32 := by
    have := Nat.mul_le_mul (show tq_lim x ≤ 65535 by omega) p15; omega
  have u1 : tq_u32 (x <<< (v &&& 31)) = tq_lim x * 2 ^ b := by rw [tq_u32_shl hv (by omega), tq_u32_of_i hX, Nat.mod_eq_of_lt hm]
  have u2 : tq_u32 (y >>> (((16 : Int32) - v) &&& 31)) = tq_lim y / 2 ^ (16 - b) := by
    apply tq_u32_of_i
    rw [tq_i32_shr e16 (by omega), hY]; norm_cast
  have u3 : tq_u32 (((x <<< (v &&& 31)) ||| (y >>> (((16 : Int32) - v) &&& 31))) &&& 65535) = ((tq_lim x * 2 ^ b) ||| (tq_lim y / 2 ^ (16 - b))) % 2 ^ 16 := by
    rw [tq_u32_and, tq_u32_or, u1, u2]
    have : tq_u32 (65535 : Int32) = 2 ^ 16 - 1 := rfl
    rw [this, Nat.and_two_pow_sub_one_eq_mod]
  have u4 := tq_i32_of_u u3 (by omega)
  rw [tq_lim_of u4, Nat.testBit_mod_two_pow, Nat.testBit_or, ← Nat.shiftLeft_eq, ← Nat.shiftRight_eq_div_pow, Nat.testBit_shiftLeft, Nat.testBit_shiftRight]
  have d16 : decide (t < 16) = true := decide_eq_true ht
  rw [d16, Bool.true_and]
  split
  · rename_i h
    have z : (tq_lim y).testBit (16 - b + t) = false := Nat.testBit_lt_two_pow (Nat.lt_of_lt_of_le yl (show 65536 ≤ 2 ^ (16 - b + t) from Nat.pow_le_pow_right (n := 2) (by omega) (show 16 ≤ 16 - b + t by omega)))
    rw [z, Bool.or_false, decide_eq_true h, Bool.true_and]
  · rename_i h
    rw [decide_eq_false (by omega), Bool.false_and, Bool.false_or]; congr 1; omega
theorem tq_mix_dn {x y : Int32} (hx : 0 ≤ x.toInt ∧ x.toInt < 65536) (hy : 0 ≤ y.toInt ∧ y.toInt < 65536) {v : Int32} {b : Nat} (hb : b < 16) (hv : v.toInt = b) {t : Nat} (ht : t < 16) :
    (tq_lim (((x >>> (v &&& 31)) ||| (y <<< (((16 : Int32) - v) &&& 31))) &&& 65535)).testBit t = if t + b < 16 then (tq_lim x).testBit (t + b) else (tq_lim y).testBit (t + b - 16) := by
  have c16 : ((16 : Int32)).toInt = 16 := rfl
  have e16 : ((16 : Int32) - v).toInt = ((16 - b : Nat) : Int) := by rw [tq_i32_sub (by rw [c16, hv]; omega), c16, hv]; omega
  have hX : x.toInt = ((tq_lim x : Nat) : Int) := by rw [tq_lim_i hx.1]
  have hY : y.toInt = ((tq_lim y : Nat) : Int) := by rw [tq_lim_i hy.1]
  have xl : tq_lim x < 65536 := by omega
  have yl : tq_lim y < 65536 := by omega
  have p15 : 2 ^ (16 - b) ≤ 2 ^ 16 := Nat.pow_le_pow_right (by omega) (by omega)
  have hm : tq_lim y * 2 ^ (16 - b) < 2 ^ 32 := by
    have := Nat.mul_le_mul (show tq_lim y ≤ 65535 by omega) p15; omega
  have u1 : tq_u32 (y <<< (((16 : Int32) - v) &&& 31)) = tq_lim y * 2 ^ (16 - b) := by rw [tq_u32_shl e16 (by omega), tq_u32_of_i hY, Nat.mod_eq_of_lt hm]
  have u2 : tq_u32 (x >>> (v &&& 31)) = tq_lim x / 2 ^ b := by
    apply tq_u32_of_i
    rw [tq_i32_shr hv (by omega), hX]; norm_cast
  have u3 : tq_u32 (((x >>> (v &&& 31)) ||| (y <<< (((16 : Int32) - v) &&& 31))) &&& 65535) = ((tq_lim x / 2 ^ b) ||| (tq_lim y * 2 ^ (16 - b))) % 2 ^ 16 := by
    rw [tq_u32_and, tq_u32_or, u1, u2]
    have : tq_u32 (65535 : Int32) = 2 ^ 16 - 1 := rfl
    rw [this, Nat.and_two_pow_sub_one_eq_mod]
  have u4 := tq_i32_of_u u3 (by omega)
  rw [tq_lim_of u4, Nat.testBit_mod_two_pow, Nat.testBit_or, ← Nat.shiftLeft_eq, ← Nat.shiftRight_eq_div_pow, Nat.testBit_shiftLeft, Nat.testBit_shiftRight]
  have d16 : decide (t < 16) = true := decide_eq_true ht
  rw [d16, Bool.true_and]
  split
  · rename_i h
    rw [decide_eq_false (show ¬ (t ≥ 16 - b) by omega), Bool.false_and, Bool.or_false, Nat.add_comm b t]
  · rename_i h
    have z : (tq_lim x).testBit (b + t) = false := Nat.testBit_lt_two_pow (Nat.lt_of_lt_of_le xl (show 65536 ≤ 2 ^ (b + t) from Nat.pow_le_pow_right (n := 2) (by omega) (show 16 ≤ b + t by omega)))
    rw [z, Bool.false_or, decide_eq_true (show t ≥ 16 - b by omega), Bool.true_and]; congr 1; omega
def tq_upH (f : Nat → Int32) (r far k : Nat) : Int32 := if k < far then 0 else f (40 * r + (k - far))
def tq_upL (f : Nat → Int32) (r far k : Nat) : Int32 := if k < far + 1 then 0 else f (40 * r + (k - far - 1))
theorem tq_ixs {m k : Nat} (h : k ≤ m) (hm : m < 2 ^ 31) : nI m - nI k = nI (m - k) := by
  apply Int32.toInt.inj
  rw [tq_i32_sub (by rw [tq_nI_i hm, tq_nI_i (by omega)]; omega), tq_nI_i hm, tq_nI_i (by omega), tq_nI_i (by omega)]; omega
theorem tq_i32_lt0 {x : Int32} (h : x.toInt < 0) : x < 0 := Int32.lt_iff_toInt_lt.2 h
theorem tq_raise_loop {r : Nat} (hr : r ≤ 4) {f0 : Nat → Int32} (hw0 : tq_WL 200 f0) {far b : Nat} (hfar : far < 40) (hb : b < 16) : ∀ i n (f : Nat → Int32), i ≤ 40 → i < n → tq_WL 200 f → tq_Fr r f0 f → (∀ k, k < i → f (40 * r + k) = f0 (40 * r + k)) →
    (∀ k, i ≤ k → k < 40 → f (40 * r + k) = (((tq_upH f0 r far k <<< (nI b &&& 31)) ||| (tq_upL f0 r far k >>> (((16 : Int32) - nI b) &&& 31))) &&& 65535)) →
    ∃ g, m_raise_b15 (nI r) n (nI far) (nI b) (nI i + (-1)) f = some g ∧ tq_WL 200 g ∧ tq_Fr r f0 g ∧ (∀ k, k < 40 → g (40 * r + k) = (((tq_upH f0 r far k <<< (nI b &&& 31)) ||| (tq_upL f0 r far k >>> (((16 : Int32) - nI b) &&& 31))) &&& 65535)) := by
  intro i
  induction i with
  | zero =>
    intro n f h1 h2 hw hf hk hs
    obtain ⟨m, rfl⟩ : ∃ m, n = m + 1 := ⟨n - 1, by omega⟩
    unfold m_raise_b15
    refine ⟨f, by rw [if_pos (by decide)], hw, hf, fun k hk2 => hs k (by omega) hk2⟩
  | succ i ih =>
    intro n f h1 h2 hw hf hk hs
    obtain ⟨m, rfl⟩ : ∃ m, n = m + 1 := ⟨n - 1, by omega⟩
    unfold m_raise_b15
    rw [tq_nI_pred (by omega), if_neg (tq_nI_nn (by omega)), tq_ix40]
    have z : (0 : Int32) ≤ 0 := by decide
    have sub1 : (nI i - nI far).toInt = (i : Int) - far := by rw [tq_i32_sub (by rw [tq_nI_i (by omega), tq_nI_i (by omega)]; omega), tq_nI_i (by omega), tq_nI_i (by omega)]
    have c1 : ((1 : Int32)).toInt = 1 := rfl
    have c0 : ((0 : Int32)).toInt = 0 := rfl
    have sub2 : (nI i - nI far - 1).toInt = (i : Int) - far - 1 := by rw [tq_i32_sub (by rw [sub1, c1]; omega), sub1, c1]
    have last : ∀ lo : Int32, lo = tq_upL f0 r far i → ∃ g, m_raise_b76 (nI r) (m_raise_b15 (nI r) m) (nI far) (nI b) (nI i) (tq_upH f0 r far i) lo f = some g ∧ tq_WL 200 g ∧ tq_Fr r f0 g ∧ (∀ k, k < 40 → g (40 * r + k) = (((tq_upH f0 r far k <<< (nI b &&& 31)) ||| (tq_upL f0 r far k >>> (((16 : Int32) - nI b) &&& 31))) &&& 65535)) := by
      intro lo hlo
      subst hlo
      unfold m_raise_b76
      rw [tq_ix40, if_neg (tq_ixok hr (by omega)), tq_ixcl hr (by omega)]
      apply ih m _ (by omega) (by omega)
      · exact tq_WL_upd16 hw _
      · intro x hx; rw [tq_upI_ne (by omega)]; exact hf x hx
      · intro k hk2; rw [tq_upI_ne (by omega)]; exact hk k (by omega)
      · intro k h3 h4
        rcases Nat.eq_or_lt_of_le h3 with q | q
        · subst q; rw [tq_upI_at]
        · rw [tq_upI_ne (by omega)]; exact hs k (by omega) h4
    have mid : ∀ hi : Int32, hi = tq_upH f0 r far i → ∃ g, m_raise_b45 (nI r) (m_raise_b15 (nI r) m) (nI far) (nI b) (nI i) hi f = some g ∧ tq_WL 200 g ∧ tq_Fr r f0 g ∧ (∀ k, k < 40 → g (40 * r + k) = (((tq_upH f0 r far k <<< (nI b &&& 31)) ||| (tq_upL f0 r far k >>> (((16 : Int32) - nI b) &&& 31))) &&& 65535)) := by
      intro hi hhi
      subst hhi
      unfold m_raise_b45
      by_cases q : i < far + 1
      · rw [if_pos (tq_i32_lt0 (by rw [sub2]; omega))]
        exact last 0 (by unfold tq_upL; rw [if_pos q])
      · rw [if_neg (by rw [Int32.lt_iff_toInt_lt, sub2, c0]; omega)]
        have e : nI (40 * r + i) - nI far - 1 = nI (40 * r + (i - far - 1)) := by
          rw [tq_ixs (by omega) (by omega)]
          have : (1 : Int32) = nI 1 := rfl
          rw [this, tq_ixs (by omega) (by omega)]; congr 1; omega
        rw [tq_ix40, e, if_neg (tq_ixok hr (by omega)), tq_ixcl hr (by omega)]
        exact last _ (by unfold tq_upL; rw [if_neg q]; exact hk _ (by omega))
    by_cases q : i < far
    · rw [if_pos (tq_i32_lt0 (by rw [sub1]; omega))]
      exact mid 0 (by unfold tq_upH; rw [if_pos q])
    · rw [if_neg (by rw [Int32.lt_iff_toInt_lt, sub1, c0]; omega)]
      have e : nI (40 * r + i) - nI far = nI (40 * r + (i - far)) := by rw [tq_ixs (by omega) (by omega)]; congr 1; omega
      rw [e, if_neg (tq_ixok hr (by omega)), tq_ixcl hr (by omega)]
      exact mid _ (by unfold tq_upH; rw [if_neg q]; exact hk _ (by omega))
theorem tq_raise_spec {r : Nat} (hr : r ≤ 4) {f : Nat → Int32} (hw : tq_WL 200 f) {my : Int32} {k : Nat} (hk : my.toInt = k) (hk2 : k < 640) : ∃ g, m_raise f (nI r) my = some g ∧ tq_WL 200 g ∧ tq_Fr r f g ∧ tq_rv g (40 * r) 40 = tq_rv f (40 * r) 40 * 2 ^ k % 2 ^ 640 := by
  unfold m_raise
  rw [tq_nm_e, tq_nm_e, tq_of_i32 (tq_rem16 hk), tq_of_i32 (tq_div16 hk)]
  obtain ⟨g, e, w, fr, h⟩ := tq_raise_loop hr hw (far := k / 16) (b := k % 16) (by omega) (by omega) 40 41 f (by omega) (by omega) hw (fun _ _ => rfl) (fun _ _ => rfl) (fun j h3 h4 => by omega)
  refine ⟨g, e, w, fr, ?_⟩
  have wl0 : ∀ j, j < 40 → tq_lim (f (40 * r + j)) < 65536 := fun j hj => tq_lim_lt hw (by omega)
  have wlg : ∀ j, j < 40 → tq_lim (g (40 * r + j)) < 65536 := fun j hj => tq_lim_lt w (by omega)
  have hl : tq_rv g (40 * r) 40 < 2 ^ 640 := tq_rv_lt (k := 40) wlg
  apply tq_bits_ext hl (Nat.mod_lt _ (Nat.two_pow_pos _))
  intro j t hj ht
  have hH : 0 ≤ (tq_upH f r (k / 16) j).toInt ∧ (tq_upH f r (k / 16) j).toInt < 65536 := by
    unfold tq_upH; split
    · decide
    · exact hw _ (by omega)
  have hL : 0 ≤ (tq_upL f r (k / 16) j).toInt ∧ (tq_upL f r (k / 16) j).toInt < 65536 := by
    unfold tq_upL; split
    · decide
    · exact hw _ (by omega)
  rw [tq_rv_bit wlg hj ht, h j hj, tq_mix_up hH hL (b := k % 16) (by omega) (tq_nI_i (by omega)) ht, Nat.testBit_mod_two_pow, decide_eq_true (show 16 * j + t < 640 by omega), Bool.true_and, ← Nat.shiftLeft_eq, Nat.testBit_shiftLeft]
  have tb0 : ∀ p, (tq_lim 0).testBit p = false := fun p => by rw [tq_lim_0]; exact Nat.zero_testBit p
  by_cases q : k ≤ 16 * j + t
  · rw [decide_eq_true q, Bool.true_and]
    split
    · rename_i hb
      unfold tq_upH
      rw [if_neg (by omega)]
      have := tq_rv_bit wl0 (j := j - k / 16) (t := t - k % 16) (by omega) (by omega)
      rw [← this]; congr 1; omega
    · rename_i hb
      unfold tq_upL
      rw [if_neg (by omega)]
      have := tq_rv_bit wl0 (j := j - k / 16 - 1) (t := 16 + t - k % 16) (by omega) (by omega)
      rw [← this]; congr 1; omega
  · rw [decide_eq_false q, Bool.false_and]
    split
    · rename_i hb
      unfold tq_upH
      rw [if_pos (by omega)]; exact tb0 _
    · rename_i hb
      unfold tq_upL
      rw [if_pos (by omega)]; exact tb0 _
end
section
def tq_dnL (f : Nat → Int32) (r far k : Nat) : Int32 := if 40 ≤ k + far then 0 else f (40 * r + (k + far))
def tq_dnH (f : Nat → Int32) (r far k : Nat) : Int32 := if 40 ≤ k + far + 1 then 0 else f (40 * r + (k + far + 1))
theorem tq_ixa (m k : Nat) : nI m + nI k = nI (m + k) := by unfold nI; rw [← Int32.ofNat_add]
theorem tq_lower_loop {r : Nat} (hr : r ≤ 4) {f0 : Nat → Int32} (hw0 : tq_WL 200 f0) {far b : Nat} (hfar : far < 40) (hb : b < 16) : ∀ n i (f : Nat → Int32), i ≤ 40 → 40 < n + i → tq_WL 200 f → tq_Fr r f0 f → (∀ k, i ≤ k → k < 40 → f (40 * r + k) = f0 (40 * r + k)) →
    (∀ k, k < i → f (40 * r + k) = (((tq_dnL f0 r far k >>> (nI b &&& 31)) ||| (tq_dnH f0 r far k <<< (((16 : Int32) - nI b) &&& 31))) &&& 65535)) →
    ∃ g, m_lower_b14 (nI r) n (nI far) (nI b) (nI i) f = some g ∧ tq_WL 200 g ∧ tq_Fr r f0 g ∧ (∀ k, k < 40 → g (40 * r + k) = (((tq_dnL f0 r far k >>> (nI b &&& 31)) ||| (tq_dnH f0 r far k <<< (((16 : Int32) - nI b) &&& 31))) &&& 65535)) := by
  intro n
  induction n with
  | zero => intro i f h1 h2 hw hf hk hs; omega
  | succ m ih =>
    intro i f h1 h2 hw hf hk hs
    unfold m_lower_b14
    show ∃ g, (if nI 40 ≤ nI i then some f else _) = some g ∧ _
    by_cases h : 40 ≤ i
    · rw [if_pos ((tq_nI_le (by omega) (by omega)).2 h)]
      exact ⟨f, rfl, hw, hf, fun k hk2 => hs k (by omega)⟩
    · rw [if_neg (fun q => h ((tq_nI_le (by omega) (by omega)).1 q)), tq_ix40, tq_ixa, tq_ixa]
      have last : ∀ hi : Int32, hi = tq_dnH f0 r far i → ∃ g, m_lower_b81 (nI r) (m_lower_b14 (nI r) m) (nI far) (nI b) (nI i) (tq_dnL f0 r far i) hi f = some g ∧ tq_WL 200 g ∧ tq_Fr r f0 g ∧ (∀ k, k < 40 → g (40 * r + k) = (((tq_dnL f0 r far k >>> (nI b &&& 31)) ||| (tq_dnH f0 r far k <<< (((16 : Int32) - nI b) &&& 31))) &&& 65535)) := by
        intro hi hhi
        subst hhi
        unfold m_lower_b81
        rw [tq_ix40, if_neg (tq_ixok hr (by omega)), tq_ixcl hr (by omega), tq_nI_add]
        apply ih (i + 1) _ (by omega) (by omega)
        · exact tq_WL_upd16 hw _
        · intro x hx; rw [tq_upI_ne (by omega)]; exact hf x hx
        · intro k h3 h4; rw [tq_upI_ne (by omega)]; exact hk k (by omega) h4
        · intro k h3
          rcases Nat.lt_or_ge k i with q | q
          · rw [tq_upI_ne (by omega)]; exact hs k q
          · have : k = i := by omega
            subst this; rw [tq_upI_at]
      have mid : ∀ lo : Int32, lo = tq_dnL f0 r far i → ∃ g, m_lower_b48 (nI r) (m_lower_b14 (nI r) m) (nI far) (nI b) (nI i) lo f = some g ∧ tq_WL 200 g ∧ tq_Fr r f0 g ∧ (∀ k, k < 40 → g (40 * r + k) = (((tq_dnL f0 r far k >>> (nI b &&& 31)) ||| (tq_dnH f0 r far k <<< (((16 : Int32) - nI b) &&& 31))) &&& 65535)) := by
        intro lo hlo
        subst hlo
        unfold m_lower_b48
        rw [tq_ix40, tq_ixa, tq_ixa, tq_nI_add, tq_nI_add]
        show ∃ g, (if nI 40 ≤ nI (i + far + 1) then _ else _) = some g ∧ _
        by_cases q : 40 ≤ i + far + 1
        · rw [if_pos ((tq_nI_le (by omega) (by omega)).2 q)]
          exact last 0 (by unfold tq_dnH; rw [if_pos q])
        · have e : 40 * r + i + far + 1 = 40 * r + (i + far + 1) := by omega
          rw [if_neg (fun w => q ((tq_nI_le (by omega) (by omega)).1 w)), e, if_neg (tq_ixok hr (by omega)), tq_ixcl hr (by omega)]
          exact last _ (by unfold tq_dnH; rw [if_neg q]; exact hk _ (by omega) (by omega))
      show ∃ g, (if nI 40 ≤ nI (i + far) then _ else _) = some g ∧ _
      by_cases q : 40 ≤ i + far
      · rw [if_pos ((tq_nI_le (by omega) (by omega)).2 q)]
        exact mid 0 (by unfold tq_dnL; rw [if_pos q])
      · have e : 40 * r + i + far = 40 * r + (i + far) := by omega
        rw [if_neg (fun w => q ((tq_nI_le (by omega) (by omega)).1 w)), e, if_neg (tq_ixok hr (by omega)), tq_ixcl hr (by omega)]
        exact mid _ (by unfold tq_dnL; rw [if_neg q]; exact hk _ (by omega) (by omega))
theorem tq_lower_spec {r : Nat} (hr : r ≤ 4) {f : Nat → Int32} (hw : tq_WL 200 f) {my : Int32} {k : Nat} (hk : my.toInt = k) (hk2 : k < 640) : ∃ g, m_lower f (nI r) my = some g ∧ tq_WL 200 g ∧ tq_Fr r f g ∧ tq_rv g (40 * r) 40 = tq_rv f (40 * r) 40 / 2 ^ k := by
  unfold m_lower
  rw [tq_nm_e, tq_nm_e, tq_of_i32 (tq_rem16 hk), tq_of_i32 (tq_div16 hk)]
  obtain ⟨g, e, w, fr, h⟩ := tq_lower_loop hr hw (far := k / 16) (b := k % 16) (by omega) (by omega) 41 0 f (by omega) (by omega) hw (fun _ _ => rfl) (fun _ _ _ => rfl) (fun j h3 => by omega)
  refine ⟨g, e, w, fr, ?_⟩
  have wl0 : ∀ j, j < 40 → tq_lim (f (40 * r + j)) < 65536 := fun j hj => tq_lim_lt hw (by omega)
  have wlg : ∀ j, j < 40 → tq_lim (g (40 * r + j)) < 65536 := fun j hj => tq_lim_lt w (by omega)
  have hl : tq_rv g (40 * r) 40 < 2 ^ 640 := tq_rv_lt (k := 40) wlg
  have hl0 : tq_rv f (40 * r) 40 < 2 ^ 640 := tq_rv_lt (k := 40) wl0
  apply tq_bits_ext hl (Nat.lt_of_le_of_lt (Nat.div_le_self _ _) hl0)
  intro j t hj ht
  have hH : 0 ≤ (tq_dnH f r (k / 16) j).toInt ∧ (tq_dnH f r (k / 16) j).toInt < 65536 := by
    unfold tq_dnH; split
    · decide
    · exact hw _ (by omega)
  have hL : 0 ≤ (tq_dnL f r (k / 16) j).toInt ∧ (tq_dnL f r (k / 16) j).toInt < 65536 := by
    unfold tq_dnL; split
    · decide
    · exact hw _ (by omega)
  rw [tq_rv_bit wlg hj ht, h j hj, tq_mix_dn hL hH (b := k % 16) (by omega) (tq_nI_i (by omega)) ht, ← Nat.shiftRight_eq_div_pow, Nat.testBit_shiftRight]
  have tb0 : ∀ p, (tq_lim 0).testBit p = false := fun p => by rw [tq_lim_0]; exact Nat.zero_testBit p
  have big : ∀ p, 640 ≤ p → (tq_rv f (40 * r) 40).testBit p = false := fun p hp => Nat.testBit_lt_two_pow (Nat.lt_of_lt_of_le hl0 (Nat.pow_le_pow_right (by omega) hp))
  split
  · rename_i hb
    unfold tq_dnL
    split
    · rw [tb0, big _ (by omega)]
    · have := tq_rv_bit wl0 (j := j + k / 16) (t := t + k % 16) (by omega) (by omega)
      rw [← this]; congr 1; omega
  · rename_i hb
    unfold tq_dnH
    split
    · rw [tb0, big _ (by omega)]
    · have := tq_rv_bit wl0 (j := j + k / 16 + 1) (t := t + k % 16 - 16) (by omega) (by omega)
      rw [← this]; congr 1; omega
theorem tq_bit_spec {r : Nat} (hr : r ≤ 4) {f : Nat → Int32} (hw : tq_WL 200 f) {kx : Int32} {k : Nat} (hk : kx.toInt = k) (hk2 : k < 640) : ∃ v, m_bit f (nI r) kx = some v ∧ v = if (tq_rv f (40 * r) 40).testBit k then 1 else 0 := by
  unfold m_bit
  rw [tq_of_i32 (tq_rem16 hk), tq_of_i32 (tq_div16 hk), tq_ix40, if_neg (tq_ixok hr (by omega)), tq_ixcl hr (by omega)]
  refine ⟨_, rfl, ?_⟩
  have wl0 : ∀ j, j < 40 → tq_lim (f (40 * r + j)) < 65536 := fun j hj => tq_lim_lt hw (by omega)
  have hb := tq_rv_bit wl0 (j := k / 16) (t := k % 16) (by omega) (by omega)
  rw [show 16 * (k / 16) + k % 16 = k by omega] at hb
  rw [hb]
  have hx := hw (40 * r + k / 16) (by omega)
  generalize f (40 * r + k / 16) = x at *
  have hX : x.toInt = ((tq_lim x : Nat) : Int) := by rw [tq_lim_i hx.1]
  have u2 : tq_u32 (x >>> (nI (k % 16) &&& 31)) = tq_lim x / 2 ^ (k % 16) := by
    apply tq_u32_of_i
    rw [tq_i32_shr (tq_nI_i (by omega)) (by omega), hX]; norm_cast
  have u3 : tq_u32 ((x >>> (nI (k % 16) &&& 31)) &&& 1) = tq_lim x / 2 ^ (k % 16) % 2 := by
    rw [tq_u32_and, u2]
    have : tq_u32 (1 : Int32) = 1 := rfl
    rw [this, Nat.and_one_is_mod]
  apply tq_u32_inj
  rw [u3, Nat.testBit_eq_decide_div_mod_eq]
  have o1 : tq_u32 (1 : Int32) = 1 := rfl
  have o0 : tq_u32 (0 : Int32) = 0 := rfl
  split
  · rename_i h; rw [o1]; simpa using h
  · rename_i h; rw [o0]; have : ¬ (tq_lim x / 2 ^ (k % 16) % 2 = 1) := by simpa using h
    omega
theorem tq_setLong_loop {r : Nat} (hr : r ≤ 4) (v : Int64) {f0 : Nat → Int32} : ∀ n i (f : Nat → Int32), i ≤ 4 → 4 < n + i → tq_WL 200 f → tq_Fr r f0 f → (∀ k, i ≤ k → k < 40 → f (40 * r + k) = 0) → (∀ k, k < i → tq_lim (f (40 * r + k)) = tq_u64 v / 2 ^ (16 * k) % 65536) →
    ∃ g, m_setLong_b8 (nI r) v n (nI i) f = some g ∧ tq_WL 200 g ∧ tq_Fr r f0 g ∧ (∀ k, k < 4 → tq_lim (g (40 * r + k)) = tq_u64 v / 2 ^ (16 * k) % 65536) ∧ (∀ k, 4 ≤ k → k < 40 → g (40 * r + k) = 0) := by
  intro n
  induction n with
  | zero => intro i f h1 h2 hw hf hk hs; omega
  | succ m ih =>
    intro i f h1 h2 hw hf hk hs
    unfold m_setLong_b8
    show ∃ g, (if nI 4 ≤ nI i then some f else _) = some g ∧ _
    by_cases h : 4 ≤ i
    · rw [if_pos ((tq_nI_le (by omega) (by omega)).2 h)]
      exact ⟨f, rfl, hw, hf, fun k hk2 => hs k (by omega), fun k h3 h4 => hk k (by omega) h4⟩
    · rw [if_neg (fun q => h ((tq_nI_le (by omega) (by omega)).1 q)), tq_ix40, if_neg (tq_ixok hr (by omega)), tq_ixcl hr (by omega), tq_nI_add]
      have e16 : (16 : Int32) * nI i = nI (16 * i) := by
        show nI 16 * nI i = _
        unfold nI; rw [← Int32.ofNat_mul]
      have hsh : (v >>> ((nI (16 * i)).toInt64 &&& 63)).toInt = v.toInt / 2 ^ (16 * i) := tq_i64_shr (tq_nI_i (by omega)) (by omega)
      have hlim : (((v >>> ((nI (16 * i)).toInt64 &&& 63)) &&& 65535).toInt32).toInt = ((tq_u64 v / 2 ^ (16 * i) % 65536 : Nat) : Int) := by
        have h1 : tq_u64 ((v >>> ((nI (16 * i)).toInt64 &&& 63)) &&& 65535) = tq_u64 (v >>> ((nI (16 * i)).toInt64 &&& 63)) % 2 ^ 16 := by
          rw [tq_u64_and]
          have : tq_u64 (65535 : Int64) = 2 ^ 16 - 1 := rfl
          rw [this, Nat.and_two_pow_sub_one_eq_mod]
        apply tq_i32_of_u
        · rw [tq_u32_of_64, h1]
          have h2 := tq_u64_i (v >>> ((nI (16 * i)).toInt64 &&& 63))
          rw [hsh] at h2
          have h3 := tq_u64_i v
          have h4 := tq_i64_rng v
          have : i = 0 ∨ i = 1 ∨ i = 2 ∨ i = 3 := by omega
          rcases this with rfl | rfl | rfl | rfl <;> simp only [Nat.mul_zero, Nat.reduceMul, Nat.reducePow, Int.reducePow] at * <;> omega
        · omega
      rw [e16]
      apply ih (i + 1) _ (by omega) (by omega)
      · exact tq_WL_upd hw (by rw [hlim]; omega)
      · intro x hx; rw [tq_upI_ne (by omega)]; exact hf x hx
      · intro k h3 h4; rw [tq_upI_ne (by omega)]; exact hk k (by omega) h4
      · intro k h3
        rcases Nat.lt_or_ge k i with q | q
        · rw [tq_upI_ne (by omega)]; exact hs k q
        · have : k = i := by omega
          subst this; rw [tq_upI_at]; exact tq_lim_of hlim
theorem tq_setLong_spec {r : Nat} (hr : r ≤ 4) {f : Nat → Int32} (hw : tq_WL 200 f) (v : Int64) : ∃ g, m_setLong f (nI r) v = some g ∧ tq_WL 200 g ∧ tq_Fr r f g ∧ tq_rv g (40 * r) 40 = tq_u64 v := by
  unfold m_setLong
  obtain ⟨f1, e1, w1, fr1, z1⟩ := tq_zero_spec hr hw
  rw [tq_bd_e e1]
  obtain ⟨g, e, w, fr, h1, h2⟩ := tq_setLong_loop hr v (f0 := f) 41 0 f1 (by omega) (by omega) w1 fr1 (fun k _ hk => z1 k hk) (fun k hk => by omega)
  refine ⟨g, e, w, fr, ?_⟩
  have s := tq_rv_split (f := g) (b := 40 * r) (i := 4) 36
  rw [show 4 + 36 = 40 from rfl, tq_rv_zero (k := 36) (fun j hj => by rw [Nat.add_assoc]; exact h2 _ (by omega) (by omega)), Nat.mul_zero, Nat.add_zero] at s
  have r4 : tq_rv g (40 * r) 4 = tq_lim (g (40 * r + 0)) * 2 ^ 0 + tq_lim (g (40 * r + 1)) * 2 ^ 16 + tq_lim (g (40 * r + 2)) * 2 ^ 32 + tq_lim (g (40 * r + 3)) * 2 ^ 48 := by
    show 0 + _ + _ + _ + _ = _
    rw [Nat.zero_add]
  rw [s, r4, h1 0 (by omega), h1 1 (by omega), h1 2 (by omega), h1 3 (by omega)]
  have hl := tq_u64_lt v
  omega
end
section
theorem tq_bitL {pv : Int64} {P : Nat} (hp : pv.toInt = P) {v : Int32} {i : Nat} (hv : v.toInt = i) (hi : i < 64) : ((pv >>> (v.toInt64 &&& 63)) &&& 1).toInt = ((P / 2 ^ i % 2 : Nat) : Int) := by
  have h1 : (pv >>> (v.toInt64 &&& 63)).toInt = ((P / 2 ^ i : Nat) : Int) := by rw [tq_i64_shr hv hi, hp]; norm_cast
  apply tq_i64_of_u
  · rw [tq_u64_and, tq_u64_of_i h1]
    have : tq_u64 (1 : Int64) = 1 := rfl
    rw [this, Nat.and_one_is_mod]
  · omega
theorem tq_half_step (P j : Nat) : P / 2 ^ j = 2 * (P / 2 ^ (j + 1)) + P / 2 ^ j % 2 := by
  have e : P / 2 ^ (j + 1) = P / 2 ^ j / 2 := by rw [Nat.pow_succ, Nat.div_div_eq_div_mul]
  rw [e]; omega
/-- what stands above place j: k ones, or nothing -/
def tq_Above (P F k j : Nat) : Prop := (F = 1 ∧ P / 2 ^ j + 1 = 2 ^ k) ∨ (F = 0 ∧ P / 2 ^ j = 0)
theorem tq_run_loop {rg : Int32} {pv : Int64} {P : Nat} (hp : pv.toInt = P) {un : Int32} {S : Nat} (hS : S ≤ 33) {first : Int64} {F : Nat} (hF : first.toInt = F) (lf : Nat → Int32) : ∀ j n, j + 1 ≤ S → j < n → tq_Above P F (S - 1 - j) j →
    ∃ q, q ≤ j ∧ tq_Above P F (S - 1 - q) q ∧ (q = 0 ∨ P / 2 ^ (q - 1) % 2 ≠ F) ∧ m_value_b17 rg pv un n (nI j + (-1)) first (nI (S - 1 - j)) lf = m_value_b43 rg pv un (nI q + (-1)) first (nI (S - 1 - q)) lf := by
  intro j
  induction j with
  | zero =>
    intro n h1 h2 hA
    obtain ⟨m, rfl⟩ : ∃ m, n = m + 1 := ⟨n - 1, by omega⟩
    refine ⟨0, Nat.le_refl _, hA, .inl rfl, ?_⟩
    rw [m_value_b17, if_pos (by decide)]
  | succ j ih =>
    intro n h1 h2 hA
    obtain ⟨m, rfl⟩ : ∃ m, n = m + 1 := ⟨n - 1, by omega⟩
    have hb := tq_bitL hp (tq_nI_i (n := j) (by omega)) (by omega)
    have hs := tq_half_step P j
    by_cases q : P / 2 ^ j % 2 = F
    · have hA2 : tq_Above P F (S - 1 - j) j := by
        have e : S - 1 - j = S - 1 - (j + 1) + 1 := by omega
        rcases hA with ⟨a, b⟩ | ⟨a, b⟩
        · left; refine ⟨a, ?_⟩
          rw [e, Nat.pow_succ]; omega
        · right; exact ⟨a, by omega⟩
      obtain ⟨q0, w1, w2, w3, w4⟩ := ih m (by omega) (by omega) hA2
      refine ⟨q0, by omega, w2, w3, ?_⟩
      rw [← w4, m_value_b17, tq_nI_pred (by omega), if_neg (tq_nI_nn (by omega)), if_neg (fun z => z (tq_cmp_eq.2 (Int64.toInt.inj (by rw [hb, hF, q])))), tq_nI_add]
      have e : S - 1 - (j + 1) + 1 = S - 1 - j := by omega
      rw [e]
    · refine ⟨j + 1, Nat.le_refl _, hA, .inr (by rw [Nat.add_sub_cancel]; exact q), ?_⟩
      rw [m_value_b17, tq_nI_pred (by omega), if_neg (tq_nI_nn (by omega)), if_pos (show ¬ lg_cmp _ first = 0 from fun z => q (by
        have := tq_cmp_eq.1 z
        have : ((pv >>> ((nI j).toInt64 &&& 63)) &&& 1).toInt = first.toInt := by rw [this]
        rw [hb, hF] at this; omega))]
/-- the rest behind the run, left-aligned in 32 bits -/
def tq_restZ (P q : Nat) : Nat := P % 2 ^ (q - 1) * 2 ^ (33 - q)
theorem tq_body_of_run {P S F q : Nat} (hS : 2 ≤ S ∧ S ≤ 33) (hq : q + 1 < S) (hP : 1 ≤ P) (hne : S = 33 → q ≠ 0) (hA : tq_Above P F (S - 1 - q) q) (hend : q = 0 ∨ P / 2 ^ (q - 1) % 2 ≠ F) :
    tq_Body (P * 2 ^ (33 - S)) (if F = 1 then ((S - 1 - q : Nat) : Int) - 1 else -((S - 1 - q : Nat) : Int)) (tq_restZ P q) := by
  have hZ : tq_restZ P q < 2 ^ 32 := by
    unfold tq_restZ
    rcases Nat.eq_zero_or_pos q with z | z
    · subst z; simp [Nat.mod_one]
    · have e : 2 ^ 32 = 2 ^ (q - 1) * 2 ^ (33 - q) := by rw [← Nat.pow_add, show q - 1 + (33 - q) = 32 by omega]
      rw [e]; exact Nat.mul_lt_mul_of_pos_right (Nat.mod_lt _ (Nat.two_pow_pos _)) (Nat.two_pow_pos _)
  -- P by its parts
  have hst : 1 ≤ q → P = P / 2 ^ q * 2 ^ q + P / 2 ^ (q - 1) % 2 * 2 ^ (q - 1) + P % 2 ^ (q - 1) := by
    intro z
    have h1 := tq_half_step P (q - 1)
    rw [show q - 1 + 1 = q by omega] at h1
    have h2 := Nat.div_add_mod P (2 ^ (q - 1))
    have e : 2 ^ q = 2 ^ (q - 1) * 2 := by
      have h := Nat.pow_add 2 (q - 1) 1
      rw [show q - 1 + 1 = q by omega] at h; exact h
    rw [e]
    generalize P / 2 ^ (q - 1) % 2 = b at *
    rw [h1] at h2
    rw [Nat.mul_add, Nat.mul_comm (2 ^ (q - 1)) b] at h2
    have : P / (2 ^ (q - 1) * 2) * (2 ^ (q - 1) * 2) = 2 ^ (q - 1) * (2 * (P / (2 ^ (q - 1) * 2))) := by ac_rfl
    rw [this]
    rw [e] at h2
    omega
  rcases hA with ⟨a, b⟩ | ⟨a, b⟩
  · rw [if_pos a]
    refine ⟨hZ, .inl ⟨by omega, by omega, ?_⟩⟩
    have er : (((S - 1 - q : Nat) : Int) - 1).toNat + 2 = S - q := by omega
    rw [er, Nat.mul_assoc, ← Nat.pow_add, show 33 - S + (S - q) = 33 - q by omega]
    have hfin : P = (2 ^ (S - 1 - q) - 1) * 2 ^ q + P % 2 ^ (q - 1) := by
      rcases Nat.eq_zero_or_pos q with z | z
      · subst z
        rw [Nat.pow_zero, Nat.div_one] at b
        simp only [Nat.pow_zero, Nat.mul_one, Nat.mod_one]
        have e0 : 0 - 1 = 0 := rfl
        rw [e0, Nat.pow_zero, Nat.mod_one]; omega
      · have hb0 : P / 2 ^ (q - 1) % 2 = 0 := by have := hend.resolve_left (by omega); omega
        have := hst z
        rw [hb0] at this
        have pk := Nat.two_pow_pos (S - 1 - q)
        have e : P / 2 ^ q = 2 ^ (S - 1 - q) - 1 := by omega
        rw [e] at this
        omega
    have e2 : 2 ^ 32 * 2 ^ (S - q) = 2 ^ (S - 1 - q) * 2 ^ 33 := by rw [← Nat.pow_add, ← Nat.pow_add]; congr 1; omega
    have e3 : 2 ^ q * 2 ^ (33 - q) = 2 ^ 33 := by rw [← Nat.pow_add, show q + (33 - q) = 33 by omega]
    have pk := Nat.two_pow_pos (S - 1 - q)
    have e4 : P * 2 ^ (33 - q) = (2 ^ (S - 1 - q) - 1) * 2 ^ 33 + tq_restZ P q := by
      unfold tq_restZ
      have this : P * 2 ^ (33 - q) = ((2 ^ (S - 1 - q) - 1) * 2 ^ q + P % 2 ^ (q - 1)) * 2 ^ (33 - q) := congrArg (· * 2 ^ (33 - q)) hfin
      rw [this, Nat.add_mul, Nat.mul_assoc, e3]
    rw [e4, e2, Nat.sub_mul]
    have := Nat.mul_le_mul_right (2 ^ 33) pk
    omega
  · have nf : ¬ F = 1 := by omega
    rw [if_neg nf]
    have q1 : 1 ≤ q := by
      rcases Nat.eq_zero_or_pos q with z | z
      · subst z; rw [Nat.pow_zero, Nat.div_one] at b; omega
      · exact z
    have hb1 : P / 2 ^ (q - 1) % 2 = 1 := by have := hend.resolve_left (by omega); omega
    have hfin := hst q1
    rw [hb1, b, Nat.zero_mul, Nat.zero_add, Nat.one_mul] at hfin
    refine ⟨hZ, .inr ⟨by omega, by omega, ?_⟩⟩
    have er : (-(-((S - 1 - q : Nat) : Int))).toNat + 1 = S - q := by omega
    rw [er, Nat.mul_assoc, ← Nat.pow_add, show 33 - S + (S - q) = 33 - q by omega]
    have e3 : 2 ^ (q - 1) * 2 ^ (33 - q) = 2 ^ 32 := by rw [← Nat.pow_add, show q - 1 + (33 - q) = 32 by omega]
    unfold tq_restZ
    have this : P * 2 ^ (33 - q) = (2 ^ (q - 1) + P % 2 ^ (q - 1)) * 2 ^ (33 - q) := congrArg (· * 2 ^ (33 - q)) hfin
    rw [this, Nat.add_mul, e3]
/-- the exponent's two bits and the fraction's bits, out of the rest -/
theorem tq_rest_e {P q : Nat} (hq : q ≤ 32) : tq_restZ P q / 2 ^ 30 = (if q < 2 then 0 else 2 * (P / 2 ^ (q - 2) % 2)) + (if q < 3 then 0 else P / 2 ^ (q - 3) % 2) := by
  unfold tq_restZ
  by_cases h2 : q < 2
  · rw [if_pos h2, if_pos (by omega)]
    have : q - 1 = 0 := by omega
    rw [this, Nat.pow_zero, Nat.mod_one]; simp
  · rw [if_neg h2]
    by_cases h3 : q < 3
    · rw [if_pos h3]
      have : q = 2 := by omega
      subst this
      simp only [Nat.reduceSub, Nat.reducePow, Nat.div_one]
      omega
    · rw [if_neg h3]
      have e : 33 - q + (q - 3) = 30 := by omega
      have e1 : 2 ^ 30 = 2 ^ (q - 3) * 2 ^ (33 - q) := by rw [← Nat.pow_add, show q - 3 + (33 - q) = 30 by omega]
      rw [e1, Nat.mul_div_mul_right _ _ (Nat.two_pow_pos _)]
      have e2 : 2 ^ (q - 1) = 2 ^ (q - 3) * 4 := by rw [show q - 1 = q - 3 + 2 by omega, Nat.pow_add]
      rw [e2, Nat.mod_mul_right_div_self]
      have e3 : P / 2 ^ (q - 2) = P / 2 ^ (q - 3) / 2 := by rw [show q - 2 = q - 3 + 1 by omega, Nat.pow_succ, Nat.div_div_eq_div_mul]
      rw [e3]; omega
theorem tq_rest_f {P q : Nat} (hq : q ≤ 32) : 2 ^ 32 + 4 * tq_restZ P q % 2 ^ 32 = (2 ^ (q - 3) + P % 2 ^ (q - 3)) * 2 ^ (32 - (q - 3)) := by
  unfold tq_restZ
  have e1 : 2 ^ (q - 3) * 2 ^ (32 - (q - 3)) = 2 ^ 32 := by rw [← Nat.pow_add, show q - 3 + (32 - (q - 3)) = 32 by omega]
  rw [Nat.add_mul, e1]
  congr 1
  by_cases h3 : q < 3
  · have z : q - 3 = 0 := by omega
    rw [z, Nat.pow_zero, Nat.mod_one, Nat.zero_mul]
    have : q = 0 ∨ q = 1 ∨ q = 2 := by omega
    rcases this with rfl | rfl | rfl
    · simp [Nat.mod_one]
    · simp [Nat.mod_one]
    · simp only [Nat.reduceSub, Nat.reducePow]; omega
  · have e4 : 4 * (P % 2 ^ (q - 1) * 2 ^ (33 - q)) = P % 2 ^ (q - 1) * 2 ^ (35 - q) := by
      rw [show 35 - q = 33 - q + 2 by omega, Nat.pow_add, Nat.mul_left_comm, Nat.mul_comm 4]
    have e5 : 2 ^ 32 = 2 ^ (q - 3) * 2 ^ (35 - q) := by rw [← Nat.pow_add, show q - 3 + (35 - q) = 32 by omega]
    rw [e4, e5, Nat.mul_mod_mul_right, show 32 - (q - 3) = 35 - q by omega]
    congr 1
    have e2 : 2 ^ (q - 1) = 2 ^ (q - 3) * 4 := by rw [show q - 1 = q - 3 + 2 by omega, Nat.pow_add]
    rw [e2, Nat.mod_mul_right_mod]
end
section
theorem tq_bitI {pv : Int64} {P : Nat} (hp : pv.toInt = P) {v : Int32} {i : Nat} (hv : v.toInt = i) (hi : i < 64) : (((pv >>> (v.toInt64 &&& 63)) &&& 1).toInt32).toInt = ((P / 2 ^ i % 2 : Nat) : Int) := by
  have hb := tq_bitL hp hv hi
  apply tq_i32_of_u
  · rw [tq_u32_of_64, tq_u64_of_i hb]; omega
  · omega
theorem tq_v121 {r : Nat} (hr : r ≤ 4) {f : Nat → Int32} (hw : tq_WL 200 f) {pv : Int64} {P : Nat} (hp : pv.toInt = P) {un v10 v11 t0 : Int32} {R : Int} {E m U : Nat} (h10 : v10.toInt = R) (h11 : v11.toInt = E) (ht : t0.toInt = m) (hm : m ≤ 29) (hE : E ≤ 3) (hR : -40 ≤ R ∧ R ≤ 40) (hu : un.toInt = U) (hU : U ≤ 200) (hsh : 0 ≤ 4 * R + E - m + U) :
    ∃ g, m_value_b121 (nI r) pv un v10 v11 t0 f = some g ∧ tq_WL 200 g ∧ tq_Fr r f g ∧ tq_rv g (40 * r) 40 = (2 ^ m + P % 2 ^ m) * 2 ^ (4 * R + E - m + U).toNat := by
  unfold m_value_b121
  have u1 : tq_u64 (1 : Int64) = 1 := rfl
  have pm : 2 ^ m ≤ 2 ^ 29 := Nat.pow_le_pow_right (by omega) hm
  have pm0 := Nat.two_pow_pos m
  have a1 : tq_u64 ((1 : Int64) <<< (t0.toInt64 &&& 63)) = 2 ^ m := by rw [tq_u64_shl ht (by omega), u1, Nat.one_mul, Nat.mod_eq_of_lt (by omega)]
  have a1i := tq_i64_of_u a1 (by omega)
  have c1 : ((1 : Int64)).toInt = 1 := rfl
  have a2 : (((1 : Int64) <<< (t0.toInt64 &&& 63)) - 1).toInt = ((2 ^ m - 1 : Nat) : Int) := by rw [tq_i64_sub (by rw [a1i, c1]; omega), a1i, c1]; omega
  have a3 : tq_u64 (pv &&& (((1 : Int64) <<< (t0.toInt64 &&& 63)) - 1)) = P % 2 ^ m := by
    rw [tq_u64_and, tq_u64_of_i hp, tq_u64_of_i a2, Nat.and_two_pow_sub_one_eq_mod]
  have hml := Nat.mod_lt P pm0
  have a4 : tq_u64 (((1 : Int64) <<< (t0.toInt64 &&& 63)) + (pv &&& (((1 : Int64) <<< (t0.toInt64 &&& 63)) - 1))) = 2 ^ m + P % 2 ^ m := by
    rw [tq_u64_add, a1, a3]; omega
  obtain ⟨g, e, w, fr, h⟩ := tq_setLong_spec hr hw (((1 : Int64) <<< (t0.toInt64 &&& 63)) + (pv &&& (((1 : Int64) <<< (t0.toInt64 &&& 63)) - 1)))
  rw [tq_bd_e e, tq_nm_e]
  have c4 : ((4 : Int32)).toInt = 4 := rfl
  have c0 : ((0 : Int32)).toInt = 0 := rfl
  have b1 : ((4 : Int32) * v10).toInt = 4 * R := by rw [tq_i32_mul (by rw [c4, h10]; omega), c4, h10]
  have b2 : ((4 : Int32) * v10 + v11).toInt = 4 * R + E := by rw [tq_i32_add (by rw [b1, h11]; omega), b1, h11]
  have b3 : ((4 : Int32) * v10 + v11 - t0).toInt = 4 * R + E - m := by rw [tq_i32_sub (by rw [b2, ht]; omega), b2, ht]
  have b4 : ((4 : Int32) * v10 + v11 - t0 + un).toInt = 4 * R + E - m + U := by rw [tq_i32_add (by rw [b3, hu]; omega), b3, hu]
  rw [if_neg (by rw [Int32.lt_iff_toInt_lt, b4, c0]; omega)]
  have b5 : ((4 : Int32) * v10 + v11 - t0 + un).toInt = (((4 * R + E - m + U).toNat : Nat) : Int) := by rw [b4]; omega
  obtain ⟨g2, e2, w2, fr2, h2⟩ := tq_raise_spec hr w b5 (by omega)
  rw [tq_bd_e e2]
  refine ⟨g2, rfl, w2, fun x hx => by rw [fr2 x hx]; exact fr x hx, ?_⟩
  rw [h2, h, a4, Nat.mod_eq_of_lt]
  have : (2 ^ m + P % 2 ^ m) * 2 ^ (4 * R + E - m + U).toNat < 2 ^ 30 * 2 ^ (4 * R + E - m + U).toNat := Nat.mul_lt_mul_of_pos_right (by omega) (Nat.two_pow_pos _)
  rw [← Nat.pow_add] at this
  exact Nat.lt_of_lt_of_le this (Nat.pow_le_pow_right (by omega) (by omega))
theorem tq_ar1 {q : Nat} (h : q ≤ 32) : q - 3 ≤ 29 := by omega
theorem tq_ar2 {R : Int} {E q S U : Nat} (hq : q + 1 < S) (hS : S ≤ 33) (hU : 4 * S - 8 ≤ U) (h3 : R < 0 → 1 ≤ q) (h4 : -((S - 1 - q : Nat) : Int) ≤ R) : 0 ≤ 4 * R + E - (q - 3 : Nat) + U := by
  rcases Int.lt_or_le R 0 with z | z
  · have := h3 z; omega
  · omega
theorem tq_ar3 {R : Int} {E q U : Nat} (hq : q ≤ 32) (h : 0 ≤ 4 * R + E - (q - 3 : Nat) + U) : (4 * R + (E : Int) - (q - 3 : Nat) + U).toNat + 32 = 32 - (q - 3) + (4 * R + (E : Int) + U).toNat := by omega
theorem tq_ar4 {R : Int} {E q U : Nat} (h : 0 ≤ 4 * R + E - (q - 3 : Nat) + U) : 0 ≤ 4 * R + (E : Int) + U := by omega
theorem tq_ar5 {q S : Nat} (hq : q + 1 < S) (hS : S ≤ 33) : q ≤ 32 := by omega
theorem tq_v60 {pv : Int64} {P : Nat} (hp : pv.toInt = P) {rg un v6 rgm : Int32} {q : Nat} (hq : q ≤ 32) (h6 : v6.toInt = (q : Int) - 1) (f : Nat → Int32) :
    ∃ a : Int32, m_value_b60 rg pv un v6 rgm f = m_value_b83 rg pv un (v6 + (-1)) rgm a f ∧ a.toInt = ((if q < 2 then 0 else 2 * (P / 2 ^ (q - 2) % 2) : Nat) : Int) := by
  have cm1 : ((-1 : Int32)).toInt = -1 := rfl
  have c0 : ((0 : Int32)).toInt = 0 := rfl
  have c2 : ((2 : Int32)).toInt = 2 := rfl
  have i2 : (v6 + (-1)).toInt = (q : Int) - 2 := by rw [tq_i32_add (by rw [h6, cm1]; omega), h6, cm1]; omega
  unfold m_value_b60
  by_cases z : q < 2
  · rw [if_pos (tq_i32_lt0 (by rw [i2]; omega)), if_pos z]; exact ⟨0, rfl, rfl⟩
  · rw [if_neg (by rw [Int32.lt_iff_toInt_lt, i2, c0]; omega), if_neg z]
    refine ⟨_, rfl, ?_⟩
    have hb2 := tq_bitI hp (v := v6 + (-1)) (i := q - 2) (by rw [i2]; omega) (by omega)
    generalize P / 2 ^ (q - 2) % 2 = bt at *
    have : (0 : Int) ≤ bt := by omega
    have hbt : bt < 2 := by
      rcases Nat.lt_or_ge bt 2 with w | w
      · exact w
      · exfalso
        have := tq_bitI hp (v := v6 + (-1)) (i := q - 2) (by rw [i2]; omega) (by omega)
        rw [hb2] at this; omega
    rw [tq_i32_mul (by rw [hb2, c2]; omega), hb2, c2]; omega
theorem tq_v83 {pv : Int64} {P : Nat} (hp : pv.toInt = P) {rg un v6 rgm a : Int32} {q : Nat} (hq : q ≤ 32) (h6 : v6.toInt = (q : Int) - 2) (f : Nat → Int32) :
    ∃ b : Int32, m_value_b83 rg pv un v6 rgm a f = m_value_b102 rg pv un v6 rgm b a f ∧ b.toInt = ((if q < 3 then 0 else P / 2 ^ (q - 3) % 2 : Nat) : Int) := by
  have c1 : ((1 : Int32)).toInt = 1 := rfl
  unfold m_value_b83
  by_cases z : q < 3
  · rw [if_pos (by rw [Int32.lt_iff_toInt_lt, h6, c1]; omega), if_pos z]; exact ⟨0, rfl, rfl⟩
  · rw [if_neg (by rw [Int32.lt_iff_toInt_lt, h6, c1]; omega), if_neg z]
    refine ⟨_, rfl, tq_bitI hp ?_ (by omega)⟩
    rw [tq_i32_sub (by rw [h6, c1]; omega), h6, c1]; omega
theorem tq_v102 {pv : Int64} {rg un v6 rgm a b : Int32} {q A B : Nat} (hq : q ≤ 32) (h6 : v6.toInt = (q : Int) - 2) (ha : a.toInt = A) (hb : b.toInt = B) (hA : A ≤ 2) (hB : B ≤ 1) (f : Nat → Int32) :
    ∃ x m : Int32, m_value_b102 rg pv un v6 rgm b a f = m_value_b121 rg pv un rgm x m f ∧ x.toInt = ((A + B : Nat) : Int) ∧ m.toInt = ((q - 3 : Nat) : Int) := by
  have cm2 : ((-2 : Int32)).toInt = -2 := rfl
  have c1 : ((1 : Int32)).toInt = 1 := rfl
  have c0 : ((0 : Int32)).toInt = 0 := rfl
  unfold m_value_b102
  rw [tq_nm_e]
  have i2 : (v6 + (-2)).toInt = (q : Int) - 4 := by rw [tq_i32_add (by rw [h6, cm2]; omega), h6, cm2]; omega
  have ex : (a + b).toInt = ((A + B : Nat) : Int) := by rw [tq_i32_add (by rw [ha, hb]; omega), ha, hb]; omega
  by_cases z : q < 4
  · rw [if_pos (tq_i32_lt0 (by rw [i2]; omega))]
    exact ⟨_, _, rfl, ex, by rw [c0]; omega⟩
  · rw [if_neg (by rw [Int32.lt_iff_toInt_lt, i2, c0]; omega)]
    refine ⟨_, _, rfl, ex, ?_⟩
    rw [tq_i32_add (by rw [i2, c1]; omega), i2, c1]; omega
theorem tq_value_tail {r : Nat} (hr : r ≤ 4) {f : Nat → Int32} (hw : tq_WL 200 f) {pv : Int64} {P : Nat} (hp : pv.toInt = P) {un v6 rgm : Int32} {R : Int} {q U E : Nat} (hq : q ≤ 32) (h6 : v6.toInt = (q : Int) - 1) (hg : rgm.toInt = R) (hR : -40 ≤ R ∧ R ≤ 40) (hu : un.toInt = U) (hU : U ≤ 200)
    (hE : E = (if q < 2 then 0 else 2 * (P / 2 ^ (q - 2) % 2)) + (if q < 3 then 0 else P / 2 ^ (q - 3) % 2)) (hsh : 0 ≤ 4 * R + E - (q - 3 : Nat) + U) :
    ∃ g, m_value_b60 (nI r) pv un v6 rgm f = some g ∧ tq_WL 200 g ∧ tq_Fr r f g ∧ tq_rv g (40 * r) 40 = (2 ^ (q - 3) + P % 2 ^ (q - 3)) * 2 ^ (4 * R + E - (q - 3 : Nat) + U).toNat := by
  have cm1 : ((-1 : Int32)).toInt = -1 := rfl
  have i2 : (v6 + (-1)).toInt = (q : Int) - 2 := by rw [tq_i32_add (by rw [h6, cm1]; omega), h6, cm1]; omega
  obtain ⟨a, e1, ha⟩ := tq_v60 (rg := nI r) (un := un) (rgm := rgm) hp hq h6 f
  obtain ⟨b, e2, hb⟩ := tq_v83 (rg := nI r) (un := un) (rgm := rgm) (a := a) hp hq i2 f
  have hA : (if q < 2 then 0 else 2 * (P / 2 ^ (q - 2) % 2)) ≤ 2 := by split <;> omega
  have hB : (if q < 3 then 0 else P / 2 ^ (q - 3) % 2) ≤ 1 := by split <;> omega
  obtain ⟨x, m, e3, hx, hm⟩ := tq_v102 (pv := pv) (rg := nI r) (un := un) (rgm := rgm) hq i2 ha hb hA hB f
  rw [← hE] at hx
  have hE3 : E ≤ 3 := by omega
  rw [e1, e2, e3]
  exact tq_v121 hr hw hp hg hx hm (tq_ar1 hq) hE3 hR hu hU hsh
/-- what the reference's value(r, p, size, unit) leaves in row r -/
theorem tq_value_spec {r : Nat} (hr : r ≤ 4) {f : Nat → Int32} (hw : tq_WL 200 f) {pv : Int64} {P : Nat} (hp : pv.toInt = P) {size un : Int32} {S U : Nat} (hs : size.toInt = S) (hS : 2 ≤ S ∧ S ≤ 33) (hP : 1 ≤ P ∧ P < 2 ^ (S - 1)) (hne : S = 33 → P + 1 ≠ 2 ^ 32) (hu : un.toInt = U) (hU : 4 * S - 8 ≤ U ∧ U ≤ 200) :
    ∃ g, m_value f (nI r) pv size un = some g ∧ tq_WL 200 g ∧ tq_Fr r f g ∧ ∃ (R : Int) (Z : Nat), tq_Body (P * 2 ^ (33 - S)) R Z ∧ 0 ≤ 4 * R + (Z / 2 ^ 30 : Nat) + U ∧ tq_rv g (40 * r) 40 * 2 ^ 32 = (2 ^ 32 + 4 * Z % 2 ^ 32) * 2 ^ (4 * R + (Z / 2 ^ 30 : Nat) + U).toNat := by
  unfold m_value
  have c2 : ((2 : Int32)).toInt = 2 := rfl
  have c1 : ((1 : Int32)).toInt = 1 := rfl
  have cm1 : ((-1 : Int32)).toInt = -1 := rfl
  have e1 : (size - 2).toInt = ((S - 2 : Nat) : Int) := by rw [tq_i32_sub (by rw [hs, c2]; omega), hs, c2]; omega
  rw [tq_nm_e, tq_nm_e]
  have hF := tq_bitL hp e1 (by omega)
  generalize hfst : (pv >>> ((size - 2).toInt64 &&& 63)) &&& 1 = first at *
  generalize hFv : P / 2 ^ (S - 2) % 2 = F at *
  have hF01 : F = 0 ∨ F = 1 := by omega
  have htop : P / 2 ^ (S - 1) = 0 := Nat.div_eq_of_lt hP.2
  have hA0 : tq_Above P F (S - 1 - (S - 1)) (S - 1) := by
    rcases hF01 with z | z
    · exact .inr ⟨z, htop⟩
    · exact .inl ⟨z, by rw [htop, Nat.sub_self]⟩
  have eb : nI (S - 1) + (-1) = size - 2 := by
    have : S - 1 = S - 2 + 1 := by omega
    rw [this, tq_nI_pred (by omega)]
    exact (tq_of_i32 e1).symm
  obtain ⟨q, q1, q2, q3, q4⟩ := tq_run_loop (rg := nI r) hp (un := un) (S := S) (by omega) hF f (S - 1) 41 (by omega) (by omega) hA0
  rw [eb, Nat.sub_self] at q4
  have e0 : nI 0 = (0 : Int32) := rfl
  rw [e0] at q4
  rw [q4]
  have hq : q + 1 < S := by
    rcases Nat.lt_or_ge (q + 1) S with z | z
    · exact z
    · have : q = S - 1 := by omega
      rcases q3 with w | w
      · omega
      · rw [this, show S - 1 - 1 = S - 2 by omega] at w
        exact absurd hFv w
  have hqne : S = 33 → q ≠ 0 := by
    intro z w
    rw [w, z] at q2
    rcases q2 with ⟨a, b⟩ | ⟨a, b⟩
    · rw [Nat.pow_zero, Nat.div_one] at b; exact hne z b
    · rw [Nat.pow_zero, Nat.div_one] at b; omega
  have hq1 : F = 0 → 1 ≤ q := by
    intro z
    rcases Nat.eq_zero_or_pos q with w | w
    · rw [w] at q2
      rcases q2 with ⟨a, b⟩ | ⟨a, b⟩
      · omega
      · rw [Nat.pow_zero, Nat.div_one] at b; omega
    · exact w
  have hbody := tq_body_of_run hS hq hP.1 hqne q2 q3
  have he := tq_rest_e (P := P) (q := q) (by omega)
  have hfr := tq_rest_f (P := P) (q := q) (by omega)
  clear hne q4 htop hA0 hqne q2 q3 hfst hFv
  have hreg : ∃ rgm : Int32, m_value_b43 (nI r) pv un (nI q + (-1)) first (nI (S - 1 - q)) f = m_value_b60 (nI r) pv un (nI q + (-1)) rgm f ∧ rgm.toInt = (if F = 1 then ((S - 1 - q : Nat) : Int) - 1 else -((S - 1 - q : Nat) : Int)) := by
    unfold m_value_b43
    have c1L : ((1 : Int64)).toInt = 1 := rfl
    have hk := tq_nI_i (n := S - 1 - q) (by omega)
    by_cases z : lg_cmp first 1 = 0
    · rw [if_neg (fun w => w z)]
      have := tq_cmp_eq.1 z
      rw [this, c1L] at hF
      refine ⟨_, rfl, ?_⟩
      rw [if_pos (by omega), tq_i32_sub (by rw [hk, c1]; omega), hk, c1]
    · rw [if_pos z]
      have : F ≠ 1 := fun w => z (tq_cmp_eq.2 (Int64.toInt.inj (by rw [hF, w, c1L]; rfl)))
      refine ⟨_, rfl, ?_⟩
      rw [if_neg this, tq_i32_neg (by rw [hk]; omega), hk]
  obtain ⟨rgm, g1, g2⟩ := hreg
  rw [g1]
  have hRR : ∃ R : Int, R = (if F = 1 then ((S - 1 - q : Nat) : Int) - 1 else -((S - 1 - q : Nat) : Int)) ∧ -40 ≤ R ∧ R ≤ 40 ∧ (R < 0 → 1 ≤ q) ∧ -((S - 1 - q : Nat) : Int) ≤ R := by
    refine ⟨_, rfl, ?_, ?_, ?_, ?_⟩
    · split <;> omega
    · split <;> omega
    · split
      · omega
      · rename_i z; intro _; exact hq1 (by omega)
    · split <;> omega
  obtain ⟨R, hR, hR1, hR2, hR3, hR4⟩ := hRR
  rw [← hR] at g2 hbody
  clear hR
  have i1 : (nI q + (-1)).toInt = (q : Int) - 1 := by rw [tq_i32_add (by rw [tq_nI_i (by omega), cm1]; omega), tq_nI_i (by omega), cm1]; omega
  generalize tq_restZ P q = Z at *
  have hsh : 0 ≤ 4 * R + (Z / 2 ^ 30 : Nat) - (q - 3 : Nat) + U := tq_ar2 hq hS.2 hU.1 hR3 hR4
  have hq32 := tq_ar5 hq hS.2
  obtain ⟨g, e, w, fr, h⟩ := tq_value_tail hr hw hp hq32 i1 g2 ⟨hR1, hR2⟩ hu hU.2 he hsh
  refine ⟨g, e, w, fr, R, Z, hbody, tq_ar4 hsh, ?_⟩
  rw [h, hfr, Nat.mul_assoc, Nat.mul_assoc, ← Nat.pow_add, ← Nat.pow_add, tq_ar3 hq32 hsh]
end
section
/-- a value in units of 2^(-156): what run R and rest Z stand for -/
def tq_xv (R : Int) (Z : Nat) : Nat := (2 ^ 32 + 4 * Z % 2 ^ 32) * 2 ^ (4 * R + (Z / 2 ^ 30 : Nat) + 124).toNat
theorem tq_xv_lo {R : Int} {Z : Nat} (h : -31 ≤ R) {k : Nat} (hk : (k : Int) ≤ 4 * R + (Z / 2 ^ 30 : Nat) + 156) : 2 ^ k ≤ tq_xv R Z := by
  unfold tq_xv
  have h1 : 2 ^ (32 + (4 * R + (Z / 2 ^ 30 : Nat) + 124).toNat) ≤ (2 ^ 32 + 4 * Z % 2 ^ 32) * 2 ^ (4 * R + (Z / 2 ^ 30 : Nat) + 124).toNat := by
    rw [Nat.pow_add]; exact Nat.mul_le_mul_right _ (Nat.le_add_right _ _)
  refine Nat.le_trans (Nat.pow_le_pow_right (by omega) ?_) h1
  generalize Z / 2 ^ 30 = e at *
  omega
theorem tq_xv_hi {R : Int} {Z : Nat} (h : -31 ≤ R) {k : Nat} (hk : 4 * R + (Z / 2 ^ 30 : Nat) + 157 ≤ (k : Int)) : tq_xv R Z < 2 ^ k := by
  unfold tq_xv
  have h1 : (2 ^ 32 + 4 * Z % 2 ^ 32) * 2 ^ (4 * R + (Z / 2 ^ 30 : Nat) + 124).toNat < 2 ^ (33 + (4 * R + (Z / 2 ^ 30 : Nat) + 124).toNat) := by
    rw [Nat.pow_add]; exact Nat.mul_lt_mul_of_pos_right (by omega) (Nat.two_pow_pos _)
  refine Nat.lt_of_lt_of_le h1 (Nat.pow_le_pow_right (by omega) ?_)
  generalize Z / 2 ^ 30 = e at *
  omega
theorem tq_xv_mono_z {R : Int} {Z Z' : Nat} (h : -31 ≤ R) (hz : Z ≤ Z') : tq_xv R Z ≤ tq_xv R Z' := by
  rcases Nat.lt_or_ge (Z / 2 ^ 30) (Z' / 2 ^ 30) with q | q
  · obtain ⟨k, hk⟩ : ∃ k : Nat, (k : Int) = 4 * R + (Z / 2 ^ 30 : Nat) + 157 := ⟨(4 * R + (Z / 2 ^ 30 : Nat) + 157).toNat, by generalize Z / 2 ^ 30 = e at *; omega⟩
    exact Nat.le_trans (Nat.le_of_lt (tq_xv_hi h (k := k) (by omega))) (tq_xv_lo h (k := k) (by omega))
  · have e : Z / 2 ^ 30 = Z' / 2 ^ 30 := by
      have := Nat.div_le_div_right (c := 2 ^ 30) hz; omega
    unfold tq_xv
    rw [e]
    exact Nat.mul_le_mul_right _ (by omega)
theorem tq_body_mono {B B' : Nat} (hB : B' < 2 ^ 32) (hBB : B ≤ B') {R R' : Int} {Z Z' : Nat} (h : tq_Body B R Z) (h' : tq_Body B' R' Z') : R < R' ∨ (R = R' ∧ Z ≤ Z') := by
  obtain ⟨z1, h⟩ := h
  obtain ⟨z2, h'⟩ := h'
  have conv : ∀ {B : Nat} {r : Int} {Z : Nat}, B < 2 ^ 32 → B * 2 ^ (r.toNat + 2) + 2 ^ 33 = 2 ^ 32 * 2 ^ (r.toNat + 2) + Z → (2 ^ 32 - B) * 2 ^ (r.toNat + 2) + Z = 2 ^ 33 := by
    intro B r Z hb h
    rw [Nat.sub_mul]
    have := Nat.mul_le_mul_right (2 ^ (r.toNat + 2)) (show B ≤ 2 ^ 32 by omega)
    omega
  rcases h with ⟨a1, a2, a3⟩ | ⟨a1, a2, a3⟩ <;> rcases h' with ⟨b1, b2, b3⟩ | ⟨b1, b2, b3⟩
  · have a3 := conv (by omega) a3
    have b3 := conv hB b3
    rcases Int.lt_trichotomy R R' with q | q | q
    · exact .inl q
    · right; refine ⟨q, ?_⟩
      subst q
      have := Nat.mul_le_mul_right (2 ^ (R.toNat + 2)) (show 2 ^ 32 - B' ≤ 2 ^ 32 - B by omega)
      omega
    · exfalso
      have w := tq_pow_sep (X := 2 ^ 32 - B') (show R'.toNat + 2 < R.toNat + 2 by omega) (by omega)
      have s := Nat.mul_le_mul_left (2 ^ 32 - B') (Nat.pow_le_pow_right (n := 2) (by omega) (show R'.toNat + 2 + 1 ≤ R.toNat + 2 by omega))
      rw [Nat.pow_succ (n := 2) (m := R'.toNat + 2), ← Nat.mul_assoc] at s
      have := Nat.mul_le_mul_right (2 ^ (R.toNat + 2)) (show 2 ^ 32 - B' ≤ 2 ^ 32 - B by omega)
      omega
  · exfalso
    have h1 : 2 ^ 31 ≤ B := by
      have a3 := conv (by omega) a3
      have : 2 ^ 2 ≤ 2 ^ (R.toNat + 2) := Nat.pow_le_pow_right (by omega) (by omega)
      have := Nat.mul_le_mul_left (2 ^ 32 - B) this
      omega
    have h2 : B' < 2 ^ 31 := by
      have : 2 ^ 2 ≤ 2 ^ ((-R').toNat + 1) := Nat.pow_le_pow_right (by omega) (by omega)
      have := Nat.mul_le_mul_left B' this
      omega
    omega
  · left; omega
  · rcases Int.lt_trichotomy R R' with q | q | q
    · exact .inl q
    · right; refine ⟨q, ?_⟩
      subst q
      have := Nat.mul_le_mul_right (2 ^ ((-R).toNat + 1)) hBB
      omega
    · exfalso
      have w := tq_pow_sep (X := B) (show (-R).toNat + 1 < (-R').toNat + 1 by omega) (by omega)
      have := Nat.mul_le_mul_right (2 ^ ((-R').toNat + 1)) hBB
      omega
theorem tq_body_r {B : Nat} {R : Int} {Z : Nat} (h : tq_Body B R Z) : -31 ≤ R ∧ R ≤ 30 ∧ Z < 2 ^ 32 := by
  obtain ⟨z, h⟩ := h
  rcases h with ⟨a, b, _⟩ | ⟨a, b, _⟩ <;> omega
theorem tq_xv_mono {B B' : Nat} (hB : B' < 2 ^ 32) (hBB : B ≤ B') {R R' : Int} {Z Z' : Nat} (h : tq_Body B R Z) (h' : tq_Body B' R' Z') : tq_xv R Z ≤ tq_xv R' Z' := by
  have r1 := tq_body_r h
  have r2 := tq_body_r h'
  rcases tq_body_mono hB hBB h h' with q | ⟨q, w⟩
  · obtain ⟨k, hk⟩ : ∃ k : Nat, (k : Int) = 4 * R' + 156 := ⟨(4 * R' + 156).toNat, by omega⟩
    have e3 : Z / 2 ^ 30 < 4 := by omega
    exact Nat.le_trans (Nat.le_of_lt (tq_xv_hi r1.1 (k := k) (by generalize Z / 2 ^ 30 = e at *; omega))) (tq_xv_lo r2.1 (k := k) (by generalize Z' / 2 ^ 30 = e at *; omega))
  · subst q; exact tq_xv_mono_z r1.1 w
/-- a number x, by what lies below it: C v: v ≤ x; D v: v = x -/
def tq_Cut (C D : Nat → Prop) : Prop := (∀ v w, v ≤ w → C w → C v) ∧ (∀ v, D v → C v) ∧ (∀ v w, D v → v < w → ¬ C w)
/-- the number between 2^s and 2^(s+1), with the leading bits sig, and more behind them or not -/
def tq_Lead (C D : Nat → Prop) (s : Int) (sig : Nat) (mo : Bool) : Prop :=
  2 ^ 63 ≤ sig ∧ sig < 2 ^ 64 ∧ (∀ c x : Nat, 2 ^ 28 ≤ c → c < 2 ^ 29 → x * 2 ^ 28 = c * 2 ^ (s + 156).toNat → (C x ↔ c * 2 ^ 35 ≤ sig) ∧ (D x ↔ c * 2 ^ 35 = sig ∧ mo = false)) ∧ ¬ C (2 ^ (s + 157).toNat)
theorem tq_xv_same {s : Int} (hs : -124 ≤ s) {Z : Nat} (h4 : Z % 4 = 0) (he : (Z / 2 ^ 30 : Nat) = s % 4) (hz : Z < 2 ^ 32) : ∃ c, 2 ^ 28 ≤ c ∧ c < 2 ^ 29 ∧ tq_xv (s / 4) Z * 2 ^ 28 = c * 2 ^ (s + 156).toNat ∧ c * 2 ^ 35 = 2 ^ 63 + (Z % 2 ^ 30) * 2 ^ 33 := by
  refine ⟨2 ^ 28 + Z % 2 ^ 30 / 4, by omega, by omega, ?_, by omega⟩
  unfold tq_xv
  have e1 : (4 * (s / 4) + (Z / 2 ^ 30 : Nat) + 124).toNat = (s + 124).toNat := by
    generalize Z / 2 ^ 30 = e at *; omega
  have e2 : 2 ^ 32 + 4 * Z % 2 ^ 32 = (2 ^ 28 + Z % 2 ^ 30 / 4) * 2 ^ 4 := by omega
  rw [e1, e2, Nat.mul_assoc, Nat.mul_assoc, ← Nat.pow_add, ← Nat.pow_add]
  congr 2
  omega
theorem tq_cmp_xv {C D : Nat → Prop} (hcut : tq_Cut C D) {s : Int} (hs : -124 ≤ s ∧ s ≤ 124) {sig : Nat} {mo : Bool} (hl : tq_Lead C D s sig mo) {Z : Nat} (hz : Z < 2 ^ 32) (h4 : Z % 4 = 0) {A : Nat} (hA : A = (s % 4).toNat * 2 ^ 63 + (sig - 2 ^ 63)) :
    (C (tq_xv (s / 4) Z) ↔ Z * 2 ^ 33 ≤ A) ∧ (D (tq_xv (s / 4) Z) ↔ Z * 2 ^ 33 = A ∧ mo = false) := by
  obtain ⟨l1, l2, l3, l4⟩ := hl
  obtain ⟨m1, m2, m3⟩ := hcut
  have r1 : -31 ≤ s / 4 := by omega
  have c0 : C (2 ^ (s + 156).toNat) := by
    refine ((l3 (2 ^ 28) (2 ^ (s + 156).toNat) (Nat.le_refl _) (by omega) (Nat.mul_comm _ _)).1).2 ?_
    omega
  have hzz : Z * 2 ^ 33 = Z / 2 ^ 30 * 2 ^ 63 + Z % 2 ^ 30 * 2 ^ 33 := by omega
  have he3 : Z / 2 ^ 30 < 4 := by omega
  rcases Int.lt_trichotomy (Z / 2 ^ 30 : Nat) (s % 4) with q | q | q
  · -- below
    have hx : tq_xv (s / 4) Z < 2 ^ (s + 156).toNat := tq_xv_hi r1 (by generalize Z / 2 ^ 30 = e at *; omega)
    have hle : Z * 2 ^ 33 < A := by
      rw [hA, hzz]
      have : (Z / 2 ^ 30 + 1) * 2 ^ 63 ≤ (s % 4).toNat * 2 ^ 63 := Nat.mul_le_mul_right _ (by generalize Z / 2 ^ 30 = e at *; omega)
      omega
    refine ⟨⟨fun _ => Nat.le_of_lt hle, fun _ => m1 _ _ (Nat.le_of_lt hx) c0⟩, ⟨fun d => absurd c0 (m3 _ _ d hx), fun d => by omega⟩⟩
  · obtain ⟨c, c1, c2, c3, c4⟩ := tq_xv_same hs.1 h4 q hz
    obtain ⟨p1, p2⟩ := l3 c _ c1 c2 c3
    have hx : Z * 2 ^ 33 = (s % 4).toNat * 2 ^ 63 + Z % 2 ^ 30 * 2 ^ 33 := by
      rw [hzz]; congr 2; generalize Z / 2 ^ 30 = e at *; omega
    rw [c4] at p1 p2
    rw [p1, p2, hA, hx]
    constructor
    · constructor <;> intro w <;> omega
    · constructor
      · rintro ⟨w, w2⟩; refine ⟨?_, w2⟩
        rw [← w, Nat.add_sub_cancel_left]
      · rintro ⟨w, w2⟩; refine ⟨?_, w2⟩
        have w := Nat.add_left_cancel w
        omega
  · -- above
    have hx : 2 ^ (s + 157).toNat ≤ tq_xv (s / 4) Z := tq_xv_lo r1 (by generalize Z / 2 ^ 30 = e at *; omega)
    have hgt : A < Z * 2 ^ 33 := by
      rw [hA, hzz]
      have : ((s % 4).toNat + 1) * 2 ^ 63 ≤ Z / 2 ^ 30 * 2 ^ 63 := Nat.mul_le_mul_right _ (by generalize Z / 2 ^ 30 = e at *; omega)
      omega
    have nc : ¬ C (tq_xv (s / 4) Z) := fun w => l4 (m1 _ _ hx w)
    exact ⟨⟨fun w => absurd w nc, fun w => by omega⟩, ⟨fun d => absurd (m2 _ d) nc, fun d => by omega⟩⟩
end
section
/-- the bodies of t, of the middle above it and of t + 1, where t has the run of r -/
theorem tq_body_t {n : Nat} (hn : n = 8 ∨ n = 16 ∨ n = 32) {r : Int} (hr : -((n : Int) - 2) ≤ r ∧ r ≤ n - 3) {room y : Nat} (hroom : room = n - 1 - tq_rl r) (hy : y < 2 ^ room) : tq_Body ((tq_rn r * 2 ^ room + y) * 2 ^ (33 - n)) r (y * 2 ^ (32 - room)) := by
  have hZ : y * 2 ^ (32 - room) < 2 ^ 32 := by
    have e : 2 ^ 32 = 2 ^ room * 2 ^ (32 - room) := by rw [← Nat.pow_add, show room + (32 - room) = 32 by omega]
    rw [e]; exact Nat.mul_lt_mul_of_pos_right hy (Nat.two_pow_pos _)
  unfold tq_rl at hroom
  unfold tq_rn
  refine ⟨hZ, ?_⟩
  rcases Int.lt_or_le r 0 with q | q
  · rw [if_neg (by omega)] at hroom ⊢
    right
    refine ⟨q, by omega, ?_⟩
    rw [Nat.mul_assoc, ← Nat.pow_add, show 33 - n + ((-r).toNat + 1) = 32 - room by omega, Nat.add_mul, Nat.one_mul, ← Nat.pow_add, show room + (32 - room) = 32 by omega]
  · rw [if_pos q] at hroom ⊢
    left
    refine ⟨q, by omega, ?_⟩
    rw [Nat.mul_assoc, ← Nat.pow_add, show 33 - n + (r.toNat + 2) = 32 - room by omega, Nat.add_mul, Nat.mul_assoc, ← Nat.pow_add, show room + (32 - room) = 32 by omega, Nat.sub_mul]
    have h4 : 2 ^ 2 ≤ 2 ^ (r.toNat + 2) := Nat.pow_le_pow_right (by omega) (by omega)
    generalize 2 ^ (r.toNat + 2) = X at *
    omega
theorem tq_body_mid {n : Nat} (hn : n = 8 ∨ n = 16 ∨ n = 32) {r : Int} (hr : -((n : Int) - 2) ≤ r ∧ r ≤ n - 3) {room y : Nat} (hroom : room = n - 1 - tq_rl r) (hy : y < 2 ^ room) : tq_Body ((2 * (tq_rn r * 2 ^ room + y) + 1) * 2 ^ (32 - n)) r (y * 2 ^ (32 - room) + 2 ^ (31 - room)) := by
  have hrl : 2 ≤ tq_rl r ∧ tq_rl r ≤ n - 1 := by unfold tq_rl; split <;> omega
  have hZ : y * 2 ^ (32 - room) + 2 ^ (31 - room) < 2 ^ 32 := by
    have e : 2 ^ 32 = 2 ^ room * 2 ^ (32 - room) := by rw [← Nat.pow_add, show room + (32 - room) = 32 by omega]
    have e2 : 2 ^ (32 - room) = 2 ^ (31 - room) * 2 := by
      have h := Nat.pow_add 2 (31 - room) 1
      rw [show 31 - room + 1 = 32 - room by omega] at h; exact h
    have := Nat.mul_le_mul_right (2 ^ (32 - room)) (show y + 1 ≤ 2 ^ room from hy)
    rw [← e, Nat.add_mul] at this
    have p := Nat.two_pow_pos (31 - room)
    omega
  have e2 : ∀ X : Nat, (2 * X + 1) * 2 ^ (32 - room - 1) = X * 2 ^ (32 - room) + 2 ^ (31 - room) := by
    intro X
    have e2 : 2 ^ (32 - room) = 2 * 2 ^ (31 - room) := by
      have h := Nat.pow_add 2 1 (31 - room)
      rw [show 1 + (31 - room) = 32 - room by omega] at h; exact h
    rw [e2, show 32 - room - 1 = 31 - room by omega, Nat.add_mul, Nat.one_mul, Nat.mul_comm 2 X, Nat.mul_assoc]
  unfold tq_rl at hroom
  unfold tq_rn
  refine ⟨hZ, ?_⟩
  rcases Int.lt_or_le r 0 with q | q
  · rw [if_neg (by omega)] at hroom ⊢
    right
    refine ⟨q, by omega, ?_⟩
    rw [Nat.mul_assoc, ← Nat.pow_add, show 32 - n + ((-r).toNat + 1) = 32 - room - 1 by omega, e2, Nat.add_mul, Nat.one_mul, ← Nat.pow_add, show room + (32 - room) = 32 by omega, Nat.add_assoc]
  · rw [if_pos q] at hroom ⊢
    left
    refine ⟨q, by omega, ?_⟩
    rw [Nat.mul_assoc, ← Nat.pow_add, show 32 - n + (r.toNat + 2) = 32 - room - 1 by omega, e2, Nat.add_mul, Nat.mul_assoc, ← Nat.pow_add, show room + (32 - room) = 32 by omega, Nat.sub_mul]
    have h4 : 2 ^ 2 ≤ 2 ^ (r.toNat + 2) := Nat.pow_le_pow_right (by omega) (by omega)
    generalize 2 ^ (r.toNat + 2) = X at *
    omega
/-- the next run's first pattern -/
theorem tq_body_next {n : Nat} (hn : n = 8 ∨ n = 16 ∨ n = 32) {r : Int} (hr : -((n : Int) - 2) ≤ r ∧ r ≤ n - 3) {room : Nat} (hroom : room = n - 1 - tq_rl r) : tq_Body ((tq_rn r * 2 ^ room + 2 ^ room) * 2 ^ (33 - n)) (r + 1) 0 := by
  unfold tq_rl at hroom
  unfold tq_rn
  refine ⟨by omega, ?_⟩
  rcases Int.lt_or_le r 0 with q | q
  · rw [if_neg (by omega)] at hroom ⊢
    rcases Int.lt_or_le (r + 1) 0 with w | w
    · right
      refine ⟨w, by omega, ?_⟩
      rw [Nat.one_mul, ← Nat.two_mul, ← Nat.pow_succ', Nat.mul_assoc, ← Nat.pow_add, ← Nat.pow_add, show room.succ + (33 - n + ((-(r + 1)).toNat + 1)) = 32 by omega]
    · left
      have hr1 : r = -1 := by omega
      subst hr1
      refine ⟨by omega, by omega, ?_⟩
      rw [Nat.one_mul, ← Nat.two_mul, ← Nat.pow_succ', Nat.mul_assoc, ← Nat.pow_add, ← Nat.pow_add, show room.succ + (33 - n + ((-1 + 1 : Int).toNat + 2)) = 33 by omega]
      decide
  · rw [if_pos q] at hroom ⊢
    left
    refine ⟨by omega, by omega, ?_⟩
    have e : ((2 ^ (r.toNat + 2) - 2) * 2 ^ room + 2 ^ room) = (2 ^ (r.toNat + 2) - 1) * 2 ^ room := by
      have h4 : 2 ^ 2 ≤ 2 ^ (r.toNat + 2) := Nat.pow_le_pow_right (by omega) (by omega)
      rw [Nat.sub_mul, Nat.sub_mul, Nat.one_mul]
      have := Nat.mul_le_mul_right (2 ^ room) (show 2 ≤ 2 ^ (r.toNat + 2) by omega)
      omega
    rw [e, Nat.mul_assoc, Nat.mul_assoc, ← Nat.pow_add, ← Nat.pow_add, show room + (33 - n + ((r + 1).toNat + 2)) = 33 by omega, show (r + 1).toNat + 2 = r.toNat + 2 + 1 by omega, Nat.pow_succ (n := 2) (m := r.toNat + 2), Nat.sub_mul]
    have h4 : 2 ^ 2 ≤ 2 ^ (r.toNat + 2) := Nat.pow_le_pow_right (by omega) (by omega)
    generalize 2 ^ (r.toNat + 2) = X at *
    omega
theorem tq_rnd_cases {V d : Nat} {mo : Bool} {t w : Nat} (ht : V / 2 ^ d = t) (hw : V % 2 ^ d = w) :
    (w < 2 ^ (d - 1) → tq_rnd V d mo = t) ∧ (2 ^ (d - 1) < w → tq_rnd V d mo = t + 1) ∧ (w = 2 ^ (d - 1) → (mo = true ∨ t % 2 = 1) → tq_rnd V d mo = t + 1) ∧ (w = 2 ^ (d - 1) → ¬ (mo = true ∨ t % 2 = 1) → tq_rnd V d mo = t) := by
  unfold tq_rnd
  rw [ht, hw]
  refine ⟨fun h => ?_, fun h => ?_, fun h h2 => ?_, fun h h2 => ?_⟩
  · have hn : ¬ (2 ^ (d - 1) < w ∨ w = 2 ^ (d - 1) ∧ (mo = true ∨ t % 2 = 1)) := by
      rintro (q | ⟨q, _⟩) <;> omega
    rw [if_neg hn, Nat.add_zero]
  · rw [if_pos (.inl h)]
  · rw [if_pos (.inr ⟨h, h2⟩)]
  · have hn : ¬ (2 ^ (d - 1) < w ∨ w = 2 ^ (d - 1) ∧ (mo = true ∨ t % 2 = 1)) := by
      rintro (q | ⟨_, q⟩)
      · omega
      · exact h2 q
    rw [if_neg hn, Nat.add_zero]
/-- what the search finds, and how it decides -/
theorem tq_round_in {C D : Nat → Prop} (hcut : tq_Cut C D) {n : Nat} (hn : n = 8 ∨ n = 16 ∨ n = 32) {s : Int} (hs : -(4 * (n : Int) - 8) ≤ s ∧ s < 4 * (n : Int) - 8) {sig : Nat} {mo : Bool} (hl : tq_Lead C D s sig mo) :
    ∃ (t : Nat) (r : Int) (Zt Zm : Nat), 1 ≤ t ∧ t + 1 < 2 ^ (n - 1) ∧ tq_Body (t * 2 ^ (33 - n)) r Zt ∧ tq_Body ((2 * t + 1) * 2 ^ (32 - n)) r Zm ∧ C (tq_xv r Zt) ∧ (∃ R' Z', tq_Body ((t + 1) * 2 ^ (33 - n)) R' Z' ∧ ¬ C (tq_xv R' Z')) ∧
      (D (tq_xv r Zt) → tq_pp n s sig mo = t) ∧ (C (tq_xv r Zm) → ¬ D (tq_xv r Zm) → tq_pp n s sig mo = t + 1) ∧ (D (tq_xv r Zm) → t % 2 = 1 → tq_pp n s sig mo = t + 1) ∧ (D (tq_xv r Zm) → t % 2 = 0 → tq_pp n s sig mo = t) ∧ (¬ C (tq_xv r Zm) → tq_pp n s sig mo = t) := by
  have hl' := hl
  obtain ⟨l1, l2, l3, l4⟩ := hl'
  have hr : -((n : Int) - 2) ≤ s / 4 ∧ s / 4 ≤ n - 3 := by omega
  have hrl : 2 ≤ tq_rl (s / 4) ∧ tq_rl (s / 4) ≤ n - 1 := by unfold tq_rl; split <;> omega
  have hrn : 1 ≤ tq_rn (s / 4) ∧ tq_rn (s / 4) + 2 ≤ 2 ^ tq_rl (s / 4) := by
    unfold tq_rn tq_rl
    split
    · have : 2 ^ 2 ≤ 2 ^ ((s / 4).toNat + 2) := Nat.pow_le_pow_right (by omega) (by omega)
      omega
    · have : 2 ^ 2 ≤ 2 ^ ((-(s / 4)).toNat + 1) := Nat.pow_le_pow_right (by omega) (by omega)
      omega
  obtain ⟨room, hroom⟩ : ∃ room, room = n - 1 - tq_rl (s / 4) := ⟨_, rfl⟩
  obtain ⟨A, hA⟩ : ∃ A, A = (s % 4).toNat * 2 ^ 63 + (sig - 2 ^ 63) := ⟨_, rfl⟩
  have hA65 : A < 2 ^ 65 := by omega
  have hrm : room ≤ 29 := by omega
  have hd : 2 ^ 65 = 2 ^ room * 2 ^ (65 - room) := by rw [← Nat.pow_add, show room + (65 - room) = 65 by omega]
  have pd := Nat.two_pow_pos (65 - room)
  have pr := Nat.two_pow_pos room
  have hy : A / 2 ^ (65 - room) < 2 ^ room := by
    rw [Nat.div_lt_iff_lt_mul pd, ← hd]; exact hA65
  have hdm := Nat.div_add_mod A (2 ^ (65 - room))
  have hwl := Nat.mod_lt A pd
  have hV : tq_ppV (s / 4) (s % 4).toNat sig = tq_rn (s / 4) * 2 ^ 65 + A := by unfold tq_ppV; rw [hA, Nat.add_assoc]
  have hVq : (tq_rn (s / 4) * 2 ^ 65 + A) / 2 ^ (65 - room) = tq_rn (s / 4) * 2 ^ room + A / 2 ^ (65 - room) := by
    rw [hd, ← Nat.mul_assoc, Nat.add_comm, Nat.add_mul_div_right _ _ pd, Nat.add_comm]
  have hVm : (tq_rn (s / 4) * 2 ^ 65 + A) % 2 ^ (65 - room) = A % 2 ^ (65 - room) := by
    rw [hd, ← Nat.mul_assoc, Nat.add_comm, Nat.add_mul_mod_self_right]
  have hpp : tq_pp n s sig mo = tq_rnd (tq_rn (s / 4) * 2 ^ 65 + A) (65 - room) mo := by
    unfold tq_pp
    rw [if_neg (by omega), if_neg (by omega), hV, hroom]
  obtain ⟨k1, k2, k3, k4⟩ := tq_rnd_cases (mo := mo) hVq hVm
  rw [← hpp] at k1 k2 k3 k4
  have hbt := tq_body_t hn hr hroom hy
  have hbm := tq_body_mid hn hr hroom hy
  have p32 : 2 ^ (32 - room) * 2 ^ 33 = 2 ^ (65 - room) := by rw [← Nat.pow_add, show 32 - room + 33 = 65 - room by omega]
  have p31 : 2 ^ (31 - room) * 2 ^ 33 = 2 ^ (65 - room - 1) := by rw [← Nat.pow_add, show 31 - room + 33 = 65 - room - 1 by omega]
  have m32 : 2 ^ (32 - room) = 2 ^ (30 - room) * 4 := by
    have h := Nat.pow_add 2 (30 - room) 2
    rw [show 30 - room + 2 = 32 - room by omega] at h; exact h
  have m31 : 2 ^ (31 - room) = 2 ^ (29 - room) * 4 := by
    have h := Nat.pow_add 2 (29 - room) 2
    rw [show 29 - room + 2 = 31 - room by omega] at h; exact h
  have hdh : 2 ^ (65 - room) = 2 * 2 ^ (65 - room - 1) := by
    have h := Nat.pow_add 2 1 (65 - room - 1)
    rw [show 1 + (65 - room - 1) = 65 - room by omega] at h; exact h
  have hs2 : -124 ≤ s ∧ s ≤ 124 := by omega
  have q4 : ∀ a b : Nat, a * (b * 4) % 4 = 0 := fun a b => by rw [← Nat.mul_assoc]; omega
  obtain ⟨ct, dt⟩ := tq_cmp_xv hcut hs2 hl hbt.1 (by rw [m32]; exact q4 _ _) hA
  obtain ⟨cm, dm⟩ := tq_cmp_xv hcut hs2 hl hbm.1 (by rw [m32, m31]; have := q4 (A / 2 ^ (65 - room)) (2 ^ (30 - room)); omega) hA
  rw [Nat.mul_assoc, p32] at ct dt
  rw [Nat.add_mul, Nat.mul_assoc, p32, p31] at cm dm
  have hnx : ∃ R' Z', tq_Body ((tq_rn (s / 4) * 2 ^ room + A / 2 ^ (65 - room) + 1) * 2 ^ (33 - n)) R' Z' ∧ ¬ C (tq_xv R' Z') := by
    rcases Nat.lt_or_ge (A / 2 ^ (65 - room) + 1) (2 ^ room) with q | q
    · have hb2 := tq_body_t hn hr hroom q
      refine ⟨s / 4, _, by rw [Nat.add_assoc]; exact hb2, ?_⟩
      obtain ⟨c2, -⟩ := tq_cmp_xv hcut hs2 hl hb2.1 (by rw [m32]; exact q4 _ _) hA
      rw [Nat.mul_assoc, p32] at c2
      rw [c2, Nat.add_mul, Nat.mul_comm (A / 2 ^ (65 - room)) (2 ^ (65 - room))]
      generalize 2 ^ (65 - room) * (A / 2 ^ (65 - room)) = X at *
      generalize A % 2 ^ (65 - room) = Y at *
      omega
    · have : A / 2 ^ (65 - room) + 1 = 2 ^ room := by omega
      refine ⟨s / 4 + 1, 0, by rw [Nat.add_assoc, this]; exact tq_body_next hn hr hroom, fun w => l4 (hcut.1 _ _ (tq_xv_lo (by omega) ?_) w)⟩
      show (((s + 157).toNat : Nat) : Int) ≤ 4 * (s / 4 + 1) + ((0 / 2 ^ 30 : Nat) : Int) + 156
      omega
  have hlt : tq_rn (s / 4) * 2 ^ room + A / 2 ^ (65 - room) + 1 < 2 ^ (n - 1) := by
    have e : 2 ^ (n - 1) = 2 ^ tq_rl (s / 4) * 2 ^ room := by rw [← Nat.pow_add, show tq_rl (s / 4) + room = n - 1 by omega]
    have := Nat.mul_le_mul_right (2 ^ room) hrn.2
    rw [← e, Nat.add_mul] at this
    omega
  have hge : 1 ≤ tq_rn (s / 4) * 2 ^ room + A / 2 ^ (65 - room) := by
    have := Nat.mul_le_mul_right (2 ^ room) hrn.1
    rw [Nat.one_mul] at this
    exact Nat.le_trans pr (Nat.le_trans this (Nat.le_add_right _ _))
  rw [Nat.mul_comm (A / 2 ^ (65 - room)) (2 ^ (65 - room))] at ct dt cm dm
  generalize hX : 2 ^ (65 - room) * (A / 2 ^ (65 - room)) = X at *
  generalize hY : A % 2 ^ (65 - room) = Y at *
  generalize hT : tq_rn (s / 4) * 2 ^ room + A / 2 ^ (65 - room) = T at *
  have hX' : A / 2 ^ (65 - room) * 2 ^ (65 - room) = X := by rw [Nat.mul_comm]; exact hX
  generalize 2 ^ (65 - room - 1) = Hf at *
  clear hV hVq hVm hpp hA hd m32 m31 p32 p31 hrn hrl l3 l4
  refine ⟨T, s / 4, _, _, hge, hlt, hbt, hbm, ct.2 (by omega), hnx, fun h => ?_, fun h h2 => ?_, fun h h2 => ?_, fun h h2 => ?_, fun h => ?_⟩
  · have := dt.1 h
    exact k1 (by omega)
  · have w := cm.1 h
    rcases Nat.lt_or_ge Hf Y with q | q
    · exact k2 q
    · have e : Y = Hf := by omega
      refine k3 e (.inl ?_)
      cases mo with
      | true => rfl
      | false => exact absurd (dm.2 ⟨by omega, rfl⟩) h2
  · have w := (dm.1 h).1
    exact k3 (by omega) (.inr h2)
  · have w := dm.1 h
    refine k4 (by omega) ?_
    rintro (z | z)
    · rw [w.2] at z; cases z
    · omega
  · exact k1 (by
      rcases Nat.lt_or_ge Y Hf with q | q
      · exact q
      · exact absurd (cm.2 (by omega)) h)
end
section
/-- E / F (or the root of E) against x, in units of 2^(-156) -/
def tq_cC (E F : Nat) (q : Bool) (x : Nat) : Prop := if q then x * x ≤ E * 2 ^ 64 else x * F ≤ E * 2 ^ 32
def tq_cD (E F : Nat) (q : Bool) (x : Nat) : Prop := if q then x * x = E * 2 ^ 64 else x * F = E * 2 ^ 32
theorem tq_cut_c {E F : Nat} {q : Bool} (hF : q = false → 0 < F) : tq_Cut (tq_cC E F q) (tq_cD E F q) := by
  unfold tq_Cut tq_cC tq_cD
  cases q
  · have hF := hF rfl
    refine ⟨fun v w h1 h2 => ?_, fun v h => ?_, fun v w h1 h2 h3 => ?_⟩
    · rw [if_neg (by decide)] at h2 ⊢; exact Nat.le_trans (Nat.mul_le_mul_right _ h1) h2
    · rw [if_neg (by decide)] at h ⊢; exact Nat.le_of_eq h
    · rw [if_neg (by decide)] at h1 h3
      have := Nat.mul_lt_mul_of_pos_right h2 hF
      exact absurd (Nat.lt_of_lt_of_le this h3) (by rw [h1]; exact Nat.lt_irrefl _)
  · refine ⟨fun v w h1 h2 => ?_, fun v h => ?_, fun v w h1 h2 h3 => ?_⟩
    · rw [if_pos rfl] at h2 ⊢; exact Nat.le_trans (Nat.mul_le_mul h1 h1) h2
    · rw [if_pos rfl] at h ⊢; exact Nat.le_of_eq h
    · rw [if_pos rfl] at h1 h3
      have : v * v < w * w := Nat.mul_lt_mul'' h2 h2
      exact absurd (Nat.lt_of_lt_of_le this h3) (by rw [h1]; exact Nat.lt_irrefl _)
theorem tq_trio {E X : Nat} {r : Int32} (h : (E < X ∧ r = -1) ∨ (E = X ∧ r = 0) ∨ (X < E ∧ r = 1)) {c d : Prop} (hc : c ↔ X ≤ E) (hd : d ↔ X = E) : (c ∧ ¬ d ∧ r = 1) ∨ (c ∧ d ∧ r = 0) ∨ (¬ c ∧ r = -1) := by
  rcases h with ⟨a, b⟩ | ⟨a, b⟩ | ⟨a, b⟩
  · right; right; exact ⟨by rw [hc]; omega, b⟩
  · right; left; exact ⟨by rw [hc]; omega, by rw [hd]; omega, b⟩
  · left; exact ⟨by rw [hc]; omega, by rw [hd]; omega, b⟩
theorem tq_sc32 {w x F E : Nat} (h : w * 2 ^ 32 = x) : (x * F ≤ E * 2 ^ 32 ↔ w * F ≤ E) ∧ (x * F = E * 2 ^ 32 ↔ w * F = E) := by
  have e : x * F = w * F * 2 ^ 32 := by rw [← h]; ac_rfl
  rw [e]
  have p : 0 < 2 ^ 32 := by decide
  exact ⟨⟨fun q => Nat.le_of_mul_le_mul_right q p, fun q => Nat.mul_le_mul_right _ q⟩, ⟨fun q => Nat.eq_of_mul_eq_mul_right p q, fun q => by rw [q]⟩⟩
theorem tq_sc64 {w x E : Nat} (h : w * 2 ^ 32 = x) : (x * x ≤ E * 2 ^ 64 ↔ w * w ≤ E) ∧ (x * x = E * 2 ^ 64 ↔ w * w = E) := by
  have e : x * x = w * w * 2 ^ 64 := by
    rw [← h]
    have : (2 : Nat) ^ 64 = 2 ^ 32 * 2 ^ 32 := by decide
    rw [this]; ac_rfl
  rw [e]
  have p : 0 < 2 ^ 64 := by decide
  exact ⟨⟨fun q => Nat.le_of_mul_le_mul_right q p, fun q => Nat.mul_le_mul_right _ q⟩, ⟨fun q => Nat.eq_of_mul_eq_mul_right p q, fun q => by rw [q]⟩⟩
theorem tq_against_spec {f : Nat → Int32} (hw : tq_WL 200 f) {sq : Int32} {q : Bool} (hsq : (sq = 0 ∧ q = false) ∨ (sq ≠ 0 ∧ q = true)) {E F : Nat} (hE : tq_rv f (40 * 0) 40 = E) (hF : tq_rv f (40 * 4) 40 = F) (hFb : q = false → F ≤ 2 ^ 390) {pv : Int64} {P : Nat} (hp : pv.toInt = P) {size : Int32} {S : Nat} (hs : size.toInt = S) (hS : 2 ≤ S ∧ S ≤ 33) (hP : 1 ≤ P ∧ P < 2 ^ (S - 1)) (hne : S = 33 → P + 1 ≠ 2 ^ 32) :
    ∃ rr g, m_against sq f pv size = some (rr, g) ∧ tq_WL 200 g ∧ tq_rv g (40 * 0) 40 = E ∧ tq_rv g (40 * 4) 40 = F ∧ ∃ R Z, tq_Body (P * 2 ^ (33 - S)) R Z ∧ ((tq_cC E F q (tq_xv R Z) ∧ ¬ tq_cD E F q (tq_xv R Z) ∧ rr = 1) ∨ (tq_cC E F q (tq_xv R Z) ∧ tq_cD E F q (tq_xv R Z) ∧ rr = 0) ∨ (¬ tq_cC E F q (tq_xv R Z) ∧ rr = -1)) := by
  unfold m_against
  obtain ⟨g1, e1, w1, fr1, R, Z, hb, hk, hv⟩ := tq_value_spec (r := 2) (by omega) hw hp (un := 124) (U := 124) hs hS hP hne rfl ⟨by omega, by omega⟩
  have e1' : m_value f 2 pv size 124 = some g1 := e1
  rw [tq_bd_e e1']
  have hx : tq_rv g1 (40 * 2) 40 * 2 ^ 32 = tq_xv R Z := hv
  have hr := tq_body_r hb
  have hwb : tq_rv g1 (40 * 2) 40 < 2 ^ 248 := by
    have hz3 : Z / 2 ^ 30 < 4 := by omega
    have hk2 : 4 * R + (Z / 2 ^ 30 : Nat) + 157 ≤ ((280 : Nat) : Int) := by
      clear hk hv hx
      generalize Z / 2 ^ 30 = e at *; omega
    have h1 : tq_xv R Z < 2 ^ 280 := tq_xv_hi hr.1 hk2
    rw [← hx, show (280 : Nat) = 248 + 32 from rfl, Nat.pow_add] at h1
    exact Nat.lt_of_mul_lt_mul_right h1
  have hE1 : tq_rv g1 (40 * 0) 40 = E := by rw [tq_Fr_rv fr1 (by omega)]; exact hE
  have hF1 : tq_rv g1 (40 * 4) 40 = F := by rw [tq_Fr_rv fr1 (by omega)]; exact hF
  have fin : ∀ b : Nat, b ≤ 4 → b ≠ 3 → tq_rv g1 (40 * 2) 40 * tq_rv g1 (40 * b) 40 < 2 ^ 640 → (tq_cC E F q (tq_xv R Z) ↔ tq_rv g1 (40 * 2) 40 * tq_rv g1 (40 * b) 40 ≤ E) → (tq_cD E F q (tq_xv R Z) ↔ tq_rv g1 (40 * 2) 40 * tq_rv g1 (40 * b) 40 = E) →
      ∃ rr g, m_against_b23 (nI b) 2 g1 = some (rr, g) ∧ tq_WL 200 g ∧ tq_rv g (40 * 0) 40 = E ∧ tq_rv g (40 * 4) 40 = F ∧ ∃ R Z, tq_Body (P * 2 ^ (33 - S)) R Z ∧ ((tq_cC E F q (tq_xv R Z) ∧ ¬ tq_cD E F q (tq_xv R Z) ∧ rr = 1) ∨ (tq_cC E F q (tq_xv R Z) ∧ tq_cD E F q (tq_xv R Z) ∧ rr = 0) ∨ (¬ tq_cC E F q (tq_xv R Z) ∧ rr = -1)) := by
    intro b hb4 hb3 hlt hc hd
    unfold m_against_b23
    obtain ⟨g2, e2, w2, fr2, h2⟩ := tq_times_spec (a := 2) (b := b) (t := 3) (by omega) hb4 (by omega) (by omega) hb3 w1
    have e2' : m_times g1 2 (nI b) 3 = some g2 := e2
    rw [tq_bd_e e2']
    obtain ⟨rr, e3, h3⟩ := tq_order_spec (a := 0) (b := 3) (by omega) (by omega) w2
    have e3' : m_order g2 0 3 = some rr := e3
    rw [tq_bd_e e3']
    rw [Nat.mod_eq_of_lt hlt] at h2
    have hE2 : tq_rv g2 (40 * 0) 40 = E := by rw [tq_Fr_rv fr2 (by omega)]; exact hE1
    have hF2 : tq_rv g2 (40 * 4) 40 = F := by rw [tq_Fr_rv fr2 (by omega)]; exact hF1
    rw [hE2, h2] at h3
    exact ⟨rr, g2, rfl, w2, hE2, hF2, R, Z, hb, tq_trio h3 hc hd⟩
  rcases hsq with ⟨a, b⟩ | ⟨a, b⟩
  · subst b
    rw [if_pos a]
    have s := tq_sc32 (F := F) (E := E) hx
    refine fin 4 (by omega) (by omega) ?_ (by unfold tq_cC; rw [if_neg (by decide), hF1]; exact s.1) (by unfold tq_cD; rw [if_neg (by decide), hF1]; exact s.2)
    rw [hF1]
    refine Nat.lt_of_lt_of_le (Nat.mul_lt_mul_of_lt_of_le hwb (hFb rfl) (Nat.two_pow_pos _)) ?_
    rw [← Nat.pow_add]; exact Nat.pow_le_pow_right (by omega) (by omega)
  · subst b
    rw [if_neg a]
    have s := tq_sc64 (E := E) hx
    refine fin 2 (by omega) (by omega) ?_ (by unfold tq_cC; rw [if_pos rfl]; exact s.1) (by unfold tq_cD; rw [if_pos rfl]; exact s.2)
    refine Nat.lt_of_lt_of_le (Nat.mul_lt_mul_of_lt_of_le hwb (Nat.le_of_lt hwb) (Nat.two_pow_pos _)) ?_
    rw [← Nat.pow_add]; exact Nat.pow_le_pow_right (by omega) (by omega)
end
section
def tq_CB (C : Nat → Prop) (n t : Nat) : Prop := ∃ R Z, tq_Body (t * 2 ^ (33 - n)) R Z ∧ C (tq_xv R Z)
def tq_NB (C : Nat → Prop) (n t : Nat) : Prop := ∃ R Z, tq_Body (t * 2 ^ (33 - n)) R Z ∧ ¬ C (tq_xv R Z)
theorem tq_bB {n t : Nat} (hn : n = 8 ∨ n = 16 ∨ n = 32) (ht : t < 2 ^ (n - 1)) : t * 2 ^ (33 - n) < 2 ^ 32 := by
  have e : 2 ^ 32 = 2 ^ (n - 1) * 2 ^ (33 - n) := by rw [← Nat.pow_add, show n - 1 + (33 - n) = 32 by omega]
  rw [e]; exact Nat.mul_lt_mul_of_pos_right ht (Nat.two_pow_pos _)
theorem tq_cb_nb {C D : Nat → Prop} (hcut : tq_Cut C D) {n t t' : Nat} (hn : n = 8 ∨ n = 16 ∨ n = 32) (ht : t < 2 ^ (n - 1)) (h : tq_CB C n t) (h' : tq_NB C n t') : t < t' := by
  rcases Nat.lt_or_ge t t' with q | q
  · exact q
  · exfalso
    obtain ⟨R, Z, b, c⟩ := h
    obtain ⟨R', Z', b', c'⟩ := h'
    exact c' (hcut.1 _ _ (tq_xv_mono (tq_bB hn ht) (Nat.mul_le_mul_right _ q) b' b) c)
theorem tq_i64_ge {a b : Int64} : (0 ≤ lg_cmp a b) ↔ b.toInt ≤ a.toInt := tq_cmp_ge
theorem tq_half_up {a b : Int64} {l m : Nat} (ha : a.toInt = l) (hb : b.toInt = m) (hl : l < 2 ^ 32) (hm : m < 2 ^ 32) : ((a + b + 1) / 2).toInt = (((l + m + 1) / 2 : Nat) : Int) := by
  have c1 : ((1 : Int64)).toInt = 1 := rfl
  have c2 : ((2 : Int64)).toInt = ((2 : Nat) : Int) := rfl
  have e1 : (a + b).toInt = ((l + m : Nat) : Int) := by rw [tq_i64_add (by rw [ha, hb]; omega), ha, hb]; omega
  have e2 : (a + b + 1).toInt = ((l + m + 1 : Nat) : Int) := by rw [tq_i64_add (by rw [e1, c1]; omega), e1, c1]; omega
  rw [Int64.toInt_div_of_ne_right _ _ (by decide), e2, c2, ← Int.ofNat_tdiv]
/-- the tq_search: it ends at the largest pattern that is not above the number -/
theorem tq_search {sq : Int32} {q : Bool} (hsq : (sq = 0 ∧ q = false) ∨ (sq ≠ 0 ∧ q = true)) {E F : Nat} (hFb : q = false → F ≤ 2 ^ 390) {size : Int32} {n : Nat} (hz : tq_Sz size n) (mi : Int32) : ∀ k fuel (a b : Int64) (l m : Nat) (f : Nat → Int32), k < fuel → m < l + 2 ^ k → 1 ≤ l → l ≤ m → m < 2 ^ (n - 1) → a.toInt = l → b.toInt = m → tq_WL 200 f → tq_rv f (40 * 0) 40 = E → tq_rv f (40 * 4) 40 = F →
    tq_CB (tq_cC E F q) n l → (m + 1 = 2 ^ (n - 1) ∨ tq_NB (tq_cC E F q) n (m + 1)) →
    ∃ fuel' a' b' t g, m_rounded_b50 sq mi size fuel a b f = m_rounded_b50 sq mi size (fuel' + 1) a' b' g ∧ 1 ≤ t ∧ t < 2 ^ (n - 1) ∧ a'.toInt = ((t : Nat) : Int) ∧ b'.toInt = ((t : Nat) : Int) ∧ tq_WL 200 g ∧ tq_rv g (40 * 0) 40 = E ∧ tq_rv g (40 * 4) 40 = F ∧ tq_CB (tq_cC E F q) n t ∧ (t + 1 = 2 ^ (n - 1) ∨ tq_NB (tq_cC E F q) n (t + 1)) := by
  have hn := hz.2
  have h31 : 2 ^ (n - 1) ≤ 2 ^ 31 := Nat.pow_le_pow_right (by omega) (by omega)
  intro k
  induction k with
  | zero =>
    intro fuel a b l m f h1 h2 h3 h4 h5 ha hb hw hE hF hc hn2
    obtain ⟨fu, rfl⟩ : ∃ fu, fuel = fu + 1 := ⟨fuel - 1, by omega⟩
    have : l = m := by rw [Nat.pow_zero] at h2; omega
    subst this
    exact ⟨fu, a, b, l, f, rfl, h3, h5, ha, hb, hw, hE, hF, hc, hn2⟩
  | succ k ih =>
    intro fuel a b l m f h1 h2 h3 h4 h5 ha hb hw hE hF hc hn2
    obtain ⟨fu, rfl⟩ : ∃ fu, fuel = fu + 1 := ⟨fuel - 1, by omega⟩
    rcases Nat.eq_or_lt_of_le h4 with e | e
    · subst e
      exact ⟨fu, a, b, l, f, rfl, h3, h5, ha, hb, hw, hE, hF, hc, hn2⟩
    · have hk2 : 2 ^ (k + 1) = 2 * 2 ^ k := by rw [Nat.pow_succ, Nat.mul_comm]
      have hmid := tq_half_up ha hb (by omega) (by omega)
      obtain ⟨rr, g, e1, w1, hE1, hF1, R, Z, hb1, hr⟩ := tq_against_spec hw hsq hE hF hFb hmid (S := n) hz.1 (by omega) (P := (l + m + 1) / 2) ⟨by omega, by omega⟩ (by omega)
      have hstep : m_rounded_b50 sq mi size (fu + 1) a b f = if rr < 0 then m_rounded_b50 sq mi size fu a ((a + b + 1) / 2 - 1) g else m_rounded_b50 sq mi size fu ((a + b + 1) / 2) b g := by
        rw [m_rounded_b50, if_neg (by rw [tq_i64_ge, ha, hb]; omega), tq_nm_e, tq_bd_e e1, tq_nm_e, tq_nm_e, tq_nm_e]
      rw [hstep]
      have c1 : ((1 : Int64)).toInt = 1 := rfl
      rcases hr with ⟨p1, p2, p3⟩ | ⟨p1, p2, p3⟩ | ⟨p1, p3⟩
      · rw [if_neg (by rw [p3]; decide)]
        exact ih fu _ b ((l + m + 1) / 2) m g (by omega) (by omega) (by omega) (by omega) h5 hmid hb w1 hE1 hF1 ⟨R, Z, hb1, p1⟩ hn2
      · rw [if_neg (by rw [p3]; decide)]
        exact ih fu _ b ((l + m + 1) / 2) m g (by omega) (by omega) (by omega) (by omega) h5 hmid hb w1 hE1 hF1 ⟨R, Z, hb1, p1⟩ hn2
      · rw [if_pos (by rw [p3]; decide)]
        have hm1 : ((a + b + 1) / 2 - 1).toInt = (((l + m + 1) / 2 - 1 : Nat) : Int) := by rw [tq_i64_sub (by rw [hmid, c1]; omega), hmid, c1]; omega
        refine ih fu a _ l ((l + m + 1) / 2 - 1) g (by omega) (by omega) h3 (by omega) (by omega) ha hm1 w1 hE1 hF1 hc (.inr ?_)
        rw [show (l + m + 1) / 2 - 1 + 1 = (l + m + 1) / 2 by omega]
        exact ⟨R, Z, hb1, p1⟩
theorem tq_b156 {mi : Int32} {v : Int64} {t : Nat} (hv : v.toInt = t) (ht : t < 2 ^ 31) (f : Nat → Int32) : ∃ r, m_rounded_b156 mi v f = some (r, f) ∧ r.toInt = if mi = 0 then (t : Int) else -(t : Int) := by
  unfold m_rounded_b156
  by_cases h : mi = 0
  · rw [if_pos h, if_pos h]
    refine ⟨_, rfl, ?_⟩
    rw [Int64.toInt_toInt32, hv]; exact tq_bmod_of (by omega)
  · rw [if_neg h, if_neg h]
    refine ⟨_, rfl, ?_⟩
    have e : (-v).toInt = -(t : Int) := by rw [tq_i64_neg (by rw [hv]; omega), hv]
    rw [Int64.toInt_toInt32, e]; exact tq_bmod_of (by omega)
theorem tq_odd_t {v : Int64} {t : Nat} (hv : v.toInt = t) (ht : t < 2 ^ 32) : (lg_cmp (v - v / 2 * 2) 1 = 0) ↔ t % 2 = 1 := by
  have c2 : ((2 : Int64)).toInt = ((2 : Nat) : Int) := rfl
  have c1 : ((1 : Int64)).toInt = 1 := rfl
  have e1 : (v / 2).toInt = ((t / 2 : Nat) : Int) := by rw [Int64.toInt_div_of_ne_right _ _ (by decide), hv, c2, ← Int.ofNat_tdiv]
  have e2 : (v / 2 * 2).toInt = ((t / 2 * 2 : Nat) : Int) := by rw [tq_i64_mul (by rw [e1, c2]; omega), e1, c2]; omega
  have e3 : (v - v / 2 * 2).toInt = ((t % 2 : Nat) : Int) := by rw [tq_i64_sub (by rw [hv, e2]; omega), hv, e2]; omega
  rw [tq_cmp_eq, ← Int64.toInt_inj, e3, c1]; omega
/-- how the search's end is tq_decided -/
theorem tq_decided {sq : Int32} {q : Bool} (hsq : (sq = 0 ∧ q = false) ∨ (sq ≠ 0 ∧ q = true)) {E F : Nat} (hFb : q = false → F ≤ 2 ^ 390) {size : Int32} {n : Nat} (hz : tq_Sz size n) {mi : Int32} {fuel : Nat} {a b : Int64} {t : Nat} (h1 : 1 ≤ t) (h2 : t < 2 ^ (n - 1)) (ha : a.toInt = t) (hb : b.toInt = t) {f : Nat → Int32} (hw : tq_WL 200 f) (hE : tq_rv f (40 * 0) 40 = E) (hF : tq_rv f (40 * 4) 40 = F) :
    (∃ (r : Int32) (g : Nat → Int32) (u : Nat), m_rounded_b50 sq mi size (fuel + 1) a b f = some (r, g) ∧ tq_WL 200 g ∧ r.toInt = (if mi = 0 then (u : Int) else -(u : Int)) ∧ ∃ R Z, tq_Body (t * 2 ^ (33 - n)) R Z ∧ ((tq_cD E F q (tq_xv R Z) ∧ u = t) ∨ (¬ tq_cD E F q (tq_xv R Z) ∧
      (t + 1 < 2 ^ (n - 1) → ∃ R Z, tq_Body ((2 * t + 1) * 2 ^ (32 - n)) R Z ∧ ((tq_cC E F q (tq_xv R Z) ∧ ¬ tq_cD E F q (tq_xv R Z) ∧ u = t + 1) ∨ (tq_cD E F q (tq_xv R Z) ∧ t % 2 = 1 ∧ u = t + 1) ∨ (tq_cD E F q (tq_xv R Z) ∧ t % 2 = 0 ∧ u = t) ∨ (¬ tq_cC E F q (tq_xv R Z) ∧ u = t)) )))) ∨ (t + 1 = 2 ^ (n - 1) ∧ ∃ R Z, tq_Body (t * 2 ^ (33 - n)) R Z ∧ ¬ tq_cD E F q (tq_xv R Z)) := by
  have hn := hz.2
  have h31 : 2 ^ (n - 1) ≤ 2 ^ 31 := Nat.pow_le_pow_right (by omega) (by omega)
  obtain ⟨rr, g, e1, w1, hE1, hF1, R, Z, hb1, hr⟩ := tq_against_spec hw hsq hE hF hFb ha (S := n) hz.1 (by omega) (P := t) ⟨h1, h2⟩ (by omega)
  have c1 : ((1 : Int64)).toInt = 1 := rfl
  have c2 : ((2 : Int64)).toInt = 2 := rfl
  have c1i : ((1 : Int32)).toInt = 1 := rfl
  have top : 0 ≤ lg_cmp a b := by rw [tq_i64_ge, ha, hb]; omega
  by_cases hd : tq_cD E F q (tq_xv R Z)
  · have r0 : rr = 0 := by
      rcases hr with ⟨p1, p2, p3⟩ | ⟨p1, p2, p3⟩ | ⟨p1, p3⟩
      · exact absurd hd p2
      · exact p3
      · exact absurd ((tq_cut_c (q := q) (E := E) (F := F) (fun h => by
          rcases Nat.eq_zero_or_pos F with z | z
          · exfalso
            subst h; unfold tq_cC at p1; rw [if_neg (by decide), z] at p1
            exact p1 (by simp)
          · exact z)).2.1 _ hd) p1
    obtain ⟨r, er, hrr⟩ := tq_b156 (mi := mi) ha (by omega) g
    left
    refine ⟨r, g, t, ?_, w1, hrr, R, Z, hb1, .inl ⟨hd, rfl⟩⟩
    rw [m_rounded_b50, if_pos top, tq_bd_e e1, tq_nm_e, tq_nm_e, if_pos r0]; exact er
  · have r0 : ¬ rr = 0 := by
      rcases hr with ⟨p1, p2, p3⟩ | ⟨p1, p2, p3⟩ | ⟨p1, p3⟩
      · rw [p3]; decide
      · exact absurd p2 hd
      · rw [p3]; decide
    rcases Nat.lt_or_ge (t + 1) (2 ^ (n - 1)) with hlt | hge
    · left
      have e2t : ((2 : Int64) * a).toInt = ((2 * t : Nat) : Int) := by rw [tq_i64_mul (by rw [ha, c2]; omega), ha, c2]; omega
      have e2p : ((2 : Int64) * a + 1).toInt = ((2 * t + 1 : Nat) : Int) := by rw [tq_i64_add (by rw [e2t, c1]; omega), e2t, c1]; omega
      have es : (size + 1).toInt = ((n + 1 : Nat) : Int) := by rw [tq_i32_add (by rw [hz.1, c1i]; omega), hz.1, c1i]; omega
      have p2n : 2 * 2 ^ (n - 1) = 2 ^ (n + 1 - 1) := by
        have h := Nat.pow_add 2 1 (n - 1)
        rw [show 1 + (n - 1) = n + 1 - 1 by omega] at h; exact h.symm
      obtain ⟨rr2, g2, e3, w2, hE2, hF2, R2, Z2, hb2, hr2⟩ := tq_against_spec w1 hsq hE1 hF1 hFb e2p (S := n + 1) es (by omega) (P := 2 * t + 1) ⟨by omega, by omega⟩ (by
        intro h33
        have : n = 32 := by omega
        subst this
        omega)
      rw [show 33 - (n + 1) = 32 - n by omega] at hb2
      have hgo : m_rounded_b50 sq mi size (fuel + 1) a b f = if 0 < rr2 then m_rounded_b145 mi a g2 else if ¬ rr2 = 0 then m_rounded_b156 mi a g2 else if ¬ (lg_cmp (a - a / 2 * 2) 1) = 0 then m_rounded_b156 mi a g2 else m_rounded_b145 mi a g2 := by
        rw [m_rounded_b50, if_pos top, tq_bd_e e1, tq_nm_e, tq_nm_e, if_neg r0, tq_bd_e e3, tq_nm_e, tq_nm_e]
      obtain ⟨rd, ed, hd2⟩ := tq_b156 (mi := mi) ha (by omega) g2
      have eup : (a + 1).toInt = ((t + 1 : Nat) : Int) := by rw [tq_i64_add (by rw [ha, c1]; omega), ha, c1]; omega
      obtain ⟨ru, eu, hu2⟩ := tq_b156 (mi := mi) eup (by omega) g2
      have eu' : m_rounded_b145 mi a g2 = some (ru, g2) := by unfold m_rounded_b145; rw [tq_nm_e]; exact eu
      have hodd := tq_odd_t ha (by omega)
      rcases hr2 with ⟨p1, p2, p3⟩ | ⟨p1, p2, p3⟩ | ⟨p1, p3⟩
      · exact ⟨ru, g2, t + 1, by rw [hgo, p3, if_pos (by decide)]; exact eu', w2, hu2, R, Z, hb1, .inr ⟨hd, fun _ => ⟨R2, Z2, hb2, .inl ⟨p1, p2, rfl⟩⟩⟩⟩
      · by_cases ho : t % 2 = 1
        · exact ⟨ru, g2, t + 1, by rw [hgo, p3, if_neg (by decide), if_neg (fun z => z rfl), if_neg (fun z => z (hodd.2 ho))]; exact eu', w2, hu2, R, Z, hb1, .inr ⟨hd, fun _ => ⟨R2, Z2, hb2, .inr (.inl ⟨p2, ho, rfl⟩)⟩⟩⟩
        · exact ⟨rd, g2, t, by rw [hgo, p3, if_neg (by decide), if_neg (fun z => z rfl), if_pos (fun z => ho (hodd.1 z))]; exact ed, w2, hd2, R, Z, hb1, .inr ⟨hd, fun _ => ⟨R2, Z2, hb2, .inr (.inr (.inl ⟨p2, by omega, rfl⟩))⟩⟩⟩
      · exact ⟨rd, g2, t, by rw [hgo, p3, if_neg (by decide), if_pos (by decide)]; exact ed, w2, hd2, R, Z, hb1, .inr ⟨hd, fun _ => ⟨R2, Z2, hb2, .inr (.inr (.inr ⟨p1, rfl⟩))⟩⟩⟩
    · right
      exact ⟨by omega, R, Z, hb1, hd⟩
end
section
def tq_LeadX (n : Nat) (C D : Nat → Prop) (s : Int) (sig : Nat) (mo : Bool) : Prop :=
  (-(4 * (n : Int) - 8) ≤ s → s < 4 * (n : Int) - 8 → tq_Lead C D s sig mo) ∧ (4 * (n : Int) - 8 ≤ s → C (2 ^ (4 * n + 148))) ∧ (s < -(4 * (n : Int) - 8) → ¬ C (2 ^ (164 - 4 * n)))
theorem tq_body_top {n : Nat} (hn : n = 8 ∨ n = 16 ∨ n = 32) : tq_Body ((2 ^ (n - 1) - 1) * 2 ^ (33 - n)) ((n : Int) - 2) 0 := by
  refine ⟨by omega, .inl ⟨by omega, by omega, ?_⟩⟩
  rw [Nat.mul_assoc, ← Nat.pow_add, show 33 - n + (((n : Int) - 2).toNat + 2) = 33 by omega, show ((n : Int) - 2).toNat + 2 = n by omega, Nat.sub_mul, ← Nat.pow_add, ← Nat.pow_add, show n - 1 + 33 = 32 + n by omega]
  have : 2 ^ 33 ≤ 2 ^ (32 + n) := Nat.pow_le_pow_right (by omega) (by omega)
  omega
theorem tq_body_one {n : Nat} (hn : n = 8 ∨ n = 16 ∨ n = 32) : tq_Body (1 * 2 ^ (33 - n)) (-((n : Int) - 2)) 0 := by
  refine ⟨by omega, .inr ⟨by omega, by omega, ?_⟩⟩
  rw [Nat.one_mul, ← Nat.pow_add, show 33 - n + ((-(-((n : Int) - 2))).toNat + 1) = 32 by omega]
theorem tq_xv_top {n : Nat} (hn : n = 8 ∨ n = 16 ∨ n = 32) : tq_xv ((n : Int) - 2) 0 = 2 ^ (4 * n + 148) := by
  unfold tq_xv
  show 2 ^ 32 * 2 ^ (4 * ((n : Int) - 2) + ((0 : Nat) : Int) + 124).toNat = _
  rw [← Nat.pow_add]
  have : 32 + (4 * ((n : Int) - 2) + ((0 : Nat) : Int) + 124).toNat = 4 * n + 148 := by omega
  rw [this]
theorem tq_xv_one {n : Nat} (hn : n = 8 ∨ n = 16 ∨ n = 32) : tq_xv (-((n : Int) - 2)) 0 = 2 ^ (164 - 4 * n) := by
  unfold tq_xv
  show 2 ^ 32 * 2 ^ (4 * (-((n : Int) - 2)) + ((0 : Nat) : Int) + 124).toNat = _
  rw [← Nat.pow_add]
  have : 32 + (4 * (-((n : Int) - 2)) + ((0 : Nat) : Int) + 124).toNat = 164 - 4 * n := by omega
  rw [this]
theorem tq_lead_lo {C D : Nat → Prop} {s : Int} {sig : Nat} {mo : Bool} (h : tq_Lead C D s sig mo) : C (2 ^ (s + 156).toNat) := by
  obtain ⟨l1, l2, l3, l4⟩ := h
  refine ((l3 (2 ^ 28) (2 ^ (s + 156).toNat) (Nat.le_refl _) (by decide) (Nat.mul_comm _ _)).1).2 ?_
  rw [← Nat.pow_add]; exact l1
theorem tq_ref_round {sq : Int32} {q : Bool} (hsq : (sq = 0 ∧ q = false) ∨ (sq ≠ 0 ∧ q = true)) {E F : Nat} (hE0 : E ≠ 0) (hFb : q = false → F ≤ 2 ^ 390) (hFp : q = false → 0 < F) {size : Int32} {n : Nat} (hz : tq_Sz size n) (mi : Int32) {f : Nat → Int32} (hw : tq_WL 200 f) (hE : tq_rv f (40 * 0) 40 = E) (hF : tq_rv f (40 * 4) 40 = F) {s : Int} {sig : Nat} {mo : Bool} (hl : tq_LeadX n (tq_cC E F q) (tq_cD E F q) s sig mo) :
    ∃ r g, m_rounded sq f mi size = some (r, g) ∧ tq_WL 200 g ∧ r.toInt = if mi = 0 then (tq_pp n s sig mo : Int) else -(tq_pp n s sig mo : Int) := by
  have hn := hz.2
  have hcut := tq_cut_c (E := E) (F := F) (q := q) hFp
  have h31 : 2 ^ (n - 1) ≤ 2 ^ 31 := Nat.pow_le_pow_right (by omega) (by omega)
  have h7 : 2 ^ 7 ≤ 2 ^ (n - 1) := Nat.pow_le_pow_right (by omega) (by omega)
  unfold m_rounded
  obtain ⟨r1, e1, hr1⟩ := tq_isZero_spec (a := 0) (by omega) hw
  have e1' : m_isZero f 0 = some r1 := e1
  have r10 : r1 = 0 := by
    rcases hr1 with ⟨a, b⟩ | ⟨a, b⟩
    · rw [hE] at a; exact absurd a hE0
    · exact b
  rw [tq_bd_e e1', if_pos r10, tq_nm_e]
  have c1 : ((1 : Int64)).toInt = 1 := rfl
  have c1i : ((1 : Int32)).toInt = 1 := rfl
  have u1 : tq_u64 (1 : Int64) = 1 := rfl
  have es : (size - 1).toInt = ((n - 1 : Nat) : Int) := by rw [tq_i32_sub (by rw [hz.1, c1i]; omega), hz.1, c1i]; omega
  have esh := tq_i64_of_u (show tq_u64 ((1 : Int64) <<< ((size - 1).toInt64 &&& 63)) = 2 ^ (n - 1) by rw [tq_u64_shl es (by omega), u1, Nat.one_mul, Nat.mod_eq_of_lt (by omega)]) (by omega)
  have etop : (((1 : Int64) <<< ((size - 1).toInt64 &&& 63)) - 1).toInt = ((2 ^ (n - 1) - 1 : Nat) : Int) := by rw [tq_i64_sub (by rw [esh, c1]; omega), esh, c1]; omega
  generalize ((1 : Int64) <<< ((size - 1).toInt64 &&& 63)) - 1 = tp at *
  obtain ⟨r4, g4, e4, w4, hE4, hF4, R4, Z4, hb4, hr4⟩ := tq_against_spec hw hsq hE hF hFb etop (S := n) hz.1 (by omega) (P := 2 ^ (n - 1) - 1) ⟨by omega, by omega⟩ (by omega)
  obtain ⟨rfl, rfl⟩ := tq_body_unique (tq_bB hn (by omega)) hb4 (tq_body_top hn)
  rw [tq_xv_top hn] at hr4
  obtain ⟨r7, g7, e7, w7, hE7, hF7, R7, Z7, hb7, hr7⟩ := tq_against_spec w4 hsq hE4 hF4 hFb (pv := 1) (P := 1) rfl (S := n) hz.1 (by omega) ⟨by omega, by omega⟩ (by omega)
  obtain ⟨rfl, rfl⟩ := tq_body_unique (tq_bB hn (by omega)) hb7 (tq_body_one hn)
  rw [tq_xv_one hn] at hr7
  rw [tq_bd_e e4, tq_nm_e, tq_nm_e]
  -- the tq_search, where it is reached
  have go : r4 ≤ 0 → ¬ r7 < 0 → ∃ t, 1 ≤ t ∧ t < 2 ^ (n - 1) ∧ tq_CB (tq_cC E F q) n t ∧ (t + 1 = 2 ^ (n - 1) ∨ tq_NB (tq_cC E F q) n (t + 1)) ∧ ((∃ (r : Int32) (g : Nat → Int32) (u : Nat), (if r4 ≤ 0 then tq_bd (m_against sq g4 1 size) (fun u => tq_nm u.1 (fun r7 => tq_nm u.2 (fun lf8 => if r7 < 0 then m_rounded_b156 mi 1 lf8 else m_rounded_b50 sq mi size 41 1 tp lf8))) else m_rounded_b156 mi tp g4) = some (r, g) ∧ tq_WL 200 g ∧ r.toInt = (if mi = 0 then (u : Int) else -(u : Int)) ∧ ∃ R Z, tq_Body (t * 2 ^ (33 - n)) R Z ∧ ((tq_cD E F q (tq_xv R Z) ∧ u = t) ∨ (¬ tq_cD E F q (tq_xv R Z) ∧
      (t + 1 < 2 ^ (n - 1) → ∃ R Z, tq_Body ((2 * t + 1) * 2 ^ (32 - n)) R Z ∧ ((tq_cC E F q (tq_xv R Z) ∧ ¬ tq_cD E F q (tq_xv R Z) ∧ u = t + 1) ∨ (tq_cD E F q (tq_xv R Z) ∧ t % 2 = 1 ∧ u = t + 1) ∨ (tq_cD E F q (tq_xv R Z) ∧ t % 2 = 0 ∧ u = t) ∨ (¬ tq_cC E F q (tq_xv R Z) ∧ u = t)) )))) ∨ (t + 1 = 2 ^ (n - 1) ∧ ∃ R Z, tq_Body (t * 2 ^ (33 - n)) R Z ∧ ¬ tq_cD E F q (tq_xv R Z))) := by
    intro h4 h7n
    have hc1 : tq_CB (tq_cC E F q) n 1 := by
      refine ⟨_, _, tq_body_one hn, ?_⟩
      rw [tq_xv_one hn]
      rcases hr7 with ⟨p1, p2, p3⟩ | ⟨p1, p2, p3⟩ | ⟨p1, p3⟩
      · exact p1
      · exact p1
      · exact absurd (by rw [p3]; decide) h7n
    obtain ⟨fu, a', b', t, g, eq, t1, t2, ha, hb, wg, hEg, hFg, hct, hnt⟩ := tq_search hsq hFb hz mi 31 41 1 tp 1 (2 ^ (n - 1) - 1) g7 (by omega) (by omega) (by omega) (by omega) (by omega) rfl etop w7 hE7 hF7 hc1 (.inl (by omega))
    have hdec := tq_decided hsq hFb hz (mi := mi) (fuel := fu) t1 t2 ha hb wg hEg hFg
    refine ⟨t, t1, t2, hct, hnt, ?_⟩
    have e7' : tq_bd (m_against sq g4 1 size) (fun u => tq_nm u.1 (fun r7 => tq_nm u.2 (fun lf8 => if r7 < 0 then m_rounded_b156 mi 1 lf8 else m_rounded_b50 sq mi size 41 1 tp lf8))) = m_rounded_b50 sq mi size (fu + 1) a' b' g := by
      rw [tq_bd_e e7, tq_nm_e, tq_nm_e, if_neg h7n]; exact eq
    rw [if_pos h4, e7']
    exact hdec
  obtain ⟨lin, lhi, llo⟩ := hl
  rcases Int.lt_or_le s (4 * (n : Int) - 8) with q1 | q1
  · rcases Int.lt_or_le s (-(4 * (n : Int) - 8)) with q2 | q2
    · -- below the least
      have nc := llo q2
      have r7m : r7 = -1 := by
        rcases hr7 with ⟨p1, p2, p3⟩ | ⟨p1, p2, p3⟩ | ⟨p1, p3⟩
        · exact absurd p1 nc
        · exact absurd p1 nc
        · exact p3
      have nct : ¬ tq_cC E F q (2 ^ (4 * n + 148)) := fun w => nc (hcut.1 _ _ (Nat.pow_le_pow_right (by omega) (by omega)) w)
      have r4m : r4 = -1 := by
        rcases hr4 with ⟨p1, p2, p3⟩ | ⟨p1, p2, p3⟩ | ⟨p1, p3⟩
        · exact absurd p1 nct
        · exact absurd p1 nct
        · exact p3
      rw [if_pos (show r4 ≤ 0 by rw [r4m]; decide), tq_bd_e e7, tq_nm_e, tq_nm_e, if_pos (show r7 < 0 by rw [r7m]; decide)]
      obtain ⟨r, er, hr⟩ := tq_b156 (mi := mi) (v := 1) (t := 1) rfl (by omega) g7
      have hpp : tq_pp n s sig mo = 1 := by unfold tq_pp; rw [if_neg (by omega), if_pos q2]
      exact ⟨r, g7, er, w7, by rw [hpp]; exact hr⟩
    · -- in range
      have hlead := lin q2 q1
      have clo := tq_lead_lo hlead
      have chi : ¬ tq_cC E F q (2 ^ (s + 157).toNat) := hlead.2.2.2
      have nct : ¬ tq_cC E F q (2 ^ (4 * n + 148)) := fun w => chi (hcut.1 _ _ (Nat.pow_le_pow_right (by omega) (by omega)) w)
      have c1c : tq_cC E F q (2 ^ (164 - 4 * n)) := hcut.1 _ _ (Nat.pow_le_pow_right (by omega) (by omega)) clo
      have r4m : r4 = -1 := by
        rcases hr4 with ⟨p1, p2, p3⟩ | ⟨p1, p2, p3⟩ | ⟨p1, p3⟩
        · exact absurd p1 nct
        · exact absurd p1 nct
        · exact p3
      have r7n : ¬ r7 < 0 := by
        rcases hr7 with ⟨p1, p2, p3⟩ | ⟨p1, p2, p3⟩ | ⟨p1, p3⟩
        · rw [p3]; decide
        · rw [p3]; decide
        · exact absurd c1c p1
      obtain ⟨t, t1, t2, hct, hnt, hdec⟩ := go (by rw [r4m]; decide) r7n
      obtain ⟨t0, r0, Zt, Zm, a1, a2, a3, a4, a5, ⟨R', Z', a6, a7⟩, b1, b2, b3, b4, b5⟩ := tq_round_in hcut hn ⟨q2, q1⟩ hlead
      have lt1 : t < t0 + 1 := tq_cb_nb hcut hn t2 hct ⟨R', Z', a6, a7⟩
      have lt2 : t0 < t + 1 := by
        clear hdec
        rcases hnt with z | z
        · omega
        · exact tq_cb_nb hcut hn (by omega) ⟨r0, Zt, a3, a5⟩ z
      have : t = t0 := by omega
      subst this
      rcases hdec with ⟨r, g, u, x1, x2, x3, R, Z, x4, x5⟩ | ⟨x1, _⟩
      · refine ⟨r, g, x1, x2, ?_⟩
        have hu : u = tq_pp n s sig mo := by
          obtain ⟨rfl, rfl⟩ := tq_body_unique (tq_bB hn t2) x4 a3
          rcases x5 with ⟨y1, y2⟩ | ⟨y1, y2⟩
          · rw [y2, b1 y1]
          · obtain ⟨R2, Z2, y3, y4⟩ := y2 a2
            have hb32 : (2 * t + 1) * 2 ^ (32 - n) < 2 ^ 32 := by
              have e : 2 ^ 32 = 2 ^ n * 2 ^ (32 - n) := by rw [← Nat.pow_add, show n + (32 - n) = 32 by omega]
              have e2 : 2 ^ n = 2 * 2 ^ (n - 1) := by
                have h := Nat.pow_add 2 1 (n - 1)
                rw [show 1 + (n - 1) = n by omega] at h; exact h
              rw [e]; exact Nat.mul_lt_mul_of_pos_right (by omega) (Nat.two_pow_pos _)
            obtain ⟨rfl, rfl⟩ := tq_body_unique hb32 y3 a4
            rcases y4 with ⟨z1, z2, z3⟩ | ⟨z1, z2, z3⟩ | ⟨z1, z2, z3⟩ | ⟨z1, z3⟩
            · rw [z3, b2 z1 z2]
            · rw [z3, b3 z1 z2]
            · rw [z3, b4 z1 z2]
            · rw [z3, b5 z1]
        rw [x3, hu]
      · exact absurd x1 (Nat.ne_of_lt a2)
  · -- from the largest on
    have ct := lhi q1
    have hpp : tq_pp n s sig mo = 2 ^ (n - 1) - 1 := by unfold tq_pp; rw [if_pos q1]
    rw [hpp]
    by_cases hd : tq_cD E F q (2 ^ (4 * n + 148))
    · have r40 : r4 = 0 := by
        rcases hr4 with ⟨p1, p2, p3⟩ | ⟨p1, p2, p3⟩ | ⟨p1, p3⟩
        · exact absurd hd p2
        · exact p3
        · exact absurd ct p1
      have c1c : tq_cC E F q (2 ^ (164 - 4 * n)) := hcut.1 _ _ (Nat.pow_le_pow_right (by omega) (by omega)) ct
      have r7n : ¬ r7 < 0 := by
        rcases hr7 with ⟨p1, p2, p3⟩ | ⟨p1, p2, p3⟩ | ⟨p1, p3⟩
        · rw [p3]; decide
        · rw [p3]; decide
        · exact absurd c1c p1
      obtain ⟨t, t1, t2, hct, hnt, hdec⟩ := go (by rw [r40]; decide) r7n
      have htop : tq_CB (tq_cC E F q) n (2 ^ (n - 1) - 1) := ⟨_, _, tq_body_top hn, by rw [tq_xv_top hn]; exact ct⟩
      have : t = 2 ^ (n - 1) - 1 := by
        clear hdec
        rcases hnt with z | z
        · omega
        · have := tq_cb_nb hcut hn (by omega) htop z; omega
      subst this
      rcases hdec with ⟨r, g, u, x1, x2, x3, R, Z, x4, x5⟩ | ⟨x1, R, Z, x2, x3⟩
      · refine ⟨r, g, x1, x2, ?_⟩
        obtain ⟨rfl, rfl⟩ := tq_body_unique (tq_bB hn t2) x4 (tq_body_top hn)
        rw [tq_xv_top hn] at x5
        rcases x5 with ⟨y1, y2⟩ | ⟨y1, y2⟩
        · rw [x3, y2]
        · exact absurd hd y1
      · obtain ⟨rfl, rfl⟩ := tq_body_unique (tq_bB hn t2) x2 (tq_body_top hn)
        rw [tq_xv_top hn] at x3
        exact absurd hd x3
    · have r41 : r4 = 1 := by
        rcases hr4 with ⟨p1, p2, p3⟩ | ⟨p1, p2, p3⟩ | ⟨p1, p3⟩
        · exact p3
        · exact absurd p2 hd
        · exact absurd ct p1
      rw [if_neg (show ¬ r4 ≤ 0 by rw [r41]; decide)]
      obtain ⟨r, er, hr⟩ := tq_b156 (mi := mi) etop (by omega) g4
      exact ⟨r, g4, er, w4, hr⟩
theorem tq_ref_zero {sq : Int32} (mi size : Int32) {f : Nat → Int32} (hw : tq_WL 200 f) (hE : tq_rv f (40 * 0) 40 = 0) : m_rounded sq f mi size = some (0, f) := by
  unfold m_rounded
  obtain ⟨r1, e1, hr1⟩ := tq_isZero_spec (a := 0) (by omega) hw
  have e1' : m_isZero f 0 = some r1 := e1
  have r10 : r1 = 1 := by
    rcases hr1 with ⟨a, b⟩ | ⟨a, b⟩
    · exact b
    · exact absurd hE a
  rw [tq_bd_e e1', if_neg (by rw [r10]; decide)]
end
section
theorem tq_mpat_spec {nz : Int32} {n : Nat} (h : tq_Sz nz n) (x : Int32) : (m_pattern nz x).toInt = tq_pat n x := by
  unfold m_pattern tq_pat
  have hl := tq_u32_lt x
  have hu := tq_i32_u x
  obtain ⟨h1, h2⟩ := h
  have e := tq_of_i32 h1
  rcases h2 with rfl | rfl | rfl
  · subst e
    rw [if_pos (by decide), if_pos (by decide)]
    have : x.toInt8.toInt32.toInt = x.toInt.bmod (2 ^ 8) := by simp
    rw [this, Int.bmod_def]
    have h3 := tq_u32_i x
    split <;> split <;> omega
  · subst e
    rw [if_pos (by decide), if_neg (by decide)]
    have : x.toInt16.toInt32.toInt = x.toInt.bmod (2 ^ 16) := by simp
    rw [this, Int.bmod_def]
    have h3 := tq_u32_i x
    split <;> split <;> omega
  · subst e
    rw [if_neg (by decide)]
    split at hu <;> split <;> omega
theorem tq_mnot_spec {nz : Int32} {n : Nat} (h : tq_Sz nz n) : (m_not nz).toInt = -2 ^ (n - 1) := tq_notOf_spec h
theorem tq_misNot_spec {nz : Int32} {n : Nat} (h : tq_Sz nz n) (x : Int32) : (m_isNot nz x = 0 ↔ tq_pat n x ≠ -2 ^ (n - 1)) := by
  unfold m_isNot
  have h1 := tq_mpat_spec h x
  have h2 := tq_mnot_spec h
  by_cases q : m_pattern nz x = m_not nz
  · rw [if_neg (fun w => w q)]
    constructor
    · intro w; exact absurd w (by decide)
    · intro w; exact absurd (by rw [← h1, q, h2]) w
  · rw [if_pos q]
    exact ⟨fun _ w => q (Int32.toInt.inj (by rw [h1, h2, w])), fun _ => rfl⟩
theorem tq_mneg_spec {nz : Int32} {n : Nat} (h : tq_Sz nz n) (x : Int32) : m_negative nz x = if decide (tq_pat n x < 0) then 1 else 0 := by
  unfold m_negative
  have h1 := tq_mpat_spec h x
  have c0 : ((0 : Int32)).toInt = 0 := rfl
  by_cases q : 0 ≤ m_pattern nz x
  · rw [if_pos q]; rw [Int32.le_iff_toInt_le, c0, h1] at q
    rw [decide_eq_false (by omega)]; rfl
  · rw [if_neg q]; rw [Int32.le_iff_toInt_le, c0, h1] at q
    rw [decide_eq_true (by omega)]; rfl
theorem tq_WL0 : tq_WL 200 (fun _ => 0) := fun i _ => (by decide : 0 ≤ ((0 : Int32)).toInt ∧ ((0 : Int32)).toInt < 65536)
/-- the whole units of a pattern, without a division -/
theorem tq_mag_div {n P : Nat} (hn : n = 8 ∨ n = 16 ∨ n = 32) (hP : 1 ≤ P ∧ P < 2 ^ (n - 1)) {R : Int} {Z : Nat} (hb : tq_Body (P * 2 ^ (33 - n)) R Z) : tq_mag n P * 2 ^ 32 = (2 ^ 32 + 4 * Z % 2 ^ 32) * 2 ^ (4 * R + (Z / 2 ^ 30 : Nat) + ((4 * n - 8 : Nat) : Int)).toNat ∧ 0 ≤ 4 * R + (Z / 2 ^ 30 : Nat) + ((4 * n - 8 : Nat) : Int) := by
  have h31 : 2 ^ (n - 1) ≤ 2 ^ 31 := Nat.pow_le_pow_right (by omega) (by omega)
  have hn2 : (nI n).toInt = n := tq_nI_i (by omega)
  have hpv : (Int64.ofNat P).toInt = P := Int64.toInt_ofNat_of_lt (by omega)
  obtain ⟨g, e, w, fr, R', Z', hb', hk, hv⟩ := tq_value_spec (r := 0) (by omega) tq_WL0 hpv (size := nI n) (un := nI (4 * n - 8)) (S := n) (U := 4 * n - 8) hn2 (by omega) hP (by omega) (tq_nI_i (by omega)) ⟨by omega, by omega⟩
  obtain ⟨rfl, rfl⟩ := tq_body_unique (tq_bB hn hP.2) hb' hb
  have em : tq_mag n P = tq_mgv n R' Z' := tq_mag_eq hn (.inr ⟨hP.1, hP.2, R', Z', hb, rfl⟩)
  have e4 : 4 * R' + ((Z' / 2 ^ 30 : Nat) : Int) + (4 * (n : Int) - 8) = 4 * R' + ((Z' / 2 ^ 30 : Nat) : Int) + ((4 * n - 8 : Nat) : Int) := by
    generalize Z' / 2 ^ 30 = z at *; omega
  refine ⟨?_, hk⟩
  rw [em]
  unfold tq_mgv
  rw [e4, ← hv, Nat.mul_div_cancel _ (by decide)]
theorem tq_mload_spec {r : Nat} (hr : r ≤ 4) {nz : Int32} {n : Nat} (h : tq_Sz nz n) {f : Nat → Int32} (hw : tq_WL 200 f) (x : Int32) (hx : tq_pat n x ≠ -2 ^ (n - 1)) {un : Int32} {U : Nat} (hu : un.toInt = U) (hU : 4 * n - 8 ≤ U ∧ U ≤ 200) :
    ∃ g, m_load nz f (nI r) x un = some g ∧ tq_WL 200 g ∧ tq_Fr r f g ∧ tq_rv g (40 * r) 40 = tq_mag n (tq_pat n x).natAbs * 2 ^ (U - (4 * n - 8)) := by
  have hn := h.2
  unfold m_load m_load_b40
  have h1 := tq_mpat_spec h x
  have hrg := tq_pat_rng (x := x) hn
  have c0 : ((0 : Int64)).toInt = 0 := rfl
  have e1 : (m_pattern nz x).toInt64.toInt = tq_pat n x := by rw [tq_i64_of_32, h1]
  rw [tq_nm_e]
  generalize (m_pattern nz x).toInt64 = v at *
  by_cases z : lg_cmp v 0 = 0
  · rw [if_neg (fun w => w z)]
    obtain ⟨g, e, w, fr, hz⟩ := tq_zero_spec hr hw
    rw [tq_bd_e e]
    refine ⟨g, rfl, w, fr, ?_⟩
    have : tq_pat n x = 0 := by rw [tq_cmp_eq] at z; rw [← e1, z]; rfl
    have em : tq_mag n (tq_pat n x).natAbs = 0 := tq_mag_eq hn (.inl ⟨by omega, rfl⟩)
    rw [tq_zero_rv hz, em, Nat.zero_mul]
  · rw [if_pos z]
    have nz0 : tq_pat n x ≠ 0 := fun w => z (tq_cmp_eq.2 (Int64.toInt.inj (by rw [e1, w]; rfl)))
    have hP : 1 ≤ (tq_pat n x).natAbs ∧ (tq_pat n x).natAbs < 2 ^ (n - 1) := by rcases hn with rfl | rfl | rfl <;> omega
    have fin : ∀ pv : Int64, pv.toInt = ((tq_pat n x).natAbs : Int) → ∃ g, tq_bd (m_value f (nI r) pv nz un) (fun lf5 => some lf5) = some g ∧ tq_WL 200 g ∧ tq_Fr r f g ∧ tq_rv g (40 * r) 40 = tq_mag n (tq_pat n x).natAbs * 2 ^ (U - (4 * n - 8)) := by
      intro pv hpv
      obtain ⟨g, e, w, fr, R, Z, hb, hk, hv⟩ := tq_value_spec hr hw hpv (S := n) h.1 (by omega) hP (by omega) hu hU
      rw [tq_bd_e e]
      refine ⟨g, rfl, w, fr, ?_⟩
      obtain ⟨m1, m2⟩ := tq_mag_div hn hP hb
      have e3 : (4 * R + (Z / 2 ^ 30 : Nat) + (U : Int)).toNat = (4 * R + (Z / 2 ^ 30 : Nat) + ((4 * n - 8 : Nat) : Int)).toNat + (U - (4 * n - 8)) := by
        clear hv m1 hb
        generalize Z / 2 ^ 30 = z at *; omega
      rw [e3, Nat.pow_add, ← Nat.mul_assoc, ← m1, Nat.mul_right_comm] at hv
      exact Nat.eq_of_mul_eq_mul_right (by decide) hv
    by_cases s : 0 ≤ lg_cmp v 0
    · rw [if_pos s]; rw [tq_cmp_ge, c0, e1] at s
      exact fin v (by rw [e1]; omega)
    · rw [if_neg s]; rw [tq_cmp_ge, c0, e1] at s
      have h63 : -2 ^ 63 < v.toInt := by rw [e1]; rcases hn with rfl | rfl | rfl <;> omega
      exact fin (-v) (by rw [tq_i64_neg h63, e1]; omega)
theorem tq_mfactor_spec {f : Nat → Int32} (hw : tq_WL 200 f) (sq : Int32) {pw : Int32} {k : Nat} (hk : pw.toInt = k) (hk2 : k < 600) : ∃ g, m_factor sq f pw = some (0, g) ∧ tq_WL 200 g ∧ tq_Fr 4 f g ∧ tq_rv g (40 * 4) 40 = 2 ^ k := by
  unfold m_factor
  obtain ⟨g1, e1, w1, fr1, h1⟩ := tq_setLong_spec (r := 4) (by omega) hw 1
  have e1' : m_setLong f 4 1 = some g1 := e1
  rw [tq_bd_e e1']
  obtain ⟨g2, e2, w2, fr2, h2⟩ := tq_raise_spec (r := 4) (by omega) w1 hk (by omega)
  have e2' : m_raise g1 4 pw = some g2 := e2
  rw [tq_bd_e e2']
  refine ⟨g2, rfl, w2, fun x hx => by rw [fr2 x hx]; exact fr1 x hx, ?_⟩
  have u1 : tq_u64 (1 : Int64) = 1 := rfl
  rw [h2, h1, u1, Nat.one_mul, Nat.mod_eq_of_lt (Nat.pow_lt_pow_right (by omega) (by omega))]
/-- leading bits of A -/
def tq_sigA (A : Nat) : Nat := if 63 ≤ Nat.log2 A then A / 2 ^ (Nat.log2 A - 63) else A * 2 ^ (63 - Nat.log2 A)
def tq_moA (A : Nat) : Bool := decide (63 ≤ Nat.log2 A ∧ A % 2 ^ (Nat.log2 A - 63) ≠ 0)
theorem tq_sigA_le {A c T : Nat} (hT : Nat.log2 A = T) : (c * 2 ^ 35 ≤ tq_sigA A ↔ c * 2 ^ T ≤ A * 2 ^ 28) ∧ ((c * 2 ^ 35 = tq_sigA A ∧ tq_moA A = false) ↔ c * 2 ^ T = A * 2 ^ 28) := by
  unfold tq_sigA tq_moA
  rw [hT]
  by_cases h : 63 ≤ T
  · have p := Nat.two_pow_pos (T - 63)
    have e1 : 2 ^ T = 2 ^ 35 * 2 ^ (T - 63) * 2 ^ 28 := by rw [← Nat.pow_add, ← Nat.pow_add, show 35 + (T - 63) + 28 = T by omega]
    have q28 : 0 < 2 ^ 28 := by decide
    rw [if_pos h, e1, ← Nat.mul_assoc, ← Nat.mul_assoc]
    constructor
    · rw [Nat.le_div_iff_mul_le p]
      exact ⟨fun w => Nat.mul_le_mul_right _ w, fun w => Nat.le_of_mul_le_mul_right w q28⟩
    · constructor
      · rintro ⟨w1, w2⟩
        have w2 : A % 2 ^ (T - 63) = 0 := by
          rcases Nat.eq_zero_or_pos (A % 2 ^ (T - 63)) with z | z
          · exact z
          · have : decide (63 ≤ T ∧ A % 2 ^ (T - 63) ≠ 0) = true := decide_eq_true ⟨h, Nat.ne_of_gt z⟩
            rw [this] at w2; cases w2
        rw [w1, Nat.div_mul_cancel (Nat.dvd_of_mod_eq_zero w2)]
      · intro w
        have w := Nat.eq_of_mul_eq_mul_right q28 w
        rw [← w]
        refine ⟨(Nat.mul_div_cancel _ p).symm, decide_eq_false (fun z => z.2 (Nat.mul_mod_left _ _))⟩
  · have p := Nat.two_pow_pos T
    have e1 : 2 ^ (63 - T) * 2 ^ T = 2 ^ 28 * 2 ^ 35 := by rw [← Nat.pow_add, ← Nat.pow_add, show 63 - T + T = 63 by omega]
    have q35 : 0 < 2 ^ 35 := by decide
    rw [if_neg h]
    have k1 : c * 2 ^ 35 * 2 ^ T = c * 2 ^ T * 2 ^ 35 := Nat.mul_right_comm _ _ _
    have k2 : A * 2 ^ (63 - T) * 2 ^ T = A * 2 ^ 28 * 2 ^ 35 := by rw [Nat.mul_assoc, e1, Nat.mul_assoc]
    constructor
    · constructor
      · intro w
        have := Nat.mul_le_mul_right (2 ^ T) w
        rw [k1, k2] at this
        exact Nat.le_of_mul_le_mul_right this q35
      · intro w
        have := Nat.mul_le_mul_right (2 ^ 35) w
        rw [← k1, ← k2] at this
        exact Nat.le_of_mul_le_mul_right this p
    · constructor
      · rintro ⟨w, _⟩
        have := congrArg (· * 2 ^ T) w
        simp only [k1, k2] at this
        exact Nat.eq_of_mul_eq_mul_right q35 this
      · intro w
        have := congrArg (· * 2 ^ 35) w
        simp only [← k1, ← k2] at this
        exact ⟨Nat.eq_of_mul_eq_mul_right p this, decide_eq_false (fun z => h z.1)⟩
end
section
theorem tq_sigA_rng {A : Nat} (hA : A ≠ 0) : 2 ^ 63 ≤ tq_sigA A ∧ tq_sigA A < 2 ^ 64 := by
  obtain ⟨h1, h2⟩ := tq_log2_bd hA
  unfold tq_sigA
  generalize Nat.log2 A = T at *
  split
  · rename_i h
    rw [Nat.le_div_iff_mul_le (Nat.two_pow_pos _), Nat.div_lt_iff_lt_mul (Nat.two_pow_pos _), ← Nat.pow_add, ← Nat.pow_add, show 63 + (T - 63) = T by omega, show 64 + (T - 63) = T + 1 by omega]
    exact ⟨h1, h2⟩
  · rename_i h
    have b1 := Nat.mul_le_mul_right (2 ^ (63 - T)) h1
    have b2 := Nat.mul_lt_mul_of_pos_right h2 (Nat.two_pow_pos (63 - T))
    rw [← Nat.pow_add, show T + (63 - T) = 63 by omega] at b1
    rw [← Nat.pow_add, show T + 1 + (63 - T) = 64 by omega] at b2
    exact ⟨b1, b2⟩
theorem tq_cmp_dy {E F A k1 k2 : Nat} (hF : 0 < F) (h : E * 2 ^ k1 = A * F * 2 ^ k2) (x : Nat) : (tq_cC E F false x ↔ x * 2 ^ k1 ≤ A * 2 ^ (k2 + 32)) ∧ (tq_cD E F false x ↔ x * 2 ^ k1 = A * 2 ^ (k2 + 32)) := by
  unfold tq_cC tq_cD
  rw [if_neg (by decide), if_neg (by decide)]
  have p := Nat.two_pow_pos k1
  have e1 : E * 2 ^ 32 * 2 ^ k1 = A * 2 ^ (k2 + 32) * F := by
    rw [Nat.mul_right_comm, h, Nat.pow_add]; ac_rfl
  have e2 : x * F * 2 ^ k1 = x * 2 ^ k1 * F := Nat.mul_right_comm _ _ _
  constructor
  · constructor
    · intro w
      have := Nat.mul_le_mul_right (2 ^ k1) w
      rw [e1, e2] at this
      exact Nat.le_of_mul_le_mul_right this hF
    · intro w
      have := Nat.mul_le_mul_right F w
      rw [← e1, ← e2] at this
      exact Nat.le_of_mul_le_mul_right this p
  · constructor
    · intro w
      have := congrArg (· * 2 ^ k1) w
      simp only [e1, e2] at this
      exact Nat.eq_of_mul_eq_mul_right hF this
    · intro w
      have := congrArg (· * F) w
      simp only [← e1, ← e2] at this
      exact Nat.eq_of_mul_eq_mul_right p this
/-- A * 2^e, with its leading bits -/
theorem tq_lead_dy {n : Nat} (hn : n = 8 ∨ n = 16 ∨ n = 32) {E F A k1 k2 : Nat} (hA : A ≠ 0) (hF : 0 < F) {e : Int} (hk : (k2 : Int) - k1 = e + 124) (h : E * 2 ^ k1 = A * F * 2 ^ k2) : tq_LeadX n (tq_cC E F false) (tq_cD E F false) (e + (Nat.log2 A : Nat)) (tq_sigA A) (tq_moA A) := by
  have hc := tq_cmp_dy hF h
  obtain ⟨g1, g2⟩ := tq_log2_bd hA
  have hs := fun c => tq_sigA_le (A := A) (c := c) rfl
  have hr := tq_sigA_rng hA
  generalize hT : Nat.log2 A = T at *
  refine ⟨fun q1 q2 => ⟨hr.1, hr.2, fun c x c1 c2 hx => ?_, ?_⟩, fun q => ?_, fun q => ?_⟩
  · rw [(hc x).1, (hc x).2, (hs c).1, (hs c).2]
    have p28 : 0 < 2 ^ 28 := by decide
    have pk := Nat.two_pow_pos (k2 + 32)
    have e3 : x * 2 ^ k1 * 2 ^ 28 = c * 2 ^ T * 2 ^ (k2 + 32) := by
      rw [Nat.mul_right_comm, hx, Nat.mul_assoc, Nat.mul_assoc, ← Nat.pow_add, ← Nat.pow_add]
      congr 2; omega
    have e4 : A * 2 ^ (k2 + 32) * 2 ^ 28 = A * 2 ^ 28 * 2 ^ (k2 + 32) := Nat.mul_right_comm _ _ _
    constructor
    · constructor
      · intro w
        have := Nat.mul_le_mul_right (2 ^ 28) w
        rw [e3, e4] at this
        exact Nat.le_of_mul_le_mul_right this pk
      · intro w
        have := Nat.mul_le_mul_right (2 ^ (k2 + 32)) w
        rw [← e3, ← e4] at this
        exact Nat.le_of_mul_le_mul_right this p28
    · constructor
      · intro w
        have := congrArg (· * 2 ^ 28) w
        simp only [e3, e4] at this
        exact Nat.eq_of_mul_eq_mul_right pk this
      · intro w
        have := congrArg (· * 2 ^ (k2 + 32)) w
        simp only [← e3, ← e4] at this
        exact Nat.eq_of_mul_eq_mul_right p28 this
  · rw [(hc _).1, ← Nat.pow_add]
    intro w
    have e5 : (e + (T : Int) + 157).toNat + k1 = T + 1 + (k2 + 32) := by omega
    rw [e5, Nat.pow_add] at w
    have := Nat.le_of_mul_le_mul_right w (Nat.two_pow_pos (k2 + 32))
    omega
  · rw [(hc _).1, ← Nat.pow_add]
    refine Nat.le_trans ?_ (Nat.mul_le_mul_right _ g1)
    rw [← Nat.pow_add]
    exact Nat.pow_le_pow_right (by omega) (by omega)
  · rw [(hc _).1, ← Nat.pow_add]
    intro w
    have := Nat.lt_of_le_of_lt w (Nat.mul_lt_mul_of_pos_right g2 (Nat.two_pow_pos (k2 + 32)))
    rw [← Nat.pow_add] at this
    have := (Nat.pow_lt_pow_iff_right (show 1 < 2 by omega)).1 this
    omega
theorem tq_rS_sig {n A : Nat} (hA : A ≠ 0) : tq_rS n A = tq_pp n (-(8 * (n : Int) - 16) + (Nat.log2 A : Nat)) (tq_sigA A) (tq_moA A) := by
  unfold tq_rS tq_sigA tq_moA
  rw [if_neg hA]
  congr 1; omega
theorem tq_rM_sig {n M : Nat} (hM : M ≠ 0) (h64 : M < 2 ^ 64) (e : Int) : tq_rM n M e false = tq_pp n (e + (Nat.log2 M : Nat)) (tq_sigA M) (tq_moA M) := by
  unfold tq_rM tq_sigA tq_moA
  rw [if_neg hM]
  have hl : Nat.log2 M < 64 := (Nat.log2_lt hM).2 h64
  by_cases h : 63 ≤ Nat.log2 M
  · have e63 : Nat.log2 M = 63 := by omega
    rw [if_pos h, e63, decide_eq_false (by simp [Nat.mod_one])]
    simp
  · rw [if_neg h, decide_eq_false (fun z => h z.1)]
/-- E / F is A * 2^(16 - 8 n): the reference answers as the class's tq_rS -/
theorem tq_ref_S {size : Int32} {n : Nat} (hz : tq_Sz size n) (mi : Int32) {f : Nat → Int32} (hw : tq_WL 200 f) {E F A k1 k2 : Nat} (hE : tq_rv f (40 * 0) 40 = E) (hF : tq_rv f (40 * 4) 40 = F) (hF0 : 0 < F) (hFb : F ≤ 2 ^ 390) (hk : (k2 : Int) - k1 = 140 - 8 * n) (h : E * 2 ^ k1 = A * F * 2 ^ k2) :
    ∃ r g, m_rounded 0 f mi size = some (r, g) ∧ tq_WL 200 g ∧ r.toInt = if mi = 0 then (tq_rS n A : Int) else -(tq_rS n A : Int) := by
  by_cases hA : A = 0
  · have hE0 : E = 0 := by
      rw [hA, Nat.zero_mul, Nat.zero_mul] at h
      exact (Nat.mul_eq_zero.1 h).resolve_right (Nat.ne_of_gt (Nat.two_pow_pos _))
    refine ⟨0, f, tq_ref_zero mi size hw (by rw [hE, hE0]), hw, ?_⟩
    have : tq_rS n A = 0 := by unfold tq_rS; rw [if_pos hA]
    rw [this]; split <;> rfl
  · have hE0 : E ≠ 0 := by
      intro w
      rw [w, Nat.zero_mul] at h
      have := Nat.mul_pos (Nat.mul_pos (Nat.pos_of_ne_zero hA) hF0) (Nat.two_pow_pos k2)
      omega
    rw [tq_rS_sig hA]
    exact tq_ref_round (.inl ⟨rfl, rfl⟩) hE0 (fun _ => hFb) (fun _ => hF0) hz mi hw hE hF (tq_lead_dy hz.2 hA hF0 (e := -(8 * (n : Int) - 16)) (by omega) h)
theorem tq_ref_M {size : Int32} {n : Nat} (hz : tq_Sz size n) (mi : Int32) {f : Nat → Int32} (hw : tq_WL 200 f) {E F A k1 k2 : Nat} {e : Int} (hE : tq_rv f (40 * 0) 40 = E) (hF : tq_rv f (40 * 4) 40 = F) (hF0 : 0 < F) (hFb : F ≤ 2 ^ 390) (h64 : A < 2 ^ 64) (hk : (k2 : Int) - k1 = e + 124) (h : E * 2 ^ k1 = A * F * 2 ^ k2) :
    ∃ r g, m_rounded 0 f mi size = some (r, g) ∧ tq_WL 200 g ∧ r.toInt = if mi = 0 then (tq_rM n A e false : Int) else -(tq_rM n A e false : Int) := by
  by_cases hA : A = 0
  · have hE0 : E = 0 := by
      rw [hA, Nat.zero_mul, Nat.zero_mul] at h
      exact (Nat.mul_eq_zero.1 h).resolve_right (Nat.ne_of_gt (Nat.two_pow_pos _))
    refine ⟨0, f, tq_ref_zero mi size hw (by rw [hE, hE0]), hw, ?_⟩
    have : tq_rM n A e false = 0 := by unfold tq_rM; rw [if_pos hA]
    rw [this]; split <;> rfl
  · have hE0 : E ≠ 0 := by
      intro w
      rw [w, Nat.zero_mul] at h
      have := Nat.mul_pos (Nat.mul_pos (Nat.pos_of_ne_zero hA) hF0) (Nat.two_pow_pos k2)
      omega
    rw [tq_rM_sig hA h64]
    exact tq_ref_round (.inl ⟨rfl, rfl⟩) hE0 (fun _ => hFb) (fun _ => hF0) hz mi hw hE hF (tq_lead_dy hz.2 hA hF0 hk h)
end
section
/-- a pattern's value in units of 2^(8 - 4 n), with its sign -/
noncomputable def tq_iv (n : Nat) (p : Int) : Int := tq_sg (decide (p < 0)) (tq_mag n p.natAbs)
theorem tq_iv_abs (n : Nat) (p : Int) : (tq_iv n p).natAbs = tq_mag n p.natAbs := by
  unfold tq_iv tq_sg; split <;> omega
theorem tq_mag_le {n : Nat} {p : Int} (hn : n = 8 ∨ n = 16 ∨ n = 32) (hp : -2 ^ (n - 1) < p ∧ p < 2 ^ (n - 1)) : tq_mag n p.natAbs ≤ 2 ^ (8 * n - 16) := by
  by_cases q : p = 0
  · have : tq_mag n p.natAbs = 0 := tq_mag_eq hn (.inl ⟨by omega, rfl⟩)
    rw [this]; exact Nat.zero_le _
  · have hP : 1 ≤ p.natAbs ∧ p.natAbs < 2 ^ (n - 1) := by rcases hn with rfl | rfl | rfl <;> omega
    have h31 : 2 ^ (n - 1) ≤ 2 ^ 31 := Nat.pow_le_pow_right (by omega) (by omega)
    have hpv : (Int64.ofNat p.natAbs).toInt = p.natAbs := Int64.toInt_ofNat_of_lt (by omega)
    obtain ⟨g, e, w, fr, R, Z, hb, hk, hv⟩ := tq_value_spec (r := 0) (by omega) tq_WL0 hpv (size := nI n) (un := nI (4 * n - 8)) (S := n) (U := 4 * n - 8) (tq_nI_i (by omega)) (by omega) hP (by omega) (tq_nI_i (by omega)) ⟨by omega, by omega⟩
    obtain ⟨t, c, hc⟩ := tq_odd_part (2 ^ 32 + 4 * Z % 2 ^ 32) (by omega)
    have ht : t < 33 := tq_odd_le (c := c) (by rw [← hc]; omega)
    obtain ⟨_, _, _, _, b5⟩ := tq_op_val hn hP hb hc (by omega)
    rw [tq_mag_eq hn (.inr ⟨hP.1, hP.2, R, Z, hb, rfl⟩)]; exact b5
theorem tq_mag_one {n : Nat} (hn : n = 8 ∨ n = 16 ∨ n = 32) : tq_mag n (2 ^ (n - 2)) = 2 ^ (4 * n - 8) := by
  have hb : tq_Body (2 ^ (n - 2) * 2 ^ (33 - n)) 0 0 := by
    refine ⟨by omega, .inl ⟨by omega, by omega, ?_⟩⟩
    rw [← Nat.pow_add, show n - 2 + (33 - n) = 31 by omega]; decide
  have hP : 1 ≤ 2 ^ (n - 2) ∧ 2 ^ (n - 2) < 2 ^ (n - 1) := ⟨Nat.two_pow_pos _, Nat.pow_lt_pow_right (by omega) (by omega)⟩
  have h := (tq_mag_div hn hP hb).1
  have e : (4 * (0 : Int) + ((0 / 2 ^ 30 : Nat) : Int) + ((4 * n - 8 : Nat) : Int)).toNat = 4 * n - 8 := by omega
  rw [e, show 2 ^ 32 + 4 * 0 % 2 ^ 32 = 2 ^ 32 from rfl, Nat.mul_comm (2 ^ 32)] at h
  exact Nat.eq_of_mul_eq_mul_right (by decide) h
theorem tq_sg_mul (a b : Bool) (x y : Nat) : tq_sg a x * tq_sg b y = tq_sg (a != b) (x * y) := by
  unfold tq_sg; cases a <;> cases b <;> simp [Int.neg_mul, Int.mul_neg]
/-- a sum that is no NOT, as an integer -/
def tq_isS (n S : Nat) (i : Int) : Prop := S < 2 ^ (16 * n) ∧ S ≠ 2 ^ (16 * n - 1) ∧ tq_sgnd n S = i
theorem tq_p16n {n : Nat} (hn : n = 8 ∨ n = 16 ∨ n = 32) : 2 ^ (16 * n) = 2 * 2 ^ (16 * n - 1) := by
  have h := Nat.pow_add 2 1 (16 * n - 1)
  rw [show 1 + (16 * n - 1) = 16 * n by omega] at h; exact h
theorem tq_isS_mk {n : Nat} (hn : n = 8 ∨ n = 16 ∨ n = 32) {S : Nat} {i : Int} (hS : S < 2 ^ (16 * n)) (hi : i.natAbs < 2 ^ (16 * n - 1)) (h : ((S : Int) - i) % ((2 ^ (16 * n) : Nat) : Int) = 0) : tq_isS n S i := by
  have hp := tq_p16n hn
  unfold tq_isS tq_sgnd
  rw [hp] at h hS ⊢
  generalize 2 ^ (16 * n - 1) = H at *
  obtain ⟨k, hk⟩ := Int.dvd_of_emod_eq_zero h
  have hH : 0 < H := by omega
  have k1 : k = 0 ∨ k = 1 := by
    have h1 : ((2 * H : Nat) : Int) * k < ((2 * H : Nat) : Int) * 2 := by omega
    have h2 : ((2 * H : Nat) : Int) * (-1) < ((2 * H : Nat) : Int) * k := by omega
    have := Int.lt_of_mul_lt_mul_left h1 (by omega)
    have := Int.lt_of_mul_lt_mul_left h2 (by omega)
    omega
  rcases k1 with rfl | rfl
  · refine ⟨hS, by omega, ?_⟩
    split <;> omega
  · refine ⟨hS, by omega, ?_⟩
    split <;> omega
theorem tq_isS_inc {n : Nat} (hn : n = 8 ∨ n = 16 ∨ n = 32) {a b : Nat} {i j : Int} (ha : tq_isS n a i) (hb : tq_isS n b j) (hij : (i + j).natAbs < 2 ^ (16 * n - 1)) : tq_isS n (tq_incS n a b) (i + j) := by
  unfold tq_incS
  rw [if_neg (by rintro (z | z); exact ha.2.1 z; exact hb.2.1 z)]
  apply tq_isS_mk hn (Nat.mod_lt _ (Nat.two_pow_pos _)) hij
  obtain ⟨a1, a2, a3⟩ := ha
  obtain ⟨b1, b2, b3⟩ := hb
  unfold tq_sgnd at a3 b3
  have hX := Nat.two_pow_pos (16 * n)
  generalize 2 ^ (16 * n) = X at *
  generalize 2 ^ (16 * n - 1) = H at *
  rw [← a3, ← b3]
  have e1 : (((a + b) % X : Nat) : Int) = (a + b : Nat) - X * ((a + b) / X : Nat) := by
    have := Nat.mod_add_div (a + b) X
    have : (((a + b) % X : Nat) : Int) + ((X * ((a + b) / X) : Nat) : Int) = ((a + b : Nat) : Int) := by exact_mod_cast this
    rw [Int.natCast_mul] at this; omega
  rw [e1]
  apply Int.emod_eq_zero_of_dvd
  split <;> split
  · exact ⟨-(((a + b) / X : Nat) : Int), by rw [Int.mul_neg]; omega⟩
  · exact ⟨1 - (((a + b) / X : Nat) : Int), by rw [Int.mul_sub]; omega⟩
  · exact ⟨1 - (((a + b) / X : Nat) : Int), by rw [Int.mul_sub]; omega⟩
  · exact ⟨2 - (((a + b) / X : Nat) : Int), by rw [Int.mul_sub]; omega⟩
theorem tq_prod_abs {n : Nat} {p q : Int} (hn : n = 8 ∨ n = 16 ∨ n = 32) (hp : -2 ^ (n - 1) < p ∧ p < 2 ^ (n - 1)) (hq : -2 ^ (n - 1) < q ∧ q < 2 ^ (n - 1)) : (tq_iv n p * tq_iv n q).natAbs ≤ 2 ^ (16 * n - 32) := by
  rw [Int.natAbs_mul, tq_iv_abs, tq_iv_abs]
  have := Nat.mul_le_mul (tq_mag_le hn hp) (tq_mag_le hn hq)
  rw [← Nat.pow_add, show 8 * n - 16 + (8 * n - 16) = 16 * n - 32 by omega] at this
  exact this
theorem tq_isS_prod {n : Nat} {p q : Int} (hn : n = 8 ∨ n = 16 ∨ n = 32) (hp : -2 ^ (n - 1) < p ∧ p < 2 ^ (n - 1)) (hq : -2 ^ (n - 1) < q ∧ q < 2 ^ (n - 1)) : tq_isS n (tq_prodS n p q) (tq_iv n p * tq_iv n q) := by
  have hb := tq_prod_abs hn hp hq
  have hlt : 2 ^ (16 * n - 32) < 2 ^ (16 * n - 1) := Nat.pow_lt_pow_right (by omega) (by omega)
  have h16 := tq_p16n hn
  have hle : tq_mag n p.natAbs * tq_mag n q.natAbs ≤ 2 ^ (16 * n - 32) := by
    rw [Int.natAbs_mul, tq_iv_abs, tq_iv_abs] at hb; exact hb
  unfold tq_prodS
  rw [if_neg (by omega)]
  unfold tq_iv
  rw [tq_sg_mul]
  by_cases s : (p < 0) = (q < 0)
  · rw [if_pos s]
    have e : (decide (p < 0) != decide (q < 0)) = false := by simp [s]
    rw [e]
    refine tq_isS_mk hn (by omega) (by unfold tq_sg; simp; omega) ?_
    unfold tq_sg; simp
  · rw [if_neg s]
    have e : (decide (p < 0) != decide (q < 0)) = true := by
      by_cases w1 : p < 0 <;> by_cases w2 : q < 0 <;> simp [w1, w2] at s ⊢
    rw [e]
    generalize tq_mag n p.natAbs * tq_mag n q.natAbs = M at *
    refine tq_isS_mk hn (Nat.mod_lt _ (Nat.two_pow_pos _)) (by unfold tq_sg; rw [if_pos rfl]; omega) ?_
    unfold tq_sg
    rw [if_pos rfl]
    generalize 2 ^ (16 * n) = X at *
    rcases Nat.eq_zero_or_pos M with z | z
    · subst z
      rw [Nat.sub_zero, Nat.mod_self]; simp
    · rw [Nat.mod_eq_of_lt (by omega)]
      have : ((X - M : Nat) : Int) - -(M : Int) = X := by omega
      rw [this, Int.emod_self]
theorem tq_ans_isS {n S : Nat} {i : Int} (h : tq_isS n S i) : tq_ansS n S = tq_rI n i := by
  unfold tq_ansS; rw [if_neg h.2.1, h.2.2]
end
section
theorem tq_rS_0 (n : Nat) : tq_rS n 0 = 0 := by unfold tq_rS; rw [if_pos rfl]
theorem tq_rI_sign {n : Nat} {v : Int} {mi : Int32} (h1 : v < 0 → mi ≠ 0) (h2 : 0 < v → mi = 0) : tq_rI n v = if mi = 0 then (tq_rS n v.natAbs : Int) else -(tq_rS n v.natAbs : Int) := by
  unfold tq_rI
  rcases Int.lt_trichotomy v 0 with q | q | q
  · rw [if_pos q, if_neg (h1 q)]
  · subst q
    rw [show (0 : Int).natAbs = 0 from rfl, tq_rS_0]; split <;> split <;> rfl
  · rw [if_neg (by omega), if_pos (h2 q)]
theorem tq_b01 (b : Bool) : ((if b then (1 : Int32) else 0) = 0) ↔ b = false := by cases b <;> decide
theorem tq_joined_spec {f : Nat → Int32} (hw : tq_WL 200 f) {X Y : Nat} (hX : tq_rv f (40 * 0) 40 = X) (hY : tq_rv f (40 * 1) 40 = Y) (hXY : X + Y < 2 ^ 640) (b c : Bool) :
    ∃ r g, m_joined f (if b then 1 else 0) (if c then 1 else 0) = some (r, g) ∧ tq_WL 200 g ∧ tq_rv g (40 * 0) 40 = (tq_sg b X + tq_sg c Y).natAbs ∧ (tq_sg b X + tq_sg c Y < 0 → r ≠ 0) ∧ (0 < tq_sg b X + tq_sg c Y → r = 0) := by
  unfold m_joined
  by_cases s : b = c
  · subst s
    rw [if_neg (fun w => w rfl)]
    obtain ⟨g, e, w, fr, h⟩ := tq_plus_spec (a := 0) (b := 1) (by omega) (by omega) (by omega) hw
    have e' : m_plus f 0 1 = some g := e
    rw [tq_bd_e e']
    refine ⟨_, g, rfl, w, ?_, ?_, ?_⟩
    · rw [h, hX, hY, Nat.mod_eq_of_lt hXY]; unfold tq_sg; cases b <;> simp <;> omega
    · intro q; cases b
      · unfold tq_sg at q; simp at q; omega
      · decide
    · intro q; cases b
      · decide
      · unfold tq_sg at q; simp at q; omega
  · have hne : ¬ ((if b then (1 : Int32) else 0) = if c then 1 else 0) := by cases b <;> cases c <;> first | exact absurd rfl s | decide
    rw [if_pos hne]
    obtain ⟨r2, e2, h2⟩ := tq_order_spec (a := 0) (b := 1) (by omega) (by omega) hw
    have e2' : m_order f 0 1 = some r2 := e2
    rw [tq_bd_e e2']
    rw [hX, hY] at h2
    have hc : c = !b := by cases b <;> cases c <;> first | exact absurd rfl s | rfl
    by_cases q : X < Y
    · have : r2 = -1 := by rcases h2 with ⟨a, d⟩ | ⟨a, d⟩ | ⟨a, d⟩ <;> first | exact d | omega
      rw [if_pos (by rw [this]; decide)]
      obtain ⟨g, e, w, fr, h⟩ := tq_apart_spec (a := 1) (b := 0) (t := 0) (by omega) (by omega) (by omega) hw (by rw [hX, hY]; omega)
      have e' : m_apart f 1 0 0 = some g := e
      rw [tq_bd_e e']
      refine ⟨_, g, rfl, w, ?_, ?_, ?_⟩
      · rw [h, hX, hY, hc]; unfold tq_sg; cases b <;> simp <;> omega
      · rw [hc]; intro z; cases b
        · decide
        · unfold tq_sg at z; simp at z; omega
      · rw [hc]; intro z; cases b
        · unfold tq_sg at z; simp at z; omega
        · decide
    · have : ¬ r2 < 0 := by rcases h2 with ⟨a, d⟩ | ⟨a, d⟩ | ⟨a, d⟩ <;> first | omega | (rw [d]; decide)
      rw [if_neg this]
      obtain ⟨g, e, w, fr, h⟩ := tq_apart_spec (a := 0) (b := 1) (t := 0) (by omega) (by omega) (by omega) hw (by rw [hX, hY]; omega)
      have e' : m_apart f 0 1 0 = some g := e
      rw [tq_bd_e e']
      refine ⟨_, g, rfl, w, ?_, ?_, ?_⟩
      · rw [h, hX, hY, hc]; unfold tq_sg; cases b <;> simp <;> omega
      · rw [hc]; intro z; cases b
        · unfold tq_sg at z; simp at z; omega
        · decide
      · rw [hc]; intro z; cases b
        · decide
        · unfold tq_sg at z; simp at z; omega
theorem tq_sg_scale (b : Bool) (x k : Nat) : tq_sg b (x * k) = tq_sg b x * (k : Int) := by
  unfold tq_sg; cases b <;> simp [Int.neg_mul]
/-- joined, with its factor, rounded -/
theorem tq_jr_spec {nz : Int32} {n : Nat} (h : tq_Sz nz n) {f : Nat → Int32} (hw : tq_WL 200 f) {X Y : Nat} (hX : tq_rv f (40 * 0) 40 = X) (hY : tq_rv f (40 * 1) 40 = Y) (hXY : X + Y < 2 ^ 640) (b c : Bool) {sq pw : Int32} {k : Nat} (hk : pw.toInt = k) (hk2 : k ≤ 124) {v : Int} {G : Nat} (hv : tq_sg b X + tq_sg c Y = v * (G : Int)) (hG0 : 0 < G) {k1 k2 : Nat} (hkk : (k2 : Int) - k1 = 140 - 8 * n) (hG : G * 2 ^ k1 = 2 ^ k * 2 ^ k2) :
    ∃ r0 g0 g1 r g2, m_joined f (if b then 1 else 0) (if c then 1 else 0) = some (r0, g0) ∧ m_factor sq g0 pw = some (0, g1) ∧ m_rounded 0 g1 r0 nz = some (r, g2) ∧ tq_WL 200 g2 ∧ r.toInt = tq_rI n v := by
  obtain ⟨r0, g0, e0, w0, h0, s1, s2⟩ := tq_joined_spec hw hX hY hXY b c
  obtain ⟨g1, e1, w1, fr1, h1⟩ := tq_mfactor_spec w0 sq hk (by omega)
  have hE : tq_rv g1 (40 * 0) 40 = v.natAbs * G := by
    rw [tq_Fr_rv fr1 (by omega), h0, hv, Int.natAbs_mul]; rfl
  obtain ⟨r, g2, e2, w2, hr⟩ := tq_ref_S h r0 w1 hE h1 (Nat.two_pow_pos _) (Nat.pow_le_pow_right (by omega) (by omega)) hkk (A := v.natAbs) (by rw [Nat.mul_assoc, hG, Nat.mul_assoc])
  refine ⟨r0, g0, g1, r, g2, e0, e1, e2, w2, ?_⟩
  rw [hr, tq_rI_sign (v := v) (mi := r0)]
  · intro z; apply s1; rw [hv]
    exact Int.mul_neg_of_neg_of_pos z (by omega)
  · intro z; apply s2; rw [hv]
    exact Int.mul_pos z (by omega)
theorem tq_ans_not1 {n b : Nat} : tq_ansS n (tq_incS n (2 ^ (16 * n - 1)) b) = -2 ^ (n - 1) := by
  have e : tq_incS n (2 ^ (16 * n - 1)) b = 2 ^ (16 * n - 1) := by unfold tq_incS; rw [if_pos (.inl rfl)]
  rw [e]; unfold tq_ansS; rw [if_pos rfl]
theorem tq_ans_not2 {n a : Nat} : tq_ansS n (tq_incS n a (2 ^ (16 * n - 1))) = -2 ^ (n - 1) := by
  have e : tq_incS n a (2 ^ (16 * n - 1)) = 2 ^ (16 * n - 1) := by unfold tq_incS; rw [if_pos (.inr rfl)]
  rw [e]; unfold tq_ansS; rw [if_pos rfl]
theorem tq_prod_not1 {n : Nat} {q : Int} : tq_prodS n (-2 ^ (n - 1)) q = 2 ^ (16 * n - 1) := by unfold tq_prodS; rw [if_pos (.inl rfl)]
theorem tq_prod_not2 {n : Nat} {p : Int} : tq_prodS n p (-2 ^ (n - 1)) = 2 ^ (16 * n - 1) := by unfold tq_prodS; rw [if_pos (.inr rfl)]
theorem tq_not_ne {n : Nat} (hn : n = 8 ∨ n = 16 ∨ n = 32) {p : Int} (hr : -2 ^ (n - 1) ≤ p ∧ p < 2 ^ (n - 1)) (h : p ≠ -2 ^ (n - 1)) : -2 ^ (n - 1) < p ∧ p < 2 ^ (n - 1) := by omega
theorem tq_one_rng {n : Nat} (hn : n = 8 ∨ n = 16 ∨ n = 32) : -2 ^ (n - 1) < (2 ^ (n - 2) : Int) ∧ (2 ^ (n - 2) : Int) < 2 ^ (n - 1) := by rcases hn with rfl | rfl | rfl <;> decide
theorem tq_iv_one {n : Nat} (hn : n = 8 ∨ n = 16 ∨ n = 32) : tq_iv n (2 ^ (n - 2)) = ((2 ^ (4 * n - 8) : Nat) : Int) := by
  unfold tq_iv tq_sg
  have h1 : ¬ ((2 ^ (n - 2) : Int) < 0) := by rcases hn with rfl | rfl | rfl <;> decide
  have h2 : (2 ^ (n - 2) : Int).natAbs = 2 ^ (n - 2) := by rcases hn with rfl | rfl | rfl <;> rfl
  rw [decide_eq_false h1, if_neg (by decide), h2, tq_mag_one hn]
/-- the class's fused, as an integer rounded -/
theorem tq_fused_int {n : Nat} (hn : n = 8 ∨ n = 16 ∨ n = 32) {p q z : Int} (hp : -2 ^ (n - 1) < p ∧ p < 2 ^ (n - 1)) (hq : -2 ^ (n - 1) < q ∧ q < 2 ^ (n - 1)) (hz : -2 ^ (n - 1) < z ∧ z < 2 ^ (n - 1)) :
    tq_ansS n (tq_incS n (tq_prodS n p q) (tq_prodS n z (2 ^ (n - 2)))) = tq_rI n (tq_iv n p * tq_iv n q + tq_iv n z * ((2 ^ (4 * n - 8) : Nat) : Int)) := by
  have h1 := tq_isS_prod hn hp hq
  have h2 := tq_isS_prod hn hz (tq_one_rng hn)
  rw [tq_iv_one hn] at h2
  refine tq_ans_isS (tq_isS_inc hn h1 h2 ?_)
  have b1 := tq_prod_abs hn hp hq
  have b2 := tq_prod_abs hn hz (tq_one_rng hn)
  rw [tq_iv_one hn] at b2
  have hlt : 2 * 2 ^ (16 * n - 32) < 2 ^ (16 * n - 1) := by
    have h := Nat.pow_add 2 1 (16 * n - 32)
    have : 2 ^ (1 + (16 * n - 32)) < 2 ^ (16 * n - 1) := Nat.pow_lt_pow_right (by omega) (by omega)
    rw [h] at this; exact this
  generalize 2 ^ (16 * n - 32) = X at *
  generalize 2 ^ (16 * n - 1) = Y at *
  generalize tq_iv n p * tq_iv n q = a at *
  generalize tq_iv n z * ((2 ^ (4 * n - 8) : Nat) : Int) = b at *
  omega
end
section
theorem tq_n640 {a b k : Nat} (ha : a ≤ 2 ^ k) (hb : b ≤ 2 ^ k) (hk : k ≤ 600) : a + b < 2 ^ 640 := by
  have h1 := Nat.pow_add 2 1 k
  have h2 : 2 ^ (1 + k) < 2 ^ 640 := Nat.pow_lt_pow_right (by omega) (by omega)
  rw [h1] at h2
  generalize 2 ^ 640 = X at *
  generalize 2 ^ k = Y at *
  omega
theorem tq_mg_bd {n : Nat} {p : Int} {U : Nat} (hn : n = 8 ∨ n = 16 ∨ n = 32) (hp : -2 ^ (n - 1) < p ∧ p < 2 ^ (n - 1)) (hU : 4 * n - 8 ≤ U) : tq_mag n p.natAbs * 2 ^ (U - (4 * n - 8)) ≤ 2 ^ (4 * n - 8 + U) := by
  have := Nat.mul_le_mul_right (2 ^ (U - (4 * n - 8))) (tq_mag_le hn hp)
  rw [← Nat.pow_add, show 8 * n - 16 + (U - (4 * n - 8)) = 4 * n - 8 + U by omega] at this
  exact this
theorem tq_mfused_spec {nz : Int32} {n : Nat} (h : tq_Sz nz n) {f : Nat → Int32} (hw : tq_WL 200 f) (sq x y z : Int32) :
    ∃ r s g, m_fused nz sq f x y z = some (r, s, g) ∧ tq_WL 200 g ∧ r.toInt = tq_ansS n (tq_incS n (tq_prodS n (tq_pat n x) (tq_pat n y)) (tq_prodS n (tq_pat n z) (2 ^ (n - 2)))) := by
  have hn := h.2
  unfold m_fused m_fused_b24
  have rx := tq_pat_rng (x := x) hn
  have ry := tq_pat_rng (x := y) hn
  have rz := tq_pat_rng (x := z) hn
  by_cases nx : tq_pat n x = -2 ^ (n - 1)
  · rw [if_pos (show ¬ m_isNot nz x = 0 from fun w => (tq_misNot_spec h x).1 w nx)]
    exact ⟨_, _, _, rfl, hw, by rw [tq_mnot_spec h, nx, tq_prod_not1, tq_ans_not1]⟩
  · rw [if_neg (show ¬ ¬ m_isNot nz x = 0 from fun w => w ((tq_misNot_spec h x).2 nx))]
    by_cases ny : tq_pat n y = -2 ^ (n - 1)
    · rw [if_pos (show ¬ m_isNot nz y = 0 from fun w => (tq_misNot_spec h y).1 w ny)]
      exact ⟨_, _, _, rfl, hw, by rw [tq_mnot_spec h, ny, tq_prod_not2, tq_ans_not1]⟩
    · rw [if_neg (show ¬ ¬ m_isNot nz y = 0 from fun w => w ((tq_misNot_spec h y).2 ny))]
      by_cases nzz : tq_pat n z = -2 ^ (n - 1)
      · rw [if_neg (show ¬ m_isNot nz z = 0 from fun w => (tq_misNot_spec h z).1 w nzz)]
        exact ⟨_, _, _, rfl, hw, by rw [tq_mnot_spec h, nzz, tq_prod_not1, tq_ans_not2]⟩
      · rw [if_pos ((tq_misNot_spec h z).2 nzz)]
        have px := tq_not_ne hn rx nx
        have py := tq_not_ne hn ry ny
        have pz := tq_not_ne hn rz nzz
        have hU : 4 * n - 8 ≤ 124 ∧ 124 ≤ 200 := by omega
        obtain ⟨g1, e1, w1, fr1, h1⟩ := tq_mload_spec (r := 1) (by omega) h hw x nx (un := 124) (U := 124) rfl hU
        have e1' : m_load nz f 1 x 124 = some g1 := e1
        obtain ⟨g2, e2, w2, fr2, h2⟩ := tq_mload_spec (r := 2) (by omega) h w1 y ny (un := 124) (U := 124) rfl hU
        have e2' : m_load nz g1 2 y 124 = some g2 := e2
        obtain ⟨g3, e3, w3, fr3, h3⟩ := tq_times_spec (a := 1) (b := 2) (t := 0) (by omega) (by omega) (by omega) (by omega) (by omega) w2
        have e3' : m_times g2 1 2 0 = some g3 := e3
        obtain ⟨g4, e4, w4, fr4, h4⟩ := tq_mload_spec (r := 1) (by omega) h w3 z nzz (un := 124) (U := 124) rfl hU
        have e4' : m_load nz g3 1 z 124 = some g4 := e4
        obtain ⟨g5, e5, w5, fr5, h5⟩ := tq_raise_spec (r := 1) (by omega) w4 (my := 124) (k := 124) rfl (by omega)
        have e5' : m_raise g4 1 124 = some g5 := e5
        rw [tq_bd_e e1', tq_bd_e e2', tq_bd_e e3', tq_bd_e e4', tq_bd_e e5']
        have bx := tq_mg_bd (U := 124) hn px hU.1
        have by' := tq_mg_bd (U := 124) hn py hU.1
        have bz := tq_mg_bd (U := 124) hn pz hU.1
        have hX : tq_rv g5 (40 * 0) 40 = tq_mag n (tq_pat n x).natAbs * 2 ^ (124 - (4 * n - 8)) * (tq_mag n (tq_pat n y).natAbs * 2 ^ (124 - (4 * n - 8))) := by
          rw [tq_Fr_rv fr5 (by omega), tq_Fr_rv fr4 (by omega), h3, h2, tq_Fr_rv fr2 (by omega), h1, Nat.mod_eq_of_lt]
          refine Nat.lt_of_le_of_lt (Nat.mul_le_mul bx by') ?_
          rw [← Nat.pow_add]; exact Nat.pow_lt_pow_right (by omega) (by omega)
        have hY : tq_rv g5 (40 * 1) 40 = tq_mag n (tq_pat n z).natAbs * 2 ^ (124 - (4 * n - 8)) * 2 ^ 124 := by
          rw [h5, h4, Nat.mod_eq_of_lt]
          refine Nat.lt_of_le_of_lt (Nat.mul_le_mul_right _ bz) ?_
          rw [← Nat.pow_add]; exact Nat.pow_lt_pow_right (by omega) (by omega)
        have hXY : tq_mag n (tq_pat n x).natAbs * 2 ^ (124 - (4 * n - 8)) * (tq_mag n (tq_pat n y).natAbs * 2 ^ (124 - (4 * n - 8))) + tq_mag n (tq_pat n z).natAbs * 2 ^ (124 - (4 * n - 8)) * 2 ^ 124 < 2 ^ 640 := by
          refine tq_n640 (k := 500) (Nat.le_trans (Nat.mul_le_mul bx by') ?_) (Nat.le_trans (Nat.mul_le_mul_right _ bz) ?_) (by omega)
          · rw [← Nat.pow_add]; exact Nat.pow_le_pow_right (by omega) (by omega)
          · rw [← Nat.pow_add]; exact Nat.pow_le_pow_right (by omega) (by omega)
        rw [tq_fused_int hn px py pz]
        have fin : ∀ b : Bool, b = (decide (tq_pat n x < 0) != decide (tq_pat n y < 0)) → ∃ r s g, m_fused_b89 nz z (if b then 1 else 0) sq g5 = some (r, s, g) ∧ tq_WL 200 g ∧ r.toInt = tq_rI n (tq_iv n (tq_pat n x) * tq_iv n (tq_pat n y) + tq_iv n (tq_pat n z) * ((2 ^ (4 * n - 8) : Nat) : Int)) := by
          intro b hb
          have hv : tq_sg b (tq_mag n (tq_pat n x).natAbs * 2 ^ (124 - (4 * n - 8)) * (tq_mag n (tq_pat n y).natAbs * 2 ^ (124 - (4 * n - 8)))) + tq_sg (decide (tq_pat n z < 0)) (tq_mag n (tq_pat n z).natAbs * 2 ^ (124 - (4 * n - 8)) * 2 ^ 124) = (tq_iv n (tq_pat n x) * tq_iv n (tq_pat n y) + tq_iv n (tq_pat n z) * ((2 ^ (4 * n - 8) : Nat) : Int)) * ((2 ^ (124 - (4 * n - 8)) * 2 ^ (124 - (4 * n - 8)) : Nat) : Int) := by
            have ea : tq_mag n (tq_pat n x).natAbs * 2 ^ (124 - (4 * n - 8)) * (tq_mag n (tq_pat n y).natAbs * 2 ^ (124 - (4 * n - 8))) = tq_mag n (tq_pat n x).natAbs * tq_mag n (tq_pat n y).natAbs * (2 ^ (124 - (4 * n - 8)) * 2 ^ (124 - (4 * n - 8))) := Nat.mul_mul_mul_comm _ _ _ _
            have eb : tq_mag n (tq_pat n z).natAbs * 2 ^ (124 - (4 * n - 8)) * 2 ^ 124 = tq_mag n (tq_pat n z).natAbs * 2 ^ (4 * n - 8) * (2 ^ (124 - (4 * n - 8)) * 2 ^ (124 - (4 * n - 8))) := by
              have : 2 ^ 124 = 2 ^ (4 * n - 8) * 2 ^ (124 - (4 * n - 8)) := by rw [← Nat.pow_add, show 4 * n - 8 + (124 - (4 * n - 8)) = 124 by omega]
              rw [this]
              generalize 2 ^ (124 - (4 * n - 8)) = K
              generalize 2 ^ (4 * n - 8) = O
              ac_rfl
            rw [ea, eb, hb, tq_sg_scale _ (tq_mag n (tq_pat n x).natAbs * tq_mag n (tq_pat n y).natAbs), ← tq_sg_mul, tq_sg_scale _ (tq_mag n (tq_pat n z).natAbs * 2 ^ (4 * n - 8)), tq_sg_scale _ (tq_mag n (tq_pat n z).natAbs), ← Int.add_mul]
            rfl
          obtain ⟨r0, g6, g7, r, g8, j1, j2, j3, w8, hr⟩ := tq_jr_spec h w5 hX hY hXY b (decide (tq_pat n z < 0)) (sq := sq) (pw := 124) (k := 124) rfl (by omega) hv (Nat.mul_pos (Nat.two_pow_pos _) (Nat.two_pow_pos _)) (k1 := 4 * n - 8) (k2 := 132 - 4 * n) (by omega) (by rw [← Nat.pow_add, ← Nat.pow_add, ← Nat.pow_add, show 124 - (4 * n - 8) + (124 - (4 * n - 8)) + (4 * n - 8) = 124 + (132 - 4 * n) by omega])
          refine ⟨r, 0, g8, ?_, w8, hr⟩
          unfold m_fused_b89
          rw [tq_mneg_spec h z, tq_bd_e j1, tq_nm_e, tq_nm_e, tq_bd_e j2, tq_nm_e, tq_nm_e, tq_bd_e j3]
          rfl
        rw [tq_mneg_spec h x, tq_mneg_spec h y]
        by_cases s : decide (tq_pat n x < 0) = decide (tq_pat n y < 0)
        · rw [s, if_pos rfl]
          exact fin false (by rw [s]; simp)
        · have hne : ¬ ((if decide (tq_pat n x < 0) = true then (1 : Int32) else 0) = if decide (tq_pat n y < 0) = true then 1 else 0) := by
            cases hq : decide (tq_pat n x < 0) <;> cases hq2 : decide (tq_pat n y < 0) <;> first | (rw [hq, hq2] at s; exact absurd rfl s) | decide
          rw [if_neg hne]
          exact fin true (by cases hq : decide (tq_pat n x < 0) <;> cases hq2 : decide (tq_pat n y < 0) <;> first | (rw [hq, hq2] at s; exact absurd rfl s) | rfl)
theorem tq_mmultiply_spec {nz : Int32} {n : Nat} (h : tq_Sz nz n) {f : Nat → Int32} (hw : tq_WL 200 f) (sq x y : Int32) :
    ∃ r s g, m_multiply nz sq f x y = some (r, s, g) ∧ tq_WL 200 g ∧ r.toInt = tq_ansS n (tq_incS n (tq_prodS n (tq_pat n x) (tq_pat n y)) (tq_prodS n 0 (2 ^ (n - 2)))) := by
  unfold m_multiply
  obtain ⟨r, s, g, e, w, hr⟩ := tq_mfused_spec h hw sq x y 0
  have : tq_pat n 0 = 0 := by rcases h.2 with rfl | rfl | rfl <;> decide
  rw [this] at hr
  rw [tq_bd_e e]
  exact ⟨r, s, g, rfl, w, hr⟩

theorem tq_mtogether_spec {nz : Int32} {n : Nat} (h : tq_Sz nz n) {f : Nat → Int32} (hw : tq_WL 200 f) (sq x y : Int32) (tu : Bool) :
    ∃ r s g, m_together nz sq f x y (if tu then 1 else 0) = some (r, s, g) ∧ tq_WL 200 g ∧ ((tq_pat n x = -2 ^ (n - 1) ∨ tq_pat n y = -2 ^ (n - 1)) → r.toInt = -2 ^ (n - 1)) ∧
      (tq_pat n x ≠ -2 ^ (n - 1) → tq_pat n y ≠ -2 ^ (n - 1) → r.toInt = tq_rI n ((tq_iv n (tq_pat n x) + (if tu then -tq_iv n (tq_pat n y) else tq_iv n (tq_pat n y))) * ((2 ^ (4 * n - 8) : Nat) : Int))) := by
  have hn := h.2
  unfold m_together m_together_b16
  have rx := tq_pat_rng (x := x) hn
  have ry := tq_pat_rng (x := y) hn
  by_cases nx : tq_pat n x = -2 ^ (n - 1)
  · rw [if_pos (show ¬ m_isNot nz x = 0 from fun w => (tq_misNot_spec h x).1 w nx)]
    exact ⟨_, _, _, rfl, hw, fun _ => tq_mnot_spec h, fun w => absurd nx w⟩
  · rw [if_neg (show ¬ ¬ m_isNot nz x = 0 from fun w => w ((tq_misNot_spec h x).2 nx))]
    by_cases ny : tq_pat n y = -2 ^ (n - 1)
    · rw [if_neg (show ¬ m_isNot nz y = 0 from fun w => (tq_misNot_spec h y).1 w ny)]
      exact ⟨_, _, _, rfl, hw, fun _ => tq_mnot_spec h, fun _ w => absurd ny w⟩
    · rw [if_pos ((tq_misNot_spec h y).2 ny)]
      have px := tq_not_ne hn rx nx
      have py := tq_not_ne hn ry ny
      have hU : 4 * n - 8 ≤ 124 ∧ 124 ≤ 200 := by omega
      obtain ⟨g1, e1, w1, fr1, h1⟩ := tq_mload_spec (r := 0) (by omega) h hw x nx (un := 124) (U := 124) rfl hU
      have e1' : m_load nz f 0 x 124 = some g1 := e1
      obtain ⟨g2, e2, w2, fr2, h2⟩ := tq_mload_spec (r := 1) (by omega) h w1 y ny (un := 124) (U := 124) rfl hU
      have e2' : m_load nz g1 1 y 124 = some g2 := e2
      rw [tq_bd_e e1', tq_bd_e e2']
      have bx := tq_mg_bd (U := 124) hn px hU.1
      have by' := tq_mg_bd (U := 124) hn py hU.1
      have hX : tq_rv g2 (40 * 0) 40 = tq_mag n (tq_pat n x).natAbs * 2 ^ (124 - (4 * n - 8)) := by rw [tq_Fr_rv fr2 (by omega), h1]
      have hXY : tq_mag n (tq_pat n x).natAbs * 2 ^ (124 - (4 * n - 8)) + tq_mag n (tq_pat n y).natAbs * 2 ^ (124 - (4 * n - 8)) < 2 ^ 640 := tq_n640 bx by' (by omega)
      have fin : ∀ c : Bool, c = (decide (tq_pat n y < 0) != tu) → ∃ r s g, m_together_b60 nz (if c then 1 else 0) (m_negative nz x) sq g2 = some (r, s, g) ∧ tq_WL 200 g ∧ r.toInt = tq_rI n ((tq_iv n (tq_pat n x) + (if tu then -tq_iv n (tq_pat n y) else tq_iv n (tq_pat n y))) * ((2 ^ (4 * n - 8) : Nat) : Int)) := by
        intro c hc
        have hs2 : tq_sg c (tq_mag n (tq_pat n y).natAbs) = if tu then -tq_iv n (tq_pat n y) else tq_iv n (tq_pat n y) := by
          rw [hc]; unfold tq_iv tq_sg
          cases hq : decide (tq_pat n y < 0) <;> cases tu <;> simp
        have hv : tq_sg (decide (tq_pat n x < 0)) (tq_mag n (tq_pat n x).natAbs * 2 ^ (124 - (4 * n - 8))) + tq_sg c (tq_mag n (tq_pat n y).natAbs * 2 ^ (124 - (4 * n - 8))) = (tq_iv n (tq_pat n x) + (if tu then -tq_iv n (tq_pat n y) else tq_iv n (tq_pat n y))) * ((2 ^ (124 - (4 * n - 8)) : Nat) : Int) := by
          rw [tq_sg_scale, tq_sg_scale, hs2, ← Int.add_mul]; rfl
        -- in the class's units
        obtain ⟨r0, g6, e6, w6, h6, s1, s2⟩ := tq_joined_spec w2 hX h2 hXY (decide (tq_pat n x < 0)) c
        obtain ⟨g7, e7, w7, fr7, h7⟩ := tq_mfactor_spec w6 sq (pw := 0) (k := 0) rfl (by omega)
        rw [hv] at h6 s1 s2
        generalize tq_iv n (tq_pat n x) + (if tu then -tq_iv n (tq_pat n y) else tq_iv n (tq_pat n y)) = v at *
        have hE : tq_rv g7 (40 * 0) 40 = v.natAbs * 2 ^ (124 - (4 * n - 8)) := by rw [tq_Fr_rv fr7 (by omega), h6, Int.natAbs_mul]; rfl
        obtain ⟨r, g8, e8, w8, hr⟩ := tq_ref_S h r0 w7 hE h7 (by decide) (by rw [Nat.pow_zero]; exact Nat.two_pow_pos _) (k1 := 4 * n - 8) (k2 := 132 - 4 * n) (A := v.natAbs * 2 ^ (4 * n - 8)) (by omega) (by
          rw [Nat.pow_zero, Nat.mul_one, Nat.mul_assoc, Nat.mul_assoc, ← Nat.pow_add, ← Nat.pow_add, show 124 - (4 * n - 8) + (4 * n - 8) = 4 * n - 8 + (132 - 4 * n) by omega])
        refine ⟨r, 0, g8, ?_, w8, ?_⟩
        · unfold m_together_b60
          rw [tq_mneg_spec h x, tq_bd_e e6, tq_nm_e, tq_nm_e, tq_bd_e e7, tq_nm_e, tq_nm_e, tq_bd_e e8]
          rfl
        · have pK : (0 : Int) < ((2 ^ (124 - (4 * n - 8)) : Nat) : Int) := by have := Nat.two_pow_pos (124 - (4 * n - 8)); omega
          have pO : (0 : Int) < ((2 ^ (4 * n - 8) : Nat) : Int) := by have := Nat.two_pow_pos (4 * n - 8); omega
          have eA : (v * ((2 ^ (4 * n - 8) : Nat) : Int)).natAbs = v.natAbs * 2 ^ (4 * n - 8) := by rw [Int.natAbs_mul]; rfl
          rw [hr, tq_rI_sign (v := v * ((2 ^ (4 * n - 8) : Nat) : Int)) (mi := r0), eA]
          · intro z
            have vz : v < 0 := by
              rcases Int.lt_or_le v 0 with w | w
              · exact w
              · have := Int.mul_nonneg w (Int.le_of_lt pO); omega
            exact s1 (Int.mul_neg_of_neg_of_pos vz pK)
          · intro z
            have vz : 0 < v := by
              rcases Int.lt_or_le 0 v with w | w
              · exact w
              · have := Int.mul_nonpos_of_nonpos_of_nonneg w (Int.le_of_lt pO); omega
            exact s2 (Int.mul_pos vz pK)
      have done : ∃ r s g, (if m_negative nz y = (if tu then (1 : Int32) else 0) then m_together_b60 nz 0 (m_negative nz x) sq g2 else m_together_b60 nz 1 (m_negative nz x) sq g2) = some (r, s, g) ∧ tq_WL 200 g ∧ r.toInt = tq_rI n ((tq_iv n (tq_pat n x) + (if tu then -tq_iv n (tq_pat n y) else tq_iv n (tq_pat n y))) * ((2 ^ (4 * n - 8) : Nat) : Int)) := by
        rw [tq_mneg_spec h y]
        by_cases s : decide (tq_pat n y < 0) = tu
        · rw [s, if_pos rfl]
          exact fin false (by rw [s]; simp)
        · have hne : ¬ ((if decide (tq_pat n y < 0) = true then (1 : Int32) else 0) = if tu = true then 1 else 0) := by
            cases hq : decide (tq_pat n y < 0) <;> cases hq2 : tu <;> first | (rw [hq, hq2] at s; exact absurd rfl s) | decide
          rw [if_neg hne]
          exact fin true (by cases hq : decide (tq_pat n y < 0) <;> cases hq2 : tu <;> first | (rw [hq, hq2] at s; exact absurd rfl s) | rfl)
      obtain ⟨r, s, g, d1, d2, d3⟩ := done
      exact ⟨r, s, g, d1, d2, fun w => absurd w (by rintro (z | z); exact nx z; exact ny z), fun _ _ => d3⟩
end
section
theorem tq_u32_neg (y : Int32) : (tq_u32 (-y) : Int) = (-(tq_u32 y : Int)) % 2 ^ 32 := by
  have h1 := tq_u32_i (-y)
  have h2 := tq_u32_i y
  rw [Int32.toInt_neg] at h1
  have d : ((-y.toInt).bmod (2 ^ 32)) % 2 ^ 32 = (-y.toInt) % 2 ^ 32 := Int.bmod_emod (m := 2 ^ 32) ..
  omega
theorem tq_pat_neg {n : Nat} (hn : n = 8 ∨ n = 16 ∨ n = 32) (y : Int32) : (tq_pat n y = -2 ^ (n - 1) → tq_pat n (-y) = -2 ^ (n - 1)) ∧ (tq_pat n y ≠ -2 ^ (n - 1) → tq_pat n (-y) = -tq_pat n y) := by
  have h := tq_u32_neg y
  have l1 := tq_u32_lt y
  have l2 := tq_u32_lt (-y)
  unfold tq_pat
  rcases hn with rfl | rfl | rfl
  · constructor <;> (intro w; split at w <;> split <;> omega)
  · constructor <;> (intro w; split at w <;> split <;> omega)
  · constructor <;> (intro w; split at w <;> split <;> omega)
theorem tq_iv_neg (n : Nat) (hn : n = 8 ∨ n = 16 ∨ n = 32) (p : Int) : tq_iv n (-p) = -tq_iv n p := by
  have e : (-p).natAbs = p.natAbs := by omega
  unfold tq_iv tq_sg
  rw [e]
  rcases Int.lt_trichotomy p 0 with q | q | q
  · rw [decide_eq_false (by omega), decide_eq_true q]; simp
  · subst q
    have : tq_mag n (0 : Int).natAbs = 0 := tq_mag_eq hn (.inl ⟨rfl, rfl⟩)
    rw [this]; rfl
  · rw [decide_eq_true (by omega), decide_eq_false (by omega)]; simp
theorem tq_madd_spec {nz : Int32} {n : Nat} (h : tq_Sz nz n) {f : Nat → Int32} (hw : tq_WL 200 f) (sq x y : Int32) :
    ∃ r s g, m_add nz sq f x y = some (r, s, g) ∧ tq_WL 200 g ∧ r.toInt = tq_ansS n (tq_incS n (tq_prodS n (tq_pat n x) (2 ^ (n - 2))) (tq_prodS n (tq_pat n y) (2 ^ (n - 2)))) := by
  have hn := h.2
  unfold m_add
  obtain ⟨r, s, g, e, w, h1, h2⟩ := tq_mtogether_spec h hw sq x y false
  have e' : m_together nz sq f x y 0 = some (r, s, g) := e
  rw [tq_bd_e e']
  refine ⟨r, s, g, rfl, w, ?_⟩
  by_cases nx : tq_pat n x = -2 ^ (n - 1)
  · rw [h1 (.inl nx), nx, tq_prod_not1, tq_ans_not1]
  · by_cases ny : tq_pat n y = -2 ^ (n - 1)
    · rw [h1 (.inr ny), ny, tq_prod_not1, tq_ans_not2]
    · rw [h2 nx ny, tq_fused_int hn (tq_not_ne hn (tq_pat_rng hn) nx) (tq_one_rng hn) (tq_not_ne hn (tq_pat_rng hn) ny), tq_iv_one hn, Int.add_mul]; rfl
theorem tq_msubtract_spec {nz : Int32} {n : Nat} (h : tq_Sz nz n) {f : Nat → Int32} (hw : tq_WL 200 f) (sq x y : Int32) :
    ∃ r s g, m_subtract nz sq f x y = some (r, s, g) ∧ tq_WL 200 g ∧ r.toInt = tq_ansS n (tq_incS n (tq_prodS n (tq_pat n x) (2 ^ (n - 2))) (tq_prodS n (tq_pat n (-y)) (2 ^ (n - 2)))) := by
  have hn := h.2
  unfold m_subtract
  obtain ⟨r, s, g, e, w, h1, h2⟩ := tq_mtogether_spec h hw sq x y true
  have e' : m_together nz sq f x y 1 = some (r, s, g) := e
  rw [tq_bd_e e']
  refine ⟨r, s, g, rfl, w, ?_⟩
  by_cases nx : tq_pat n x = -2 ^ (n - 1)
  · rw [h1 (.inl nx), nx, tq_prod_not1, tq_ans_not1]
  · by_cases ny : tq_pat n y = -2 ^ (n - 1)
    · rw [h1 (.inr ny), (tq_pat_neg hn y).1 ny, tq_prod_not1, tq_ans_not2]
    · have ey := (tq_pat_neg hn y).2 ny
      have py := tq_not_ne hn (tq_pat_rng (x := y) hn) ny
      rw [h2 nx ny, ey, tq_fused_int hn (tq_not_ne hn (tq_pat_rng hn) nx) (tq_one_rng hn) (by omega), tq_iv_one hn, tq_iv_neg n hn, Int.add_mul]; rfl
theorem tq_mfromLong_spec {nz : Int32} {n : Nat} (h : tq_Sz nz n) {f : Nat → Int32} (hw : tq_WL 200 f) (sq : Int32) (v : Int64) :
    ∃ r s g, m_fromLong nz sq f v = some (r, s, g) ∧ tq_WL 200 g ∧ r.toInt = if v.toInt = -2 ^ 63 then -2 ^ (n - 1) else tq_sg (decide (v.toInt < 0)) (tq_rM n v.toInt.natAbs 0 false) := by
  have hn := h.2
  have hr := tq_i64_rng v
  have c0 : ((0 : Int64)).toInt = 0 := rfl
  unfold m_fromLong
  have main : v.toInt ≠ -2 ^ 63 → ∃ r s g, m_fromLong_b21 nz v sq f = some (r, s, g) ∧ tq_WL 200 g ∧ r.toInt = tq_sg (decide (v.toInt < 0)) (tq_rM n v.toInt.natAbs 0 false) := by
    intro hv
    have tail : ∀ a : Int64, a.toInt = (v.toInt.natAbs : Int) → ∃ r s g, m_fromLong_b35 nz v a 0 sq f = some (r, s, g) ∧ tq_WL 200 g ∧ r.toInt = tq_sg (decide (v.toInt < 0)) (tq_rM n v.toInt.natAbs 0 false) := by
      intro a ha
      unfold m_fromLong_b35
      obtain ⟨g1, e1, w1, fr1, h1⟩ := tq_setLong_spec (r := 0) (by omega) hw a
      have e1' : m_setLong f 0 a = some g1 := e1
      obtain ⟨g2, e2, w2, fr2, h2⟩ := tq_raise_spec (r := 0) (by omega) w1 (my := 124) (k := 124) rfl (by omega)
      have e2' : m_raise g1 0 124 = some g2 := e2
      obtain ⟨g3, e3, w3, fr3, h3⟩ := tq_mfactor_spec w2 sq (pw := 0) (k := 0) rfl (by omega)
      rw [tq_bd_e e1', tq_bd_e e2', tq_bd_e e3, tq_nm_e, tq_nm_e]
      have hA64 : v.toInt.natAbs < 2 ^ 64 := by omega
      have hE : tq_rv g3 (40 * 0) 40 = v.toInt.natAbs * 2 ^ 124 := by
        rw [tq_Fr_rv fr3 (by omega), h2, h1, tq_u64_of_i ha, Nat.mod_eq_of_lt]
        have := Nat.mul_lt_mul_of_pos_right hA64 (Nat.two_pow_pos 124)
        rw [← Nat.pow_add] at this
        exact Nat.lt_trans this (Nat.pow_lt_pow_right (by omega) (by omega))
      have fin : ∀ mi : Int32, ((v.toInt < 0) ↔ mi ≠ 0) → ∃ r s g, m_fromLong_b62 nz mi 0 g3 = some (r, s, g) ∧ tq_WL 200 g ∧ r.toInt = tq_sg (decide (v.toInt < 0)) (tq_rM n v.toInt.natAbs 0 false) := by
        intro mi hmi
        obtain ⟨r, g4, e4, w4, hr4⟩ := tq_ref_M h mi w3 hE h3 (by decide) (by rw [Nat.pow_zero]; exact Nat.two_pow_pos _) hA64 (e := 0) (k1 := 0) (k2 := 124) (by omega) (by rw [Nat.pow_zero, Nat.mul_one, Nat.mul_one])
        refine ⟨r, 0, g4, ?_, w4, ?_⟩
        · unfold m_fromLong_b62; rw [tq_bd_e e4]; rfl
        · rw [hr4]; unfold tq_sg
          by_cases q : v.toInt < 0
          · rw [if_neg (hmi.1 q), decide_eq_true q, if_pos rfl]
          · have : mi = 0 := by
              by_cases z : mi = 0
              · exact z
              · exact absurd (hmi.2 z) q
            rw [if_pos this, decide_eq_false q, if_neg (by decide)]
      by_cases q : 0 ≤ lg_cmp v 0
      · rw [if_pos q]; rw [tq_cmp_ge, c0] at q
        exact fin 0 ⟨fun w => by omega, fun w => absurd rfl w⟩
      · rw [if_neg q]; rw [tq_cmp_ge, c0] at q
        exact fin 1 ⟨fun _ => by decide, fun _ => by omega⟩
    unfold m_fromLong_b21
    by_cases q : 0 ≤ lg_cmp v 0
    · rw [if_pos q]; rw [tq_cmp_ge, c0] at q
      exact tail v (by omega)
    · rw [if_neg q]; rw [tq_cmp_ge, c0] at q
      exact tail (-v) (by rw [tq_i64_neg (by omega)]; omega)
  by_cases q : 0 ≤ lg_cmp v 0
  · have q2 := q
    rw [tq_cmp_ge, c0] at q2
    rw [if_pos q]
    obtain ⟨r, s, g, a, b, c⟩ := main (by omega)
    exact ⟨r, s, g, a, b, by rw [if_neg (by omega)]; exact c⟩
  · have q2 := q
    rw [tq_cmp_ge, c0] at q2
    rw [if_neg q]
    by_cases z : v.toInt = -2 ^ 63
    · have : lg_cmp v (-v) = 0 := by
        rw [tq_cmp_eq]; apply Int64.toInt.inj; rw [Int64.toInt_neg, z]; decide
      rw [if_neg (fun w => w this)]
      exact ⟨_, _, _, rfl, hw, by rw [if_pos z]; exact tq_mnot_spec h⟩
    · have : ¬ lg_cmp v (-v) = 0 := by
        rw [tq_cmp_eq, ← Int64.toInt_inj, tq_i64_neg (by omega)]; omega
      rw [if_pos this]
      obtain ⟨r, s, g, a, b, c⟩ := main z
      exact ⟨r, s, g, a, b, by rw [if_neg z]; exact c⟩
theorem tq_msize_spec (w : Int32) : tq_Sz (m_sizeOf w) (if w = 0 then 8 else if w = 1 then 16 else 32) := tq_sizeOfWidth_spec w
theorem tq_mconvert_spec {nz : Int32} {n : Nat} (h : tq_Sz nz n) {f : Nat → Int32} (hw : tq_WL 200 f) (sq x w : Int32) {n' : Nat} (hw' : n' = if w = 0 then 8 else if w = 1 then 16 else 32) :
    ∃ r s g, m_convert nz sq f x w = some (r, s, g) ∧ tq_WL 200 g ∧ (tq_pat n x = -2 ^ (n - 1) → r.toInt = -2 ^ (n' - 1)) ∧ (tq_pat n x ≠ -2 ^ (n - 1) → ∀ m e, tq_Parts n (tq_pat n x) m e → r.toInt = tq_sg (decide (tq_pat n x < 0)) (tq_rM n' m e false)) := by
  have hn := h.2
  unfold m_convert
  have hs := tq_msize_spec w
  rw [← hw'] at hs
  rw [tq_nm_e]
  generalize m_sizeOf w = sz at *
  by_cases nx : tq_pat n x = -2 ^ (n - 1)
  · rw [if_neg (show ¬ m_isNot nz x = 0 from fun q => (tq_misNot_spec h x).1 q nx)]
    exact ⟨_, _, _, rfl, hw, fun _ => tq_mnot_spec hs, fun q => absurd nx q⟩
  · rw [if_pos ((tq_misNot_spec h x).2 nx)]
    obtain ⟨g1, e1, w1, fr1, h1⟩ := tq_mload_spec (r := 0) (by omega) h hw x nx (un := 124) (U := 124) rfl (by omega)
    have e1' : m_load nz f 0 x 124 = some g1 := e1
    obtain ⟨g2, e2, w2, fr2, h2⟩ := tq_mfactor_spec w1 sq (pw := 0) (k := 0) rfl (by omega)
    have hE : tq_rv g2 (40 * 0) 40 = tq_mag n (tq_pat n x).natAbs * 2 ^ (124 - (4 * n - 8)) := by rw [tq_Fr_rv fr2 (by omega), h1]
    -- some parts exist
    obtain ⟨nt, ng, mg, ex, _, o1⟩ := tq_read_spec h x 0 0 0 0
    obtain ⟨m0, _, hp0⟩ := tq_op_parts hn (tq_pat_rng hn) nx o1
    have run : ∀ m e, tq_Parts n (tq_pat n x) m e → ∃ r g, m_rounded 0 g2 (m_negative nz x) sz = some (r, g) ∧ tq_WL 200 g ∧ r.toInt = tq_sg (decide (tq_pat n x < 0)) (tq_rM n' m e false) := by
      intro m e hp
      obtain ⟨p1, p2, p3, p4, p5, p6⟩ := hp
      have hEq : tq_mag n (tq_pat n x).natAbs * 2 ^ (124 - (4 * n - 8)) * 2 ^ 0 = m * 2 ^ 0 * 2 ^ (e + 124).toNat := by
        rw [← p4, Nat.pow_zero, Nat.mul_one, Nat.mul_one, Nat.mul_assoc, ← Nat.pow_add, show (e + (4 * (n : Int) - 8)).toNat + (124 - (4 * n - 8)) = (e + 124).toNat by omega]
      obtain ⟨r, g4, e4, w4, hr4⟩ := tq_ref_M hs (m_negative nz x) w2 hE h2 (by decide) (by rw [Nat.pow_zero]; exact Nat.two_pow_pos _) (A := m) (by omega) (e := e) (k1 := 0) (k2 := (e + 124).toNat) (by omega) hEq
      refine ⟨r, g4, e4, w4, ?_⟩
      rw [hr4, tq_mneg_spec h x]
      unfold tq_sg
      cases decide (tq_pat n x < 0) <;> rfl
    obtain ⟨r, g, e, w3, hr⟩ := run m0 _ hp0
    refine ⟨r, 0, g, ?_, w3, fun q => absurd q nx, fun _ m e' hp => ?_⟩
    · rw [tq_bd_e e1', tq_bd_e e2, tq_nm_e, tq_nm_e, tq_bd_e e]; rfl
    · obtain ⟨r', g', e2', _, hr'⟩ := run m e' hp
      have := e.symm.trans e2'
      cases this
      exact hr'
end
section
theorem tq_mod_step (E k : Nat) : E % 2 ^ (k + 1) = E % 2 ^ k + 2 ^ k * (E / 2 ^ k % 2) := by
  rw [Nat.pow_succ, Nat.mod_mul]
theorem tq_near_loop {f : Nat → Int32} (hw : tq_WL 200 f) {E : Nat} (hE : tq_rv f (40 * 0) 40 = E) (v2 : Int32) : ∀ n k (v3 : Int32), k ≤ 123 → 123 < n + k → (v3 = 0 ↔ E % 2 ^ k = 0) →
    ∃ n' v3', m_nearest_b30 n v2 v3 (nI k) f = m_nearest_b30 (n' + 1) v2 v3' (nI 123) f ∧ (v3' = 0 ↔ E % 2 ^ 123 = 0) := by
  intro n
  induction n with
  | zero => intro k v3 h1 h2 hv; omega
  | succ n ih =>
    intro k v3 h1 h2 hv
    by_cases h : 123 ≤ k
    · have : k = 123 := by omega
      subst this
      exact ⟨n, v3, rfl, hv⟩
    · have hstep : ∃ t : Int32, m_nearest_b30 (n + 1) v2 v3 (nI k) f = m_nearest_b30 n v2 t (nI (k + 1)) f ∧ (t = 0 ↔ E % 2 ^ (k + 1) = 0) := by
        have ms := tq_mod_step E k
        have pk := Nat.two_pow_pos k
        rw [m_nearest_b30, if_neg (show ¬ (123 : Int32) ≤ nI k from fun q => h ((tq_nI_le (N := 123) (by omega) (by omega)).1 q))]
        unfold m_nearest_b57
        by_cases z : v3 = 0
        · rw [if_neg (fun w => w z)]
          obtain ⟨b, e1, hb⟩ := tq_bit_spec (r := 0) (by omega) hw (kx := nI k) (tq_nI_i (by omega)) (by omega)
          have e1' : m_bit f 0 (nI k) = some b := e1
          rw [tq_bd_e e1', tq_nI_add]
          rw [hE, Nat.testBit_eq_decide_div_mod_eq] at hb
          have hz := hv.1 z
          by_cases t : E / 2 ^ k % 2 = 1
          · rw [decide_eq_true t, if_pos rfl] at hb
            rw [if_neg (fun w => w hb)]
            refine ⟨1, rfl, ?_⟩
            constructor
            · intro w; exact absurd w (by decide)
            · intro w; rw [ms, t] at w; omega
          · rw [decide_eq_false t] at hb
            rw [if_pos (show ¬ b = 1 by rw [hb]; decide)]
            refine ⟨0, rfl, ⟨fun _ => ?_, fun _ => rfl⟩⟩
            have : E / 2 ^ k % 2 = 0 := by omega
            rw [ms, hz, this]; simp
        · rw [if_pos z, tq_nI_add]
          refine ⟨1, rfl, ?_⟩
          constructor
          · intro w; exact absurd w (by decide)
          · intro w; exfalso; apply z; rw [hv]
            generalize 2 ^ k * (E / 2 ^ k % 2) = Y at *
            omega
      obtain ⟨t, e1, ht⟩ := hstep
      obtain ⟨n', v3', e2, hv'⟩ := ih (k + 1) t (by omega) (by omega) ht
      exact ⟨n', v3', by rw [e1]; exact e2, hv'⟩
theorem tq_mnear_spec {nz : Int32} {n : Nat} (h : tq_Sz nz n) {f : Nat → Int32} (hw : tq_WL 200 f) (x : Int32) (nx : tq_pat n x ≠ -2 ^ (n - 1)) :
    ∃ g, m_nearest nz f x = some g ∧ tq_WL 200 g ∧ tq_rv g (40 * 0) 40 = tq_rnd (tq_mag n (tq_pat n x).natAbs * 2 ^ (124 - (4 * n - 8))) 124 false := by
  have hn := h.2
  have px := tq_not_ne hn (tq_pat_rng (x := x) hn) nx
  unfold m_nearest m_nearest_b24
  obtain ⟨g1, e1, w1, fr1, h1⟩ := tq_mload_spec (r := 0) (by omega) h hw x nx (un := 124) (U := 124) rfl (by omega)
  have e1' : m_load nz f 0 x 124 = some g1 := e1
  have hEb := tq_mg_bd (U := 124) hn px (by omega)
  have hEb2 : tq_mag n (tq_pat n x).natAbs * 2 ^ (124 - (4 * n - 8)) ≤ 2 ^ 300 := Nat.le_trans hEb (Nat.pow_le_pow_right (by omega) (by omega))
  generalize tq_mag n (tq_pat n x).natAbs * 2 ^ (124 - (4 * n - 8)) = E at *
  obtain ⟨b, e2, hb⟩ := tq_bit_spec (r := 0) (by omega) w1 (kx := 123) (k := 123) rfl (by omega)
  have e2' : m_bit g1 0 123 = some b := e2
  rw [tq_bd_e e1', tq_bd_e e2']
  rw [h1, Nat.testBit_eq_decide_div_mod_eq] at hb
  -- the end of the loop
  obtain ⟨g2, e3, w2, fr2, h2⟩ := tq_lower_spec (r := 0) (by omega) w1 (my := 124) (k := 124) rfl (by omega)
  have e3' : m_lower g1 0 124 = some g2 := e3
  rw [h1] at h2
  obtain ⟨c, e4, hc⟩ := tq_bit_spec (r := 0) (by omega) w2 (kx := 0) (k := 0) rfl (by omega)
  have e4' : m_bit g2 0 0 = some c := e4
  rw [h2, Nat.testBit_eq_decide_div_mod_eq, Nat.pow_zero, Nat.div_one] at hc
  have hup : ∃ g, m_nearest_b89 g2 = some g ∧ tq_WL 200 g ∧ tq_rv g (40 * 0) 40 = E / 2 ^ 124 + 1 := by
    unfold m_nearest_b89
    obtain ⟨g3, e5, w3, fr3, h3⟩ := tq_setLong_spec (r := 1) (by omega) w2 1
    have e5' : m_setLong g2 1 1 = some g3 := e5
    obtain ⟨g4, e6, w4, fr4, h4⟩ := tq_plus_spec (a := 0) (b := 1) (by omega) (by omega) (by omega) w3
    have e6' : m_plus g3 0 1 = some g4 := e6
    rw [tq_bd_e e5', tq_bd_e e6']
    refine ⟨g4, rfl, w4, ?_⟩
    have u1 : tq_u64 (1 : Int64) = 1 := rfl
    rw [h4, h3, tq_Fr_rv fr3 (by omega), h2, u1, Nat.mod_eq_of_lt]
    have : E / 2 ^ 124 ≤ E := Nat.div_le_self _ _
    have : 1 ≤ 2 ^ 300 := Nat.two_pow_pos _
    exact tq_n640 (k := 300) (by omega) this (by omega)
  have ms := tq_mod_step E 123
  have hml := Nat.mod_lt E (Nat.two_pow_pos 123)
  have fin : ∀ v2 : Int32, (v2 = 0 ↔ E / 2 ^ 123 % 2 = 0) → ∃ g, m_nearest_b30 124 v2 0 0 g1 = some g ∧ tq_WL 200 g ∧ tq_rv g (40 * 0) 40 = tq_rnd E 124 false := by
    intro v2 hv2
    obtain ⟨n', v3', e7, hv3⟩ := tq_near_loop w1 h1 v2 124 0 0 (by omega) (by omega) ⟨fun _ => by rw [Nat.pow_zero, Nat.mod_one], fun _ => rfl⟩
    have e0 : nI 0 = (0 : Int32) := rfl
    rw [e0] at e7
    rw [e7, m_nearest_b30, if_pos (show (123 : Int32) ≤ nI 123 from (tq_nI_le (N := 123) (by omega) (by omega)).2 (Nat.le_refl _)), tq_bd_e e3']
    obtain ⟨k1, k2, k3, k4⟩ := tq_rnd_cases (V := E) (d := 124) (mo := false) rfl rfl
    rw [show 124 - 1 = 123 from rfl, ms] at k1 k2 k3 k4
    have hf2 : E / 2 ^ 123 % 2 < 2 := Nat.mod_lt _ (by omega)
    generalize hQ : E / 2 ^ 124 = Q at *
    generalize E / 2 ^ 123 % 2 = hf at *
    generalize E % 2 ^ 123 = lo at *
    generalize 2 ^ 123 = H at *
    by_cases z : v2 = 0
    · rw [if_pos z]
      have h0 := hv2.1 z
      refine ⟨g2, rfl, w2, ?_⟩
      rw [h2, k1 (by rw [h0, Nat.mul_zero]; omega)]
    · rw [if_neg z]
      by_cases hf0 : hf = 0
      · exact absurd (hv2.2 hf0) z
      · have h1f : hf = 1 := by omega
        have hH : lo + H * hf = lo + H := by rw [h1f, Nat.mul_one]
        rw [hH] at k1 k2 k3 k4
        by_cases lo0 : v3' = 0
        · have lz := hv3.1 lo0
          rw [if_neg (fun w => w lo0), tq_bd_e e4']
          by_cases od : Q % 2 = 1
          · rw [decide_eq_true od, if_pos rfl] at hc
            rw [if_neg (fun w => w hc)]
            obtain ⟨g, a1, a2, a3⟩ := hup
            exact ⟨g, a1, a2, by rw [a3, k3 (by omega) (.inr od)]⟩
          · rw [decide_eq_false od] at hc
            rw [if_pos (show ¬ c = 1 by rw [hc]; decide)]
            exact ⟨g2, rfl, w2, by rw [h2, k4 (by omega) (by rintro (w | w); cases w; exact od w)]⟩
        · have lz : lo ≠ 0 := fun w => lo0 (hv3.2 w)
          rw [if_pos lo0]
          obtain ⟨g, a1, a2, a3⟩ := hup
          exact ⟨g, a1, a2, by rw [a3, k2 (by omega)]⟩
  by_cases t : E / 2 ^ 123 % 2 = 1
  · rw [decide_eq_true t, if_pos rfl] at hb
    rw [if_neg (fun w => w hb)]
    exact fin 1 ⟨fun w => absurd w (by decide), fun w => by rw [t] at w; cases w⟩
  · rw [decide_eq_false t] at hb
    rw [if_pos (show ¬ b = 1 by rw [hb]; decide)]
    exact fin 0 ⟨fun _ => by omega, fun _ => rfl⟩

theorem tq_rnd_scale (m d j : Nat) (hd : 1 ≤ d) (mo : Bool) : tq_rnd (m * 2 ^ j) (d + j) mo = tq_rnd m d mo := by
  induction j with
  | zero => rw [Nat.pow_zero, Nat.mul_one]; rfl
  | succ j ih =>
    have e : m * 2 ^ (j + 1) = 2 * (m * 2 ^ j) + 0 := by rw [Nat.pow_succ, ← Nat.mul_assoc, Nat.mul_comm _ 2]; rfl
    have := tq_rnd_bit (W := m * 2 ^ j) (d := d + j) (b := 0) (by omega) (by omega) mo
    rw [e, show d + (j + 1) = d + j + 1 by omega, this]
    have e2 : (mo || decide ((0 : Nat) = 1)) = mo := by cases mo <;> rfl
    rw [e2]; exact ih
theorem tq_rnd_exact (Q d : Nat) (hd : 1 ≤ d) : tq_rnd (Q * 2 ^ d) d false = Q := by
  obtain ⟨k1, _, _, _⟩ := tq_rnd_cases (V := Q * 2 ^ d) (d := d) (mo := false) (t := Q) (w := 0) (Nat.mul_div_cancel _ (Nat.two_pow_pos _)) (Nat.mul_mod_left _ _)
  exact k1 (Nat.two_pow_pos _)
theorem tq_xv_strict_z {R : Int} {Z Z' : Nat} (h : -31 ≤ R) (hz : Z < Z') : tq_xv R Z < tq_xv R Z' := by
  rcases Nat.lt_or_ge (Z / 2 ^ 30) (Z' / 2 ^ 30) with q | q
  · obtain ⟨k, hk⟩ : ∃ k : Nat, (k : Int) = 4 * R + (Z / 2 ^ 30 : Nat) + 157 := ⟨(4 * R + (Z / 2 ^ 30 : Nat) + 157).toNat, by generalize Z / 2 ^ 30 = e at *; omega⟩
    exact Nat.lt_of_lt_of_le (tq_xv_hi h (k := k) (by omega)) (tq_xv_lo h (k := k) (by omega))
  · have e : Z / 2 ^ 30 = Z' / 2 ^ 30 := by
      have := Nat.div_le_div_right (c := 2 ^ 30) (Nat.le_of_lt hz); omega
    unfold tq_xv
    rw [e]
    exact Nat.mul_lt_mul_of_pos_right (by omega) (Nat.two_pow_pos _)
theorem tq_xv_strict {B B' : Nat} (hB : B' < 2 ^ 32) (hBB : B < B') {R R' : Int} {Z Z' : Nat} (h : tq_Body B R Z) (h' : tq_Body B' R' Z') : tq_xv R Z < tq_xv R' Z' := by
  have r1 := tq_body_r h
  have r2 := tq_body_r h'
  rcases tq_body_mono hB (Nat.le_of_lt hBB) h h' with q | ⟨q, w⟩
  · obtain ⟨k, hk⟩ : ∃ k : Nat, (k : Int) = 4 * R' + 156 := ⟨(4 * R' + 156).toNat, by omega⟩
    have e3 : Z / 2 ^ 30 < 4 := by omega
    exact Nat.lt_of_lt_of_le (tq_xv_hi r1.1 (k := k) (by generalize Z / 2 ^ 30 = e at *; omega)) (tq_xv_lo r2.1 (k := k) (by generalize Z' / 2 ^ 30 = e at *; omega))
  · subst q
    apply tq_xv_strict_z r1.1
    rcases Nat.eq_or_lt_of_le w with z | z
    · exfalso
      subst z
      obtain ⟨_, h⟩ := h
      obtain ⟨_, h'⟩ := h'
      rcases h with ⟨a1, a2, a3⟩ | ⟨a1, a2, a3⟩ <;> rcases h' with ⟨b1, b2, b3⟩ | ⟨b1, b2, b3⟩
      · have := Nat.mul_lt_mul_of_pos_right hBB (Nat.two_pow_pos (R.toNat + 2)); omega
      · omega
      · omega
      · have := Nat.mul_lt_mul_of_pos_right hBB (Nat.two_pow_pos ((-R).toNat + 1)); omega
    · exact z
/-- a number that is a pattern's value is rounded to that pattern -/
theorem tq_self_pp {C D : Nat → Prop} (hcut : tq_Cut C D) {n : Nat} (hn : n = 8 ∨ n = 16 ∨ n = 32) {s : Int} {sig : Nat} {mo : Bool} (hl : tq_LeadX n C D s sig mo) {P : Nat} (hP : 1 ≤ P ∧ P < 2 ^ (n - 1)) {R : Int} {Z : Nat} (hb : tq_Body (P * 2 ^ (33 - n)) R Z) (hd : D (tq_xv R Z)) : tq_pp n s sig mo = P := by
  obtain ⟨lin, lhi, llo⟩ := hl
  obtain ⟨m1, m2, m3⟩ := hcut
  have hB := tq_bB hn hP.2
  have p33 := Nat.two_pow_pos (33 - n)
  rcases Int.lt_or_le s (4 * (n : Int) - 8) with q1 | q1
  · rcases Int.lt_or_le s (-(4 * (n : Int) - 8)) with q2 | q2
    · exfalso
      apply llo q2
      rw [← tq_xv_one hn]
      exact m1 _ _ (tq_xv_mono hB (Nat.mul_le_mul_right _ hP.1) (tq_body_one hn) hb) (m2 _ hd)
    · obtain ⟨t, r0, Zt, Zm, a1, a2, a3, a4, a5, ⟨R', Z', a6, a7⟩, b1, b2, b3, b4, b5⟩ := tq_round_in ⟨m1, m2, m3⟩ hn ⟨q2, q1⟩ (lin q2 q1)
      have h1 : P < t + 1 := tq_cb_nb ⟨m1, m2, m3⟩ hn hP.2 ⟨R, Z, hb, m2 _ hd⟩ ⟨R', Z', a6, a7⟩
      have h2 : ¬ P < t := fun w => m3 _ _ hd (tq_xv_strict (tq_bB hn (by omega)) (Nat.mul_lt_mul_of_pos_right w p33) hb a3) a5
      have : P = t := by omega
      subst this
      obtain ⟨rfl, rfl⟩ := tq_body_unique hB a3 hb
      exact b1 hd
  · have ct := lhi q1
    have hpp : tq_pp n s sig mo = 2 ^ (n - 1) - 1 := by unfold tq_pp; rw [if_pos q1]
    rw [hpp]
    have pn := Nat.two_pow_pos (n - 1)
    rcases Nat.lt_or_ge P (2 ^ (n - 1) - 1) with w | w
    · exfalso
      rw [← tq_xv_top hn] at ct
      exact m3 _ _ hd (tq_xv_strict (tq_bB hn (by omega)) (Nat.mul_lt_mul_of_pos_right w p33) hb (tq_body_top hn)) ct
    · omega
theorem tq_self_round {n : Nat} (hn : n = 8 ∨ n = 16 ∨ n = 32) {p : Int} (hp : -2 ^ (n - 1) < p ∧ p < 2 ^ (n - 1)) {m : Nat} {e : Int} (h : tq_Parts n p m e) : tq_rM n m e false = p.natAbs := by
  obtain ⟨p1, p2, p3, p4, p5, p6⟩ := h
  by_cases z : p = 0
  · have := p6 z
    subst this z
    unfold tq_rM; rw [if_pos rfl]; rfl
  · have hm := p5 z
    have hP : 1 ≤ p.natAbs ∧ p.natAbs < 2 ^ (n - 1) := by rcases hn with rfl | rfl | rfl <;> omega
    have h31 : 2 ^ (n - 1) ≤ 2 ^ 31 := Nat.pow_le_pow_right (by omega) (by omega)
    have hpv : (Int64.ofNat p.natAbs).toInt = p.natAbs := Int64.toInt_ofNat_of_lt (by omega)
    obtain ⟨g, e1, w, fr, R, Z, hb, hk, hv⟩ := tq_value_spec (r := 0) (by omega) tq_WL0 hpv (size := nI n) (un := 124) (S := n) (U := 124) (tq_nI_i (by omega)) (by omega) hP (by omega) rfl ⟨by omega, by omega⟩
    obtain ⟨d1, d2⟩ := tq_mag_div hn hP hb
    have hEq : m * 2 ^ (e + 124).toNat * 2 ^ 0 = m * 1 * 2 ^ (e + 124).toNat := by rw [Nat.pow_zero, Nat.mul_one, Nat.mul_one]
    have hl := tq_lead_dy hn (E := m * 2 ^ (e + 124).toNat) (F := 1) (A := m) (k1 := 0) (k2 := (e + 124).toNat) (by omega) (by omega) (e := e) (by omega) hEq
    rw [tq_rM_sig (by omega) (by omega)]
    refine tq_self_pp (tq_cut_c (fun _ => by omega)) hn hl hP hb ?_
    unfold tq_cD
    rw [if_neg (by decide), Nat.mul_one]
    have e3 : (4 * R + (Z / 2 ^ 30 : Nat) + 124).toNat = (4 * R + (Z / 2 ^ 30 : Nat) + ((4 * n - 8 : Nat) : Int)).toNat + (124 - (4 * n - 8)) := by
      clear hv d1 hb
      generalize Z / 2 ^ 30 = z at *; omega
    unfold tq_xv
    have e5 : m * 2 ^ (e + (4 * (n : Int) - 8)).toNat * 2 ^ (124 - (4 * n - 8)) = m * 2 ^ (e + 124).toNat := by
      rw [Nat.mul_assoc, ← Nat.pow_add, show (e + (4 * (n : Int) - 8)).toNat + (124 - (4 * n - 8)) = (e + 124).toNat by omega]
    rw [e3, Nat.pow_add, ← Nat.mul_assoc, ← d1, ← p4, Nat.mul_right_comm, e5]
theorem tq_near_parts {n : Nat} (hn : n = 8 ∨ n = 16 ∨ n = 32) {p : Int} {m : Nat} {e : Int} (h : tq_Parts n p m e) : tq_rnd (tq_mag n p.natAbs * 2 ^ (124 - (4 * n - 8))) 124 false = if 0 ≤ e then m * 2 ^ e.toNat else tq_rnd m (-e).toNat false := by
  obtain ⟨p1, p2, p3, p4, p5, p6⟩ := h
  have hE : tq_mag n p.natAbs * 2 ^ (124 - (4 * n - 8)) = m * 2 ^ (e + 124).toNat := by
    rw [← p4, Nat.mul_assoc, ← Nat.pow_add, show (e + (4 * (n : Int) - 8)).toNat + (124 - (4 * n - 8)) = (e + 124).toNat by omega]
  rw [hE]
  by_cases q : 0 ≤ e
  · rw [if_pos q, show (e + 124).toNat = e.toNat + 124 by omega, Nat.pow_add, ← Nat.mul_assoc]
    exact tq_rnd_exact _ _ (by omega)
  · rw [if_neg q]
    have := tq_rnd_scale m (-e).toNat (e + 124).toNat (by omega) false
    rw [show (-e).toNat + (e + 124).toNat = 124 by omega] at this
    exact this
end
section
theorem tq_rnd_le (V d : Nat) (mo : Bool) : tq_rnd V d mo ≤ V / 2 ^ d + 1 := by unfold tq_rnd; split <;> omega
theorem tq_parts_ex {nz : Int32} {n : Nat} (h : tq_Sz nz n) (x : Int32) (nx : tq_pat n x ≠ -2 ^ (n - 1)) : ∃ m e, tq_Parts n (tq_pat n x) m e := by
  obtain ⟨nt, ng, mg, ex, _, o1⟩ := tq_read_spec h x 0 0 0 0
  obtain ⟨m0, _, hp0⟩ := tq_op_parts h.2 (tq_pat_rng h.2) nx o1
  exact ⟨m0, _, hp0⟩
theorem tq_mwhole_spec {nz : Int32} {n : Nat} (h : tq_Sz nz n) {f : Nat → Int32} (hw : tq_WL 200 f) (sq x : Int32) :
    ∃ r s g, m_whole nz sq f x = some (r, s, g) ∧ tq_WL 200 g ∧ (tq_pat n x = -2 ^ (n - 1) → r.toInt = -2 ^ (n - 1)) ∧ (tq_pat n x ≠ -2 ^ (n - 1) → ∀ m e, tq_Parts n (tq_pat n x) m e → r.toInt = if 0 ≤ e then tq_pat n x else tq_sg (decide (tq_pat n x < 0)) (tq_rM n (tq_rnd m (-e).toNat false) 0 false)) := by
  have hn := h.2
  unfold m_whole
  by_cases nx : tq_pat n x = -2 ^ (n - 1)
  · rw [if_neg (show ¬ m_isNot nz x = 0 from fun q => (tq_misNot_spec h x).1 q nx)]
    exact ⟨_, _, _, rfl, hw, fun _ => tq_mnot_spec h, fun q => absurd nx q⟩
  · rw [if_pos ((tq_misNot_spec h x).2 nx)]
    have px := tq_not_ne hn (tq_pat_rng (x := x) hn) nx
    obtain ⟨g1, e1, w1, h1⟩ := tq_mnear_spec h hw x nx
    obtain ⟨g2, e2, w2, fr2, h2⟩ := tq_raise_spec (r := 0) (by omega) w1 (my := 124) (k := 124) rfl (by omega)
    have e2' : m_raise g1 0 124 = some g2 := e2
    obtain ⟨g3, e3, w3, fr3, h3⟩ := tq_mfactor_spec w2 sq (pw := 0) (k := 0) rfl (by omega)
    have hsgn : ∀ v : Nat, (if m_negative nz x = 0 then (v : Int) else -(v : Int)) = tq_sg (decide (tq_pat n x < 0)) v := by
      intro v; rw [tq_mneg_spec h x]; unfold tq_sg; cases decide (tq_pat n x < 0) <;> rfl
    have run : ∀ m e, tq_Parts n (tq_pat n x) m e → ∃ r g, m_rounded 0 g3 (m_negative nz x) nz = some (r, g) ∧ tq_WL 200 g ∧ r.toInt = if 0 ≤ e then tq_pat n x else tq_sg (decide (tq_pat n x < 0)) (tq_rM n (tq_rnd m (-e).toNat false) 0 false) := by
      intro m e hp
      have hnp := tq_near_parts hn hp
      have hp' := hp
      obtain ⟨p1, p2, p3, p4, p5, p6⟩ := hp'
      rw [hnp] at h1
      by_cases q : 0 ≤ e
      · rw [if_pos q] at h1 ⊢
        have hE : tq_rv g3 (40 * 0) 40 = m * 2 ^ (e + 124).toNat := by
          rw [tq_Fr_rv fr3 (by omega), h2, h1, Nat.mul_assoc, ← Nat.pow_add, show e.toNat + 124 = (e + 124).toNat by omega, Nat.mod_eq_of_lt]
          have := Nat.mul_lt_mul_of_pos_right p1 (Nat.two_pow_pos (e + 124).toNat)
          rw [← Nat.pow_add] at this
          exact Nat.lt_of_lt_of_le this (Nat.pow_le_pow_right (by omega) (by omega))
        obtain ⟨r, g4, e4, w4, hr4⟩ := tq_ref_M h (m_negative nz x) w3 hE h3 (by decide) (by rw [Nat.pow_zero]; exact Nat.two_pow_pos _) (A := m) (by omega) (e := e) (k1 := 0) (k2 := (e + 124).toNat) (by omega) (by rw [Nat.pow_zero, Nat.mul_one, Nat.mul_one])
        refine ⟨r, g4, e4, w4, ?_⟩
        rw [hr4, tq_self_round hn px hp, hsgn]
        unfold tq_sg
        by_cases s : tq_pat n x < 0
        · rw [decide_eq_true s, if_pos rfl]; omega
        · rw [decide_eq_false s, if_neg (by decide)]; omega
      · rw [if_neg q] at h1 ⊢
        have hq := tq_rnd_le m (-e).toNat false
        have hq2 : m / 2 ^ (-e).toNat ≤ m := Nat.div_le_self _ _
        have hA : tq_rnd m (-e).toNat false < 2 ^ 60 := by omega
        generalize tq_rnd m (-e).toNat false = A at *
        have hE : tq_rv g3 (40 * 0) 40 = A * 2 ^ 124 := by
          rw [tq_Fr_rv fr3 (by omega), h2, h1, Nat.mod_eq_of_lt]
          have := Nat.mul_lt_mul_of_pos_right hA (Nat.two_pow_pos 124)
          rw [← Nat.pow_add] at this
          exact Nat.lt_of_lt_of_le this (Nat.pow_le_pow_right (by omega) (by omega))
        obtain ⟨r, g4, e4, w4, hr4⟩ := tq_ref_M h (m_negative nz x) w3 hE h3 (by decide) (by rw [Nat.pow_zero]; exact Nat.two_pow_pos _) (A := A) (by omega) (e := 0) (k1 := 0) (k2 := 124) (by omega) (by rw [Nat.pow_zero, Nat.mul_one, Nat.mul_one])
        exact ⟨r, g4, e4, w4, by rw [hr4, hsgn]⟩
    obtain ⟨m0, e0, hp0⟩ := tq_parts_ex h x nx
    obtain ⟨r, g, e, w4, hr⟩ := run m0 e0 hp0
    refine ⟨r, 0, g, ?_, w4, fun q => absurd q nx, fun _ m e' hp => ?_⟩
    · rw [tq_bd_e e1, tq_bd_e e2', tq_bd_e e3, tq_nm_e, tq_nm_e, tq_bd_e e]; rfl
    · obtain ⟨r', g', e4', _, hr'⟩ := run m e' hp
      have := e.symm.trans e4'
      cases this
      exact hr'
/-- the limbs from i on, of the lowest four -/
theorem tq_toL_loop {nz : Int32} {n : Nat} (h : tq_Sz nz n) {f : Nat → Int32} (hw : tq_WL 200 f) (x : Int32) (v2 : Int64) : ∀ i fu (v4 : Int64) (v6 : Int32), i ≤ 40 → i < fu → (v6 = 0 ∨ v6 = 1) → tq_u64 v4 = (if 4 ≤ i then 0 else tq_rv f i (4 - i)) →
    ∃ r, m_toLong_b43 nz x fu v2 v4 v6 (nI i + (-1)) f = some (r, f) ∧ ((v6 = 1 ∧ (∀ j, 4 ≤ j → j < i → f j = 0)) → ∃ v : Int64, tq_u64 v = tq_rv f 0 4 ∧ r = if decide (tq_pat n x < 0) then -v else v) ∧ (¬ (v6 = 1 ∧ (∀ j, 4 ≤ j → j < i → f j = 0)) → r = v2) := by
  intro i
  induction i with
  | zero =>
    intro fu v4 v6 h1 h2 hv hu
    obtain ⟨k, rfl⟩ : ∃ k, fu = k + 1 := ⟨fu - 1, by omega⟩
    rw [m_toLong_b43, if_pos (by decide)]
    have hneg := tq_mneg_spec h x
    rcases hv with z | z
    · rw [z, if_neg (fun w => w rfl)]
      exact ⟨v2, rfl, fun w => absurd w.1 (by decide), fun _ => rfl⟩
    · rw [z, if_pos (show ¬ (1 : Int32) = 0 by decide), hneg]
      cases hd : decide (tq_pat n x < 0)
      · exact ⟨v4, by rw [if_pos (by decide)], fun _ => ⟨v4, by rw [hu, if_neg (by omega)], rfl⟩, fun w => absurd ⟨rfl, fun j a b => by omega⟩ w⟩
      · exact ⟨-v4, by rw [if_neg (by decide)], fun _ => ⟨v4, by rw [hu, if_neg (by omega)], rfl⟩, fun w => absurd ⟨rfl, fun j a b => by omega⟩ w⟩
  | succ i ih =>
    intro fu v4 v6 h1 h2 hv hu
    obtain ⟨k, rfl⟩ : ∃ k, fu = k + 1 := ⟨fu - 1, by omega⟩
    have c0 : ∀ j : Nat, (0 : Int32) + nI j = nI j := fun j => Int32.zero_add _
    have step : ∀ v6' : Int32, (v6' = 0 ∨ v6' = 1) → ∃ v4' : Int64, tq_u64 v4' = (if 4 ≤ i then 0 else tq_rv f i (4 - i)) ∧ m_toLong_b76 (m_toLong_b43 nz x k) v2 v4 (nI i) v6' f = m_toLong_b43 nz x k v2 v4' v6' (nI i + (-1)) f := by
      intro v6' hv6
      unfold m_toLong_b76 m_toLong_b105
      by_cases q : 4 ≤ i
      · rw [if_pos (show (4 : Int32) ≤ nI i from (tq_nI_le (N := 4) (by omega) (by omega)).2 q)]
        exact ⟨v4, by rw [hu, if_pos (by omega), if_pos q], rfl⟩
      · rw [if_neg (show ¬ (4 : Int32) ≤ nI i from fun w => q ((tq_nI_le (N := 4) (by omega) (by omega)).1 w)), c0, if_neg (tq_nI_ok (by omega) (by omega)), tq_nI_cl (by omega)]
        refine ⟨_, ?_, rfl⟩
        rw [if_neg q]
        have hl := hw i (by omega)
        have hlim := tq_i64_of_lim hl.1
        have hll := tq_lim_lt hw (i := i) (by omega)
        have hsp := tq_rv_split (f := f) (b := i) (i := 1) (3 - i)
        have e1 : tq_rv f i 1 = tq_lim (f i) := by
          show 0 + tq_lim (f (i + 0)) * 2 ^ (16 * 0) = _
          simp
        rw [show 1 + (3 - i) = 4 - i by omega, e1] at hsp
        have hv4 : tq_u64 v4 = tq_rv f (i + 1) (3 - i) := by
          rw [hu]
          split
          · have : i = 3 := by omega
            subst this; rfl
          · rw [show 4 - (i + 1) = 3 - i by omega]
        have hb : tq_rv f (i + 1) (3 - i) < 2 ^ (16 * (3 - i)) := tq_rv_lt (fun j hj => tq_lim_lt hw (by omega))
        have hb2 : 2 ^ (16 * (3 - i)) ≤ 2 ^ 48 := Nat.pow_le_pow_right (by omega) (by omega)
        rw [tq_u64_or, tq_u64_shl (k := 16) rfl (by omega), hv4, tq_u64_of_i hlim, Nat.mod_eq_of_lt (by omega), Nat.mul_comm, tq_or_add (by omega), hsp]
        show _ = tq_lim (f i) + 2 ^ 16 * _
        omega
    rw [m_toLong_b43, tq_nI_pred (by omega), if_neg (tq_nI_nn (by omega)), c0]
    have go : ∀ v6' : Int32, (v6' = 0 ∨ v6' = 1) → (v6' = 1 ↔ v6 = 1 ∧ (4 ≤ i → f i = 0)) → ∃ r, m_toLong_b76 (m_toLong_b43 nz x k) v2 v4 (nI i) v6' f = some (r, f) ∧ ((v6 = 1 ∧ (∀ j, 4 ≤ j → j < i + 1 → f j = 0)) → ∃ v : Int64, tq_u64 v = tq_rv f 0 4 ∧ r = if decide (tq_pat n x < 0) then -v else v) ∧ (¬ (v6 = 1 ∧ (∀ j, 4 ≤ j → j < i + 1 → f j = 0)) → r = v2) := by
      intro v6' hv6 hiff
      obtain ⟨v4', hv4', est⟩ := step v6' hv6
      obtain ⟨r, e, ha, hb⟩ := ih k v4' v6' (by omega) (by omega) hv6 hv4'
      have heq : (v6' = 1 ∧ (∀ j, 4 ≤ j → j < i → f j = 0)) ↔ (v6 = 1 ∧ (∀ j, 4 ≤ j → j < i + 1 → f j = 0)) := by
        constructor
        · rintro ⟨a, b⟩
          obtain ⟨c, d⟩ := hiff.1 a
          refine ⟨c, fun j j1 j2 => ?_⟩
          rcases Nat.lt_or_ge j i with z | z
          · exact b j j1 z
          · have : j = i := by omega
            subst this; exact d j1
        · rintro ⟨a, b⟩
          exact ⟨hiff.2 ⟨a, fun z => b i z (by omega)⟩, fun j j1 j2 => b j j1 (by omega)⟩
      exact ⟨r, by rw [est]; exact e, fun w => ha (heq.2 w), fun w => hb (fun z => w (heq.1 z))⟩
    by_cases q : v6 = 0
    · rw [if_pos q]
      exact go 0 (.inl rfl) ⟨fun w => absurd w (by decide), fun w => absurd (q.symm.trans w.1) (by decide)⟩
    · have v1 := hv.resolve_left q
      rw [if_neg q]
      by_cases i4 : i < 4
      · rw [if_pos (show nI i < (4 : Int32) from (tq_nI_lt (N := i) (i := 4) (by omega) (by omega)).2 i4)]
        exact go 1 (.inr rfl) ⟨fun _ => ⟨v1, fun w => by omega⟩, fun _ => rfl⟩
      · rw [if_neg (show ¬ nI i < (4 : Int32) from fun w => i4 ((tq_nI_lt (N := i) (i := 4) (by omega) (by omega)).1 w)), if_neg (tq_nI_ok (by omega) (by omega)), tq_nI_cl (by omega)]
        by_cases z : f i = 0
        · rw [if_neg (fun w => w z)]
          exact go 1 (.inr rfl) ⟨fun _ => ⟨v1, fun _ => z⟩, fun _ => rfl⟩
        · rw [if_pos z]
          exact go 0 (.inl rfl) ⟨fun w => absurd w (by decide), fun w => absurd (w.2 (by omega)) z⟩
end
section
theorem tq_mtoLong_spec {nz : Int32} {n : Nat} (h : tq_Sz nz n) {f : Nat → Int32} (hw : tq_WL 200 f) (x : Int32) :
    ∃ r g, m_toLong nz f x = some (r, g) ∧ tq_WL 200 g ∧ (tq_pat n x = -2 ^ (n - 1) → r.toInt = -2 ^ 63) ∧ (tq_pat n x ≠ -2 ^ (n - 1) → ∀ m e, tq_Parts n (tq_pat n x) m e → r.toInt = if 0 ≤ e then (if m * 2 ^ e.toNat < 2 ^ 63 then tq_sg (decide (tq_pat n x < 0)) (m * 2 ^ e.toNat) else -2 ^ 63) else tq_sg (decide (tq_pat n x < 0)) (tq_rnd m (-e).toNat false)) := by
  have hn := h.2
  have cm : ((-9223372036854775808 : Int64)).toInt = -2 ^ 63 := by decide
  unfold m_toLong
  by_cases nx : tq_pat n x = -2 ^ (n - 1)
  · rw [if_neg (show ¬ m_isNot nz x = 0 from fun q => (tq_misNot_spec h x).1 q nx)]
    exact ⟨_, _, rfl, hw, fun _ => cm, fun q => absurd nx q⟩
  · rw [if_pos ((tq_misNot_spec h x).2 nx)]
    obtain ⟨g, e1, w1, h1⟩ := tq_mnear_spec h hw x nx
    obtain ⟨b, e2, hb⟩ := tq_bit_spec (r := 0) (by omega) w1 (kx := 63) (k := 63) rfl (by omega)
    have e2' : m_bit g 0 63 = some b := e2
    rw [tq_bd_e e1, tq_bd_e e2']
    have h1' : tq_rv g 0 40 = tq_rnd (tq_mag n (tq_pat n x).natAbs * 2 ^ (124 - (4 * n - 8))) 124 false := h1
    have hb : b = if (tq_rv g 0 40).testBit 63 then 1 else 0 := hb
    generalize hA : tq_rnd (tq_mag n (tq_pat n x).natAbs * 2 ^ (124 - (4 * n - 8))) 124 false = A at *
    rw [h1', Nat.testBit_eq_decide_div_mod_eq] at hb
    have hsp := tq_rv_split (f := g) (b := 0) (i := 4) 36
    rw [show 4 + 36 = 40 from rfl, h1', show 0 + 4 = 4 from rfl] at hsp
    have hlo : tq_rv g 0 4 < 2 ^ 64 := tq_rv_lt (k := 4) (fun j hj => tq_lim_lt w1 (by omega))
    have e64 : 2 ^ (16 * 4) = 2 ^ 64 := rfl
    rw [e64] at hsp
    have run : ∀ v6 : Int32, (v6 = 0 ∨ v6 = 1) → (v6 = 1 ↔ A / 2 ^ 63 % 2 = 0) → ∃ r, m_toLong_b37 nz x (-9223372036854775808) 0 v6 g = some (r, g) ∧ r.toInt = if A < 2 ^ 63 then tq_sg (decide (tq_pat n x < 0)) A else -2 ^ 63 := by
      intro v6 hv6 hiff
      unfold m_toLong_b37
      obtain ⟨r, e3, ha, hb2⟩ := tq_toL_loop h w1 x (-9223372036854775808) 40 41 0 v6 (by omega) (by omega) hv6 (by rw [if_pos (by omega)]; rfl)
      have e3' : m_toLong_b43 nz x 41 (-9223372036854775808) 0 v6 39 g = some (r, g) := e3
      refine ⟨r, e3', ?_⟩
      have key : (v6 = 1 ∧ (∀ j, 4 ≤ j → j < 40 → g j = 0)) ↔ A < 2 ^ 63 := by
        constructor
        · rintro ⟨a, c⟩
          have hz : tq_rv g 4 36 = 0 := tq_rv_zero (fun j hj => c (4 + j) (by omega) (by omega))
          rw [hz] at hsp
          have := hiff.1 a
          omega
        · intro a
          have hz : tq_rv g 4 36 = 0 := by
            rcases Nat.eq_zero_or_pos (tq_rv g 4 36) with z | z
            · exact z
            · have := Nat.mul_le_mul_left (2 ^ 64) z; omega
          refine ⟨hiff.2 (by omega), fun j j1 j2 => ?_⟩
          have := tq_rv_eq0 w1 (b := 4) (k := 36) (by omega) hz (j - 4) (by omega)
          rw [show 4 + (j - 4) = j by omega] at this; exact this
      by_cases q : A < 2 ^ 63
      · rw [if_pos q]
        obtain ⟨v, v1, v2⟩ := ha (key.2 q)
        have hz : tq_rv g 4 36 = 0 := by
          rcases Nat.eq_zero_or_pos (tq_rv g 4 36) with z | z
          · exact z
          · have := Nat.mul_le_mul_left (2 ^ 64) z; omega
        rw [hz] at hsp
        have vi := tq_i64_of_u (v1.trans (show tq_rv g 0 4 = A by omega)) q
        rw [v2]; unfold tq_sg
        cases decide (tq_pat n x < 0)
        · exact vi
        · show (-v).toInt = -(A : Int)
          rw [tq_i64_neg (by rw [vi]; omega), vi]
      · rw [if_neg q, hb2 (fun w => q (key.1 w)), cm]
    have fin : ∃ r, (if ¬ b = 0 then m_toLong_b37 nz x (-9223372036854775808) 0 0 g else m_toLong_b37 nz x (-9223372036854775808) 0 1 g) = some (r, g) ∧ r.toInt = if A < 2 ^ 63 then tq_sg (decide (tq_pat n x < 0)) A else -2 ^ 63 := by
      by_cases t : A / 2 ^ 63 % 2 = 1
      · rw [decide_eq_true t, if_pos rfl] at hb
        rw [if_pos (show ¬ b = 0 by rw [hb]; decide)]
        exact run 0 (.inl rfl) ⟨fun w => absurd w (by decide), fun w => by omega⟩
      · rw [decide_eq_false t] at hb
        rw [if_neg (show ¬ ¬ b = 0 from fun w => w (by rw [hb]; decide))]
        exact run 1 (.inr rfl) ⟨fun _ => by omega, fun _ => rfl⟩
    obtain ⟨r, e4, hr⟩ := fin
    refine ⟨r, g, e4, w1, fun q => absurd q nx, fun _ m e hp => ?_⟩
    rw [tq_near_parts hn hp] at hA
    obtain ⟨p1, p2, p3, p4, p5, p6⟩ := hp
    rw [hr]
    by_cases q : 0 ≤ e
    · rw [if_pos q] at hA ⊢; rw [hA]
    · rw [if_neg q] at hA ⊢; rw [hA]
      have hq := tq_rnd_le m (-e).toNat false
      have hq2 : m / 2 ^ (-e).toNat ≤ m := Nat.div_le_self _ _
      rw [if_pos (by omega)]
/-- M and what is behind it, of a number between M and M + 1 units of 2^e -/
theorem tq_lead_y {n : Nat} (hn : n = 8 ∨ n = 16 ∨ n = 32) {C D : Nat → Prop} (hcut : tq_Cut C D) {M T k1 k2 : Nat} {e : Int} {mo : Bool} (hM : 2 ^ T ≤ M ∧ M < 2 ^ (T + 1)) (hT : 28 ≤ T ∧ T ≤ 63) (hk : (k2 : Int) - k1 = e + 156)
    (H : ∀ x y, x * 2 ^ k1 = y * 2 ^ k2 → (C x ↔ y ≤ M) ∧ (D x ↔ y = M ∧ mo = false)) : tq_LeadX n C D (e + (T : Nat)) (M * 2 ^ (63 - T)) mo := by
  have b1 := Nat.mul_le_mul_right (2 ^ (63 - T)) hM.1
  have b2 := Nat.mul_lt_mul_of_pos_right hM.2 (Nat.two_pow_pos (63 - T))
  rw [← Nat.pow_add, show T + (63 - T) = 63 by omega] at b1
  rw [← Nat.pow_add, show T + 1 + (63 - T) = 64 by omega] at b2
  refine ⟨fun q1 q2 => ⟨b1, b2, fun c x c1 c2 hx => ?_, ?_⟩, fun q => ?_, fun q => ?_⟩
  · have e1 : x * 2 ^ k1 = c * 2 ^ (T - 28) * 2 ^ k2 := by
      have h1 : x * 2 ^ k1 * 2 ^ 28 = c * 2 ^ (T - 28) * 2 ^ k2 * 2 ^ 28 := by
        rw [Nat.mul_right_comm, hx, Nat.mul_assoc, Nat.mul_assoc, Nat.mul_assoc, ← Nat.pow_add, ← Nat.pow_add, ← Nat.pow_add, show (e + (T : Int) + 156).toNat + k1 = T - 28 + (k2 + 28) by omega]
      exact Nat.eq_of_mul_eq_mul_right (by decide) h1
    obtain ⟨r1, r2⟩ := H x _ e1
    have p := Nat.two_pow_pos (63 - T)
    have e2 : c * 2 ^ 35 = c * 2 ^ (T - 28) * 2 ^ (63 - T) := by rw [Nat.mul_assoc, ← Nat.pow_add, show T - 28 + (63 - T) = 35 by omega]
    rw [r1, r2, e2]
    exact ⟨⟨fun w => Nat.mul_le_mul_right _ w, fun w => Nat.le_of_mul_le_mul_right w p⟩, ⟨fun w => ⟨by rw [w.1], w.2⟩, fun w => ⟨Nat.eq_of_mul_eq_mul_right p w.1, w.2⟩⟩⟩
  · have e1 : 2 ^ (e + (T : Int) + 157).toNat * 2 ^ k1 = 2 ^ (T + 1) * 2 ^ k2 := by rw [← Nat.pow_add, ← Nat.pow_add, show (e + (T : Int) + 157).toNat + k1 = T + 1 + k2 by omega]
    rw [(H _ _ e1).1]; omega
  · rcases Nat.lt_or_ge (4 * n + 148 + k1) k2 with w | w
    · have e1 : 2 ^ (k2 - k1) * 2 ^ k1 = 1 * 2 ^ k2 := by rw [← Nat.pow_add, Nat.one_mul, show k2 - k1 + k1 = k2 by omega]
      refine hcut.1 _ (2 ^ (k2 - k1)) (Nat.pow_le_pow_right (by omega) (by omega)) ((H _ _ e1).1.2 ?_)
      have := Nat.two_pow_pos T; omega
    · have e1 : 2 ^ (4 * n + 148) * 2 ^ k1 = 2 ^ (4 * n + 148 + k1 - k2) * 2 ^ k2 := by rw [← Nat.pow_add, ← Nat.pow_add, show 4 * n + 148 + k1 - k2 + k2 = 4 * n + 148 + k1 by omega]
      refine (H _ _ e1).1.2 (Nat.le_trans (Nat.pow_le_pow_right (by omega) ?_) hM.1)
      omega
  · have e1 : 2 ^ (164 - 4 * n) * 2 ^ k1 = 2 ^ (164 - 4 * n + k1 - k2) * 2 ^ k2 := by rw [← Nat.pow_add, ← Nat.pow_add, show 164 - 4 * n + k1 - k2 + k2 = 164 - 4 * n + k1 by omega]
    rw [(H _ _ e1).1]
    have : 2 ^ (T + 1) ≤ 2 ^ (164 - 4 * n + k1 - k2) := Nat.pow_le_pow_right (by omega) (by omega)
    omega
theorem tq_rM_y {n M T : Nat} (hM : 2 ^ T ≤ M ∧ M < 2 ^ (T + 1)) (e : Int) (mo : Bool) : tq_rM n M e mo = tq_pp n (e + (T : Nat)) (M * 2 ^ (63 - T)) mo := by
  unfold tq_rM
  have : M ≠ 0 := by have := Nat.two_pow_pos T; omega
  rw [if_neg this, tq_log2_eq hM.1 hM.2]
end
section
theorem tq_mag_K {n : Nat} (hn : n = 8 ∨ n = 16 ∨ n = 32) {p : Int} {m : Nat} {e : Int} (h : tq_Parts n p m e) : tq_mag n p.natAbs * 2 ^ (124 - (4 * n - 8)) = m * 2 ^ (e + 124).toNat := by
  obtain ⟨p1, p2, p3, p4, p5, p6⟩ := h
  rw [← p4, Nat.mul_assoc, ← Nat.pow_add, show (e + (4 * (n : Int) - 8)).toNat + (124 - (4 * n - 8)) = (e + 124).toNat by omega]
theorem tq_dvd_rng {m : Nat} (hm : 1 ≤ m ∧ m < 2 ^ 28) : 2 ^ 62 ≤ tq_dvd62 m ∧ tq_dvd62 m < 2 ^ 63 ∧ Nat.log2 m < 28 := by
  have hz : m ≠ 0 := by omega
  obtain ⟨h1, h2⟩ := tq_log2_bd hz
  have h3 := tq_log2_lt28 hm.2 hz
  unfold tq_dvd62
  generalize Nat.log2 m = T at *
  have b1 := Nat.mul_le_mul_right (2 ^ (62 - T)) h1
  have b2 := Nat.mul_lt_mul_of_pos_right h2 (Nat.two_pow_pos (62 - T))
  rw [← Nat.pow_add, show T + (62 - T) = 62 by omega] at b1
  rw [← Nat.pow_add, show T + 1 + (62 - T) = 63 by omega] at b2
  exact ⟨b1, b2, h3⟩
theorem tq_lead_div {n : Nat} (hn : n = 8 ∨ n = 16 ∨ n = 32) {m m' : Nat} {e e' : Int} (hm : 1 ≤ m ∧ m < 2 ^ 28) (hm' : 1 ≤ m' ∧ m' < 2 ^ 28) (he : -124 ≤ e) (he' : -124 ≤ e') :
    tq_rM n (tq_dvd62 m / m') (e - (62 - Nat.log2 m : Nat) - e') (decide (tq_dvd62 m / m' * m' ≠ tq_dvd62 m)) = tq_pp n (e - (62 - Nat.log2 m : Nat) - e' + (Nat.log2 (tq_dvd62 m / m') : Nat)) (tq_dvd62 m / m' * 2 ^ (63 - Nat.log2 (tq_dvd62 m / m'))) (decide (tq_dvd62 m / m' * m' ≠ tq_dvd62 m)) ∧
    tq_LeadX n (tq_cC (m * 2 ^ (e + 124).toNat * 2 ^ 124) (m' * 2 ^ (e' + 124).toNat) false) (tq_cD (m * 2 ^ (e + 124).toNat * 2 ^ 124) (m' * 2 ^ (e' + 124).toNat) false) (e - (62 - Nat.log2 m : Nat) - e' + (Nat.log2 (tq_dvd62 m / m') : Nat)) (tq_dvd62 m / m' * 2 ^ (63 - Nat.log2 (tq_dvd62 m / m'))) (decide (tq_dvd62 m / m' * m' ≠ tq_dvd62 m)) := by
  obtain ⟨d1, d2, d3⟩ := tq_dvd_rng hm
  have hdd : tq_dvd62 m = m * 2 ^ (62 - Nat.log2 m) := rfl
  have hQ1 : 2 ^ 34 ≤ tq_dvd62 m / m' := by
    rw [Nat.le_div_iff_mul_le (by omega)]
    have := Nat.mul_le_mul_left (2 ^ 34) (show m' ≤ 2 ^ 28 by omega)
    rw [← Nat.pow_add] at this
    omega
  have hQ2 : tq_dvd62 m / m' < 2 ^ 63 := Nat.lt_of_le_of_lt (Nat.div_le_self _ _) d2
  have hQ0 : tq_dvd62 m / m' ≠ 0 := by omega
  have hl1 : 34 ≤ Nat.log2 (tq_dvd62 m / m') := (Nat.le_log2 hQ0).2 hQ1
  have hl2 : Nat.log2 (tq_dvd62 m / m') < 63 := (Nat.log2_lt hQ0).2 hQ2
  have hb := tq_log2_bd hQ0
  refine ⟨tq_rM_y hb _ _, ?_⟩
  have hF : 0 < m' * 2 ^ (e' + 124).toNat := Nat.mul_pos (by omega) (Nat.two_pow_pos _)
  refine tq_lead_y hn (tq_cut_c (fun _ => hF)) hb ⟨by omega, by omega⟩ (k1 := (e' + 124).toNat) (k2 := (e + 124).toNat + 94 + Nat.log2 m) (by omega) ?_
  intro x y hxy
  unfold tq_cC tq_cD
  rw [if_neg (by decide), if_neg (by decide)]
  have p := Nat.two_pow_pos ((e + 124).toNat + 94 + Nat.log2 m)
  have e1 : x * (m' * 2 ^ (e' + 124).toNat) = y * m' * 2 ^ ((e + 124).toNat + 94 + Nat.log2 m) := by
    rw [Nat.mul_comm m', ← Nat.mul_assoc, hxy, Nat.mul_right_comm]
  have e2 : m * 2 ^ (e + 124).toNat * 2 ^ 124 * 2 ^ 32 = tq_dvd62 m * 2 ^ ((e + 124).toNat + 94 + Nat.log2 m) := by
    rw [hdd, Nat.mul_assoc, Nat.mul_assoc, Nat.mul_assoc, ← Nat.pow_add, ← Nat.pow_add, ← Nat.pow_add, show (e + 124).toNat + (124 + 32) = 62 - Nat.log2 m + ((e + 124).toNat + 94 + Nat.log2 m) by omega]
  rw [e1, e2]
  have c1 : (y * m' * 2 ^ ((e + 124).toNat + 94 + Nat.log2 m) ≤ tq_dvd62 m * 2 ^ ((e + 124).toNat + 94 + Nat.log2 m)) ↔ y * m' ≤ tq_dvd62 m := ⟨fun w => Nat.le_of_mul_le_mul_right w p, fun w => Nat.mul_le_mul_right _ w⟩
  have c2 : (y * m' * 2 ^ ((e + 124).toNat + 94 + Nat.log2 m) = tq_dvd62 m * 2 ^ ((e + 124).toNat + 94 + Nat.log2 m)) ↔ y * m' = tq_dvd62 m := ⟨fun w => Nat.eq_of_mul_eq_mul_right p w, fun w => by rw [w]⟩
  rw [c1, c2, Nat.le_div_iff_mul_le (by omega)]
  refine ⟨Iff.rfl, ?_⟩
  constructor
  · intro w
    have hy : tq_dvd62 m / m' = y := by rw [← w]; exact Nat.mul_div_cancel _ (by omega)
    refine ⟨hy.symm, decide_eq_false (fun z => z (by rw [hy]; exact w))⟩
  · rintro ⟨w1, w2⟩
    rcases Nat.decEq (tq_dvd62 m / m' * m') (tq_dvd62 m) with z | z
    · rw [decide_eq_true z] at w2; cases w2
    · rw [w1]; exact z
theorem tq_mdivide_spec {nz : Int32} {n : Nat} (h : tq_Sz nz n) {f : Nat → Int32} (hw : tq_WL 200 f) (sq x y : Int32) :
    ∃ r s g, m_divide nz sq f x y = some (r, s, g) ∧ tq_WL 200 g ∧ ((tq_pat n x = -2 ^ (n - 1) ∨ tq_pat n y = -2 ^ (n - 1) ∨ tq_pat n y = 0) → r.toInt = -2 ^ (n - 1)) ∧
      (tq_pat n x ≠ -2 ^ (n - 1) → tq_pat n y ≠ -2 ^ (n - 1) → tq_pat n y ≠ 0 → ∀ m e m' e', tq_Parts n (tq_pat n x) m e → tq_Parts n (tq_pat n y) m' e' →
        r.toInt = tq_sg (decide ((tq_pat n x < 0) ≠ (tq_pat n y < 0))) (if m = 0 then 0 else tq_rM n (tq_dvd62 m / m') (e - (62 - Nat.log2 m : Nat) - e') (decide (tq_dvd62 m / m' * m' ≠ tq_dvd62 m)))) := by
  have hn := h.2
  unfold m_divide m_divide_b24
  have rx := tq_pat_rng (x := x) hn
  have ry := tq_pat_rng (x := y) hn
  by_cases nx : tq_pat n x = -2 ^ (n - 1)
  · rw [if_pos (show ¬ m_isNot nz x = 0 from fun w => (tq_misNot_spec h x).1 w nx)]
    exact ⟨_, _, _, rfl, hw, fun _ => tq_mnot_spec h, fun w => absurd nx w⟩
  · rw [if_neg (show ¬ ¬ m_isNot nz x = 0 from fun w => w ((tq_misNot_spec h x).2 nx))]
    by_cases ny : tq_pat n y = -2 ^ (n - 1)
    · rw [if_pos (show ¬ m_isNot nz y = 0 from fun w => (tq_misNot_spec h y).1 w ny)]
      exact ⟨_, _, _, rfl, hw, fun _ => tq_mnot_spec h, fun _ w => absurd ny w⟩
    · rw [if_neg (show ¬ ¬ m_isNot nz y = 0 from fun w => w ((tq_misNot_spec h y).2 ny))]
      have hpy := tq_mpat_spec h y
      by_cases y0 : tq_pat n y = 0
      · have : m_pattern nz y = 0 := Int32.toInt.inj (by rw [hpy, y0]; rfl)
        rw [if_neg (fun w => w this)]
        exact ⟨_, _, _, rfl, hw, fun _ => tq_mnot_spec h, fun _ _ w => absurd y0 w⟩
      · have : ¬ m_pattern nz y = 0 := fun w => y0 (by rw [← hpy, w]; rfl)
        rw [if_pos this]
        have px := tq_not_ne hn rx nx
        have py := tq_not_ne hn ry ny
        have hU : 4 * n - 8 ≤ 124 ∧ 124 ≤ 200 := by omega
        obtain ⟨g1, e1, w1, fr1, h1⟩ := tq_mload_spec (r := 0) (by omega) h hw x nx (un := 124) (U := 124) rfl hU
        have e1' : m_load nz f 0 x 124 = some g1 := e1
        obtain ⟨g2, e2, w2, fr2, h2⟩ := tq_raise_spec (r := 0) (by omega) w1 (my := 124) (k := 124) rfl (by omega)
        have e2' : m_raise g1 0 124 = some g2 := e2
        obtain ⟨g3, e3, w3, fr3, h3⟩ := tq_mload_spec (r := 4) (by omega) h w2 y ny (un := 124) (U := 124) rfl hU
        have e3' : m_load nz g2 4 y 124 = some g3 := e3
        rw [tq_bd_e e1', tq_bd_e e2', tq_bd_e e3']
        have bx := tq_mg_bd (U := 124) hn px hU.1
        have by' := tq_mg_bd (U := 124) hn py hU.1
        have hE : tq_rv g3 (40 * 0) 40 = tq_mag n (tq_pat n x).natAbs * 2 ^ (124 - (4 * n - 8)) * 2 ^ 124 := by
          rw [tq_Fr_rv fr3 (by omega), h2, h1, Nat.mod_eq_of_lt]
          refine Nat.lt_of_le_of_lt (Nat.mul_le_mul_right _ bx) ?_
          rw [← Nat.pow_add]; exact Nat.pow_lt_pow_right (by omega) (by omega)
        have hFb : tq_mag n (tq_pat n y).natAbs * 2 ^ (124 - (4 * n - 8)) ≤ 2 ^ 390 := Nat.le_trans by' (Nat.pow_le_pow_right (by omega) (by omega))
        have fin : ∀ b : Bool, b = decide ((tq_pat n x < 0) ≠ (tq_pat n y < 0)) → ∃ r s g, m_divide_b79 nz (if b then 1 else 0) 0 g3 = some (r, s, g) ∧ tq_WL 200 g ∧ ∀ m e m' e', tq_Parts n (tq_pat n x) m e → tq_Parts n (tq_pat n y) m' e' →
            r.toInt = tq_sg (decide ((tq_pat n x < 0) ≠ (tq_pat n y < 0))) (if m = 0 then 0 else tq_rM n (tq_dvd62 m / m') (e - (62 - Nat.log2 m : Nat) - e') (decide (tq_dvd62 m / m' * m' ≠ tq_dvd62 m))) := by
          intro b hb
          have run : ∀ m e m' e', tq_Parts n (tq_pat n x) m e → tq_Parts n (tq_pat n y) m' e' → ∃ r g, m_rounded 0 g3 (if b then 1 else 0) nz = some (r, g) ∧ tq_WL 200 g ∧ r.toInt = tq_sg (decide ((tq_pat n x < 0) ≠ (tq_pat n y < 0))) (if m = 0 then 0 else tq_rM n (tq_dvd62 m / m') (e - (62 - Nat.log2 m : Nat) - e') (decide (tq_dvd62 m / m' * m' ≠ tq_dvd62 m))) := by
            intro m e m' e' hp hp'
            rw [tq_mag_K hn hp] at hE
            have h3' := h3
            rw [tq_mag_K hn hp'] at h3' hFb
            obtain ⟨p1, p2, p3, p4, p5, p6⟩ := hp
            obtain ⟨p1', p2', p3', p4', p5', p6'⟩ := hp'
            rw [← hb]
            by_cases mz : m = 0
            · rw [if_pos mz]
              rw [mz, Nat.zero_mul, Nat.zero_mul] at hE
              refine ⟨0, g3, tq_ref_zero _ _ w3 hE, w3, ?_⟩
              unfold tq_sg; cases b <;> rfl
            · rw [if_neg mz]
              have hm1' := p5' y0
              obtain ⟨l1, l2⟩ := tq_lead_div hn (m := m) (m' := m') (e := e) (e' := e') ⟨by omega, p1⟩ ⟨hm1', p1'⟩ (by omega) (by omega)
              have hE0 : m * 2 ^ (e + 124).toNat * 2 ^ 124 ≠ 0 := Nat.ne_of_gt (Nat.mul_pos (Nat.mul_pos (by omega) (Nat.two_pow_pos _)) (Nat.two_pow_pos _))
              obtain ⟨r, g, e4, w4, hr⟩ := tq_ref_round (.inl ⟨rfl, rfl⟩) hE0 (fun _ => hFb) (fun _ => Nat.mul_pos (by omega) (Nat.two_pow_pos _)) h (if b then 1 else 0) w3 hE h3' l2
              refine ⟨r, g, e4, w4, ?_⟩
              rw [hr, l1]; unfold tq_sg; cases b <;> rfl
          obtain ⟨m0, e0, hp0⟩ := tq_parts_ex h x nx
          obtain ⟨m0', e0', hp0'⟩ := tq_parts_ex h y ny
          obtain ⟨r, g, e4, w4, hr⟩ := run m0 e0 m0' e0' hp0 hp0'
          refine ⟨r, 0, g, ?_, w4, fun m e m' e' hp hp' => ?_⟩
          · unfold m_divide_b79; rw [tq_bd_e e4]; rfl
          · obtain ⟨r', g', e5, _, hr'⟩ := run m e m' e' hp hp'
            have := e4.symm.trans e5
            cases this
            exact hr'
        rw [tq_mneg_spec h x, tq_mneg_spec h y]
        have done : ∃ r s g, (if (if decide (tq_pat n x < 0) = true then (1 : Int32) else 0) = (if decide (tq_pat n y < 0) = true then 1 else 0) then m_divide_b79 nz 0 0 g3 else m_divide_b79 nz 1 0 g3) = some (r, s, g) ∧ tq_WL 200 g ∧ ∀ m e m' e', tq_Parts n (tq_pat n x) m e → tq_Parts n (tq_pat n y) m' e' →
            r.toInt = tq_sg (decide ((tq_pat n x < 0) ≠ (tq_pat n y < 0))) (if m = 0 then 0 else tq_rM n (tq_dvd62 m / m') (e - (62 - Nat.log2 m : Nat) - e') (decide (tq_dvd62 m / m' * m' ≠ tq_dvd62 m))) := by
          by_cases s1 : tq_pat n x < 0 <;> by_cases s2 : tq_pat n y < 0
          · rw [decide_eq_true s1, decide_eq_true s2, if_pos rfl]; exact fin false (by rw [decide_eq_false]; simp [s1, s2])
          · rw [decide_eq_true s1, decide_eq_false s2, if_neg (by decide)]; exact fin true (by rw [decide_eq_true]; simp [s1, s2])
          · rw [decide_eq_false s1, decide_eq_true s2, if_neg (by decide)]; exact fin true (by rw [decide_eq_true]; simp [s1, s2])
          · rw [decide_eq_false s1, decide_eq_false s2, if_pos rfl]; exact fin false (by rw [decide_eq_false]; simp [s1, s2])
        obtain ⟨r, s, g, d1, d2, d3⟩ := done
        exact ⟨r, s, g, d1, d2, fun w => absurd w (by rintro (z | z | z); exact nx z; exact ny z; exact y0 z), fun _ _ _ m e m' e' hp hp' => d3 m e m' e' hp hp'⟩
theorem tq_sq_le {y R X : Nat} (h1 : R * R ≤ X) (h2 : X < (R + 1) * (R + 1)) : (y * y ≤ X ↔ y ≤ R) ∧ (y * y = X ↔ y = R ∧ R * R = X) := by
  constructor
  · constructor
    · intro w
      rcases Nat.lt_or_ge R y with z | z
      · have := Nat.mul_le_mul (show R + 1 ≤ y from z) (show R + 1 ≤ y from z); omega
      · exact z
    · intro w; exact Nat.le_trans (Nat.mul_le_mul w w) h1
  · constructor
    · intro w
      have hy : y = R := by
        rcases Nat.lt_trichotomy y R with z | z | z
        · have := Nat.mul_lt_mul'' z z; omega
        · exact z
        · have := Nat.mul_le_mul (show R + 1 ≤ y from z) (show R + 1 ≤ y from z); omega
      subst hy
      exact ⟨rfl, w⟩
    · rintro ⟨w1, w2⟩; rw [w1]; exact w2
theorem tq_rsh_rng {m : Nat} {e : Int} (hm : 1 ≤ m ∧ m < 2 ^ 28) : 2 ^ 60 ≤ m * 2 ^ tq_rsh m e ∧ m * 2 ^ tq_rsh m e < 2 ^ 62 ∧ (e - tq_rsh m e) % 2 = 0 ∧ tq_rsh m e ≤ 61 := by
  have hz : m ≠ 0 := by omega
  obtain ⟨h1, h2⟩ := tq_log2_bd hz
  have h3 := tq_log2_lt28 hm.2 hz
  have key : (tq_rsh m e = 61 - Nat.log2 m ∨ tq_rsh m e = 60 - Nat.log2 m) ∧ (e - tq_rsh m e) % 2 = 0 := by
    unfold tq_rsh
    split
    · exact ⟨.inl rfl, by omega⟩
    · exact ⟨.inr rfl, by omega⟩
  obtain ⟨k1, k2⟩ := key
  generalize tq_rsh m e = S at *
  generalize Nat.log2 m = T at *
  have b1 := Nat.mul_le_mul_right (2 ^ S) h1
  have b2 := Nat.mul_lt_mul_of_pos_right h2 (Nat.two_pow_pos S)
  rw [← Nat.pow_add] at b1 b2
  refine ⟨Nat.le_trans (Nat.pow_le_pow_right (by omega) (by omega)) b1, Nat.lt_of_lt_of_le b2 (Nat.pow_le_pow_right (by omega) (by omega)), k2, by omega⟩
theorem tq_lead_root {n : Nat} (hn : n = 8 ∨ n = 16 ∨ n = 32) {m R : Nat} {e : Int} (hm : 1 ≤ m ∧ m < 2 ^ 28) (he : -124 ≤ e ∧ e ≤ 124) (h1 : R * R ≤ m * 2 ^ tq_rsh m e) (h2 : m * 2 ^ tq_rsh m e < (R + 1) * (R + 1)) (F : Nat) :
    tq_rM n R ((e - tq_rsh m e) / 2) (decide (R * R ≠ m * 2 ^ tq_rsh m e)) = tq_pp n ((e - tq_rsh m e) / 2 + (30 : Nat)) (R * 2 ^ (63 - 30)) (decide (R * R ≠ m * 2 ^ tq_rsh m e)) ∧
    tq_LeadX n (tq_cC (m * 2 ^ (e + 124).toNat * 2 ^ 124) F true) (tq_cD (m * 2 ^ (e + 124).toNat * 2 ^ 124) F true) ((e - tq_rsh m e) / 2 + (30 : Nat)) (R * 2 ^ (63 - 30)) (decide (R * R ≠ m * 2 ^ tq_rsh m e)) := by
  obtain ⟨r1, r2, r3, r4⟩ := tq_rsh_rng (e := e) hm
  have hR : 2 ^ 30 ≤ R ∧ R < 2 ^ (30 + 1) := by
    constructor
    · rcases Nat.lt_or_ge R (2 ^ 30) with z | z
      · have := Nat.mul_le_mul (show R + 1 ≤ 2 ^ 30 from z) (show R + 1 ≤ 2 ^ 30 from z); omega
      · exact z
    · rcases Nat.lt_or_ge R (2 ^ 31) with z | z
      · exact z
      · have := Nat.mul_le_mul z z; omega
  refine ⟨tq_rM_y hR _ _, ?_⟩
  refine tq_lead_y hn (tq_cut_c (fun w => by cases w)) hR ⟨by omega, by omega⟩ (k1 := 200) (k2 := ((e - tq_rsh m e) / 2 + 356).toNat) (by omega) ?_
  intro x y hxy
  unfold tq_cC tq_cD
  rw [if_pos rfl, if_pos rfl]
  obtain ⟨s1, s2⟩ := tq_sq_le (y := y) h1 h2
  have hx2 : x * x * 2 ^ 400 = y * y * 2 ^ (e - tq_rsh m e + 712).toNat := by
    have this : x * 2 ^ 200 * (x * 2 ^ 200) = y * 2 ^ ((e - tq_rsh m e) / 2 + 356).toNat * (y * 2 ^ ((e - tq_rsh m e) / 2 + 356).toNat) := by rw [hxy]
    rw [Nat.mul_mul_mul_comm, Nat.mul_mul_mul_comm y, ← Nat.pow_add, ← Nat.pow_add, show ((e - tq_rsh m e) / 2 + 356).toNat + ((e - tq_rsh m e) / 2 + 356).toNat = (e - tq_rsh m e + 712).toNat by omega] at this
    exact this
  have hb2 : m * 2 ^ (e + 124).toNat * 2 ^ 124 * 2 ^ 64 * 2 ^ 400 = m * 2 ^ tq_rsh m e * 2 ^ (e - tq_rsh m e + 712).toNat := by
    rw [Nat.mul_assoc, Nat.mul_assoc, Nat.mul_assoc, Nat.mul_assoc, ← Nat.pow_add, ← Nat.pow_add, ← Nat.pow_add, ← Nat.pow_add, show (e + 124).toNat + (124 + (64 + 400)) = tq_rsh m e + (e - tq_rsh m e + 712).toNat by omega]
  have p4 := Nat.two_pow_pos 400
  have pk := Nat.two_pow_pos (e - tq_rsh m e + 712).toNat
  have c1 : (x * x ≤ m * 2 ^ (e + 124).toNat * 2 ^ 124 * 2 ^ 64) ↔ y * y ≤ m * 2 ^ tq_rsh m e := by
    constructor
    · intro w
      have := Nat.mul_le_mul_right (2 ^ 400) w
      rw [hx2, hb2] at this
      exact Nat.le_of_mul_le_mul_right this pk
    · intro w
      have := Nat.mul_le_mul_right (2 ^ (e - tq_rsh m e + 712).toNat) w
      rw [← hx2, ← hb2] at this
      exact Nat.le_of_mul_le_mul_right this p4
  have c2 : (x * x = m * 2 ^ (e + 124).toNat * 2 ^ 124 * 2 ^ 64) ↔ y * y = m * 2 ^ tq_rsh m e := by
    constructor
    · intro w
      rw [w, hb2] at hx2
      exact (Nat.eq_of_mul_eq_mul_right pk hx2).symm
    · intro w
      rw [w, ← hb2] at hx2
      exact Nat.eq_of_mul_eq_mul_right p4 hx2
  rw [c1, c2, s1, s2]
  refine ⟨Iff.rfl, ?_⟩
  constructor
  · rintro ⟨w1, w2⟩; exact ⟨w1, decide_eq_false (fun z => z w2)⟩
  · rintro ⟨w1, w2⟩
    rcases Nat.decEq (R * R) (m * 2 ^ tq_rsh m e) with z | z
    · rw [decide_eq_true z] at w2; cases w2
    · exact ⟨w1, z⟩
theorem tq_mroot_spec {nz : Int32} {n : Nat} (h : tq_Sz nz n) {f : Nat → Int32} (hw : tq_WL 200 f) (sq x : Int32) :
    ∃ r s g, m_root nz sq f x = some (r, s, g) ∧ tq_WL 200 g ∧ (tq_pat n x < 0 → r.toInt = -2 ^ (n - 1)) ∧ (tq_pat n x = 0 → r.toInt = 0) ∧
      (0 < tq_pat n x → ∀ m e R, tq_Parts n (tq_pat n x) m e → R * R ≤ m * 2 ^ tq_rsh m e → m * 2 ^ tq_rsh m e < (R + 1) * (R + 1) → r.toInt = tq_rM n R ((e - tq_rsh m e) / 2) (decide (R * R ≠ m * 2 ^ tq_rsh m e))) := by
  have hn := h.2
  unfold m_root m_root_b16
  have rx := tq_pat_rng (x := x) hn
  by_cases nx : tq_pat n x = -2 ^ (n - 1)
  · rw [if_pos (show ¬ m_isNot nz x = 0 from fun w => (tq_misNot_spec h x).1 w nx)]
    have : tq_pat n x < 0 := by rw [nx]; rcases hn with rfl | rfl | rfl <;> decide
    exact ⟨_, _, _, rfl, hw, fun _ => tq_mnot_spec h, fun w => by omega, fun w => by omega⟩
  · rw [if_neg (show ¬ ¬ m_isNot nz x = 0 from fun w => w ((tq_misNot_spec h x).2 nx)), tq_mneg_spec h x]
    by_cases s : tq_pat n x < 0
    · rw [decide_eq_true s, if_neg (by decide)]
      exact ⟨_, _, _, rfl, hw, fun _ => tq_mnot_spec h, fun w => by omega, fun w => by omega⟩
    · rw [decide_eq_false s, if_pos (by decide)]
      have px := tq_not_ne hn rx nx
      have hU : 4 * n - 8 ≤ 124 ∧ 124 ≤ 200 := by omega
      obtain ⟨g1, e1, w1, fr1, h1⟩ := tq_mload_spec (r := 0) (by omega) h hw x nx (un := 124) (U := 124) rfl hU
      have e1' : m_load nz f 0 x 124 = some g1 := e1
      obtain ⟨g2, e2, w2, fr2, h2⟩ := tq_raise_spec (r := 0) (by omega) w1 (my := 124) (k := 124) rfl (by omega)
      have e2' : m_raise g1 0 124 = some g2 := e2
      rw [tq_bd_e e1', tq_bd_e e2']
      have bx := tq_mg_bd (U := 124) hn px hU.1
      have hE : tq_rv g2 (40 * 0) 40 = tq_mag n (tq_pat n x).natAbs * 2 ^ (124 - (4 * n - 8)) * 2 ^ 124 := by
        rw [h2, h1, Nat.mod_eq_of_lt]
        refine Nat.lt_of_le_of_lt (Nat.mul_le_mul_right _ bx) ?_
        rw [← Nat.pow_add]; exact Nat.pow_lt_pow_right (by omega) (by omega)
      by_cases x0 : tq_pat n x = 0
      · have em : tq_mag n (tq_pat n x).natAbs = 0 := tq_mag_eq hn (.inl ⟨by omega, rfl⟩)
        rw [em, Nat.zero_mul, Nat.zero_mul] at hE
        rw [tq_bd_e (tq_ref_zero 0 nz w2 hE)]
        exact ⟨0, 1, g2, rfl, w2, fun w => by omega, fun _ => rfl, fun w => by omega⟩
      · have run : ∀ m e R, tq_Parts n (tq_pat n x) m e → R * R ≤ m * 2 ^ tq_rsh m e → m * 2 ^ tq_rsh m e < (R + 1) * (R + 1) → ∃ r g, m_rounded 1 g2 0 nz = some (r, g) ∧ tq_WL 200 g ∧ r.toInt = tq_rM n R ((e - tq_rsh m e) / 2) (decide (R * R ≠ m * 2 ^ tq_rsh m e)) := by
          intro m e R hp q1 q2
          rw [tq_mag_K hn hp] at hE
          obtain ⟨p1, p2, p3, p4, p5, p6⟩ := hp
          have hm1 := p5 x0
          obtain ⟨l1, l2⟩ := tq_lead_root hn (e := e) ⟨hm1, p1⟩ ⟨by omega, by omega⟩ q1 q2 (tq_rv g2 (40 * 4) 40)
          have hE0 : m * 2 ^ (e + 124).toNat * 2 ^ 124 ≠ 0 := Nat.ne_of_gt (Nat.mul_pos (Nat.mul_pos (by omega) (Nat.two_pow_pos _)) (Nat.two_pow_pos _))
          obtain ⟨r, g, e4, w4, hr⟩ := tq_ref_round (sq := 1) (.inr ⟨by decide, rfl⟩) hE0 (fun w => by cases w) (fun w => by cases w) h 0 w2 hE rfl l2
          exact ⟨r, g, e4, w4, by rw [hr, if_pos rfl, l1]⟩
        have hroot : ∀ X : Nat, ∃ R, R * R ≤ X ∧ X < (R + 1) * (R + 1) := by
          intro X
          induction X with
          | zero => exact ⟨0, by omega, by omega⟩
          | succ X ih =>
            obtain ⟨R, a, b⟩ := ih
            rcases Nat.lt_or_ge (X + 1) ((R + 1) * (R + 1)) with z | z
            · exact ⟨R, by omega, z⟩
            · refine ⟨R + 1, z, ?_⟩
              have : (R + 1 + 1) * (R + 1 + 1) = (R + 1) * (R + 1) + 2 * (R + 1) + 1 := by rw [Nat.add_mul, Nat.mul_add, Nat.mul_one, Nat.one_mul]; omega
              omega
        obtain ⟨m0, e0, hp0⟩ := tq_parts_ex h x nx
        obtain ⟨R0, a0, b0⟩ := hroot (m0 * 2 ^ tq_rsh m0 e0)
        obtain ⟨r, g, e4, w4, hr⟩ := run m0 e0 R0 hp0 a0 b0
        rw [tq_bd_e e4]
        refine ⟨r, 1, g, rfl, w4, fun w => absurd w s, fun w => absurd w x0, fun _ m e R hp q1 q2 => ?_⟩
        obtain ⟨r', g', e5, _, hr'⟩ := run m e R hp q1 q2
        have := e4.symm.trans e5
        cases this
        exact hr'
end
section
theorem tq_ix32 (r i : Nat) : (32 : Int32) * nI r + nI i = nI (32 * r + i) := by
  show nI 32 * nI r + nI i = _
  unfold nI; rw [← Int32.ofNat_mul, ← Int32.ofNat_add]
theorem tq_ixok3 {r i : Nat} (hr : r ≤ 1) (hi : i < 32) : ¬ (nI (32 * r + i) < 0 ∨ 64 ≤ (nI (32 * r + i)).toNatClampNeg) := tq_nI_ok (by omega) (by omega)
theorem tq_ixcl3 {r i : Nat} (hr : r ≤ 1) (hi : i < 32) : (nI (32 * r + i)).toNatClampNeg = 32 * r + i := tq_nI_cl (by omega)
/-- nothing but sum r may differ -/
def tq_Gr (r : Nat) (f g : Nat → Int32) : Prop := ∀ x, x / 32 ≠ r → g x = f x
theorem tq_Gr_rv {r n : Nat} {f g : Nat → Int32} (hn : n ≤ 32) (h : tq_Gr r f g) {q : Nat} (hq : q ≠ r) : tq_rv g (32 * q) n = tq_rv f (32 * q) n := tq_rv_congr (fun j hj => h _ (by omega))
theorem tq_nz_eq {nz : Int32} {n : Nat} (h : tq_Sz nz n) : nz = nI n := tq_of_i32 h.1
theorem tq_lost_loop {q n : Nat} (hq : q ≤ 1) (hn : n ≤ 32) (h1n : 1 ≤ n) (f : Nat → Int32) : ∀ fu i (v : Int32), i ≤ n - 1 → n - 1 < fu + i → (v = 0 ∨ v = 1) →
    ∃ r, m_lost_b29 (nI n) f (nI q) fu v (nI i) = some r ∧ (r = 0 ∨ r = 1) ∧ (r = 1 ↔ v = 1 ∧ ∀ j, i ≤ j → j < n - 1 → f (32 * q + j) = 0) := by
  intro fu
  induction fu with
  | zero => intro i v a b c; omega
  | succ fu ih =>
    intro i v h1 h2 hv
    unfold m_lost_b29 m_lost_b62
    rw [tq_nI_sub h1n (by omega)]
    by_cases h : n - 1 ≤ i
    · rw [if_pos ((tq_nI_le (by omega) (by omega)).2 h)]
      exact ⟨v, rfl, hv, ⟨fun w => ⟨w, fun j a b => by omega⟩, fun w => w.1⟩⟩
    · rw [if_neg (fun w => h ((tq_nI_le (by omega) (by omega)).1 w)), tq_ix32, if_neg (tq_ixok3 hq (by omega)), tq_ixcl3 hq (by omega), tq_nI_add]
      by_cases z : v = 0
      · rw [if_pos z]
        obtain ⟨r, e, r1, r2⟩ := ih (i + 1) 0 (by omega) (by omega) (.inl rfl)
        refine ⟨r, e, r1, ⟨fun w => absurd (r2.1 w).1 (by decide), fun w => absurd (z.symm.trans w.1) (by decide)⟩⟩
      · rw [if_neg z]
        have v1 := hv.resolve_left z
        by_cases t : f (32 * q + i) = 0
        · rw [if_neg (fun w => w t)]
          obtain ⟨r, e, r1, r2⟩ := ih (i + 1) 1 (by omega) (by omega) (.inr rfl)
          refine ⟨r, e, r1, ⟨fun w => ⟨v1, fun j a b => ?_⟩, fun w => r2.2 ⟨rfl, fun j a b => w.2 j (by omega) b⟩⟩⟩
          rcases Nat.eq_or_lt_of_le a with y | y
          · subst y; exact t
          · exact (r2.1 w).2 j (by omega) b
        · rw [if_pos t]
          obtain ⟨r, e, r1, r2⟩ := ih (i + 1) 0 (by omega) (by omega) (.inl rfl)
          exact ⟨r, e, r1, ⟨fun w => absurd (r2.1 w).1 (by decide), fun w => absurd (w.2 i (Nat.le_refl _) (by omega)) t⟩⟩
theorem tq_rv_last {f : Nat → Int32} {b n : Nat} (h1n : 1 ≤ n) : tq_rv f b n = tq_rv f b (n - 1) + tq_lim (f (b + (n - 1))) * 2 ^ (16 * (n - 1)) := by
  obtain ⟨k, rfl⟩ : ∃ k, n = k + 1 := ⟨n - 1, by omega⟩
  rfl
theorem tq_p15 {n : Nat} (h1n : 1 ≤ n) : 2 ^ (16 * n - 1) = 32768 * 2 ^ (16 * (n - 1)) := by
  have h := Nat.pow_add 2 15 (16 * (n - 1))
  rw [show 15 + 16 * (n - 1) = 16 * n - 1 by omega] at h; exact h
theorem tq_mlost_spec {nz : Int32} {n : Nat} (h : tq_Sz nz n) {q : Nat} (hq : q ≤ 1) {f : Nat → Int32} (hw : tq_WL 64 f) : ∃ r, m_lost nz f (nI q) = some r ∧ ((tq_rv f (32 * q) n = 2 ^ (16 * n - 1) ∧ r = 1) ∨ (tq_rv f (32 * q) n ≠ 2 ^ (16 * n - 1) ∧ r = 0)) := by
  have hn := h.2
  unfold m_lost m_lost_b26
  rw [tq_nz_eq h]
  have e1 : (32 : Int32) * nI q + nI n - 1 = nI (32 * q + (n - 1)) := by
    rw [tq_ix32]
    have : (1 : Int32) = nI 1 := rfl
    rw [this, tq_ixs (by omega) (by omega)]; congr 1; omega
  rw [e1, if_neg (tq_ixok3 hq (by omega)), tq_ixcl3 hq (by omega)]
  have hl := hw (32 * q + (n - 1)) (by omega)
  have htop : (f (32 * q + (n - 1)) = 32768) ↔ tq_lim (f (32 * q + (n - 1))) = 32768 := by
    constructor
    · intro w; rw [w]; rfl
    · intro w; apply Int32.toInt.inj
      have := tq_lim_i hl.1
      show _ = (32768 : Int)
      omega
  have hlast := tq_rv_last (f := f) (b := 32 * q) (n := n) (by omega)
  have hp := tq_p15 (n := n) (by omega)
  have hlow : tq_rv f (32 * q) (n - 1) < 2 ^ (16 * (n - 1)) := tq_rv_lt (fun j hj => tq_lim_lt hw (by omega))
  have key : (f (32 * q + (n - 1)) = 32768 ∧ ∀ j, 0 ≤ j → j < n - 1 → f (32 * q + j) = 0) ↔ tq_rv f (32 * q) n = 2 ^ (16 * n - 1) := by
    rw [hlast, hp, htop]
    constructor
    · rintro ⟨a, b⟩
      rw [a, tq_rv_zero (fun j hj => b j (by omega) hj), Nat.zero_add]
    · intro w
      have pz := Nat.two_pow_pos (16 * (n - 1))
      have a : tq_lim (f (32 * q + (n - 1))) = 32768 := by
        have := congrArg (· / 2 ^ (16 * (n - 1))) w
        simp only [Nat.add_mul_div_right _ _ pz, Nat.mul_div_cancel _ pz, Nat.div_eq_of_lt hlow] at this
        omega
      refine ⟨a, fun j _ hj => ?_⟩
      have hz : tq_rv f (32 * q) (n - 1) = 0 := by rw [a] at w; omega
      exact tq_rv_eq0 hw (k := n - 1) (by omega) hz j hj
  have fin : ∀ v : Int32, (v = 0 ∨ v = 1) → (v = 1 ↔ f (32 * q + (n - 1)) = 32768) → ∃ r, m_lost_b29 (nI n) f (nI q) 41 v 0 = some r ∧ ((tq_rv f (32 * q) n = 2 ^ (16 * n - 1) ∧ r = 1) ∨ (tq_rv f (32 * q) n ≠ 2 ^ (16 * n - 1) ∧ r = 0)) := by
    intro v hv hiff
    obtain ⟨r, e, r1, r2⟩ := tq_lost_loop (n := n) hq (by omega) (by omega) f 41 0 v (by omega) (by omega) hv
    refine ⟨r, e, ?_⟩
    rw [hiff, key] at r2
    rcases r1 with z | z
    · right; exact ⟨fun w => by rw [r2.2 w] at z; exact absurd z (by decide), z⟩
    · left; exact ⟨r2.1 z, z⟩
  by_cases t : f (32 * q + (n - 1)) = 32768
  · rw [if_neg (fun w => w t)]; exact fin 1 (.inr rfl) ⟨fun _ => t, fun _ => rfl⟩
  · rw [if_pos t]; exact fin 0 (.inl rfl) ⟨fun w => absurd w (by decide), fun w => absurd w t⟩
theorem tq_lose_loop {q n : Nat} (hq : q ≤ 1) (hn : n ≤ 32) (h1n : 1 ≤ n) (f0 : Nat → Int32) : ∀ fu i (f : Nat → Int32), i ≤ n → n < fu + i → tq_WL 64 f → tq_Gr q f0 f → (∀ j, j < i → f (32 * q + j) = if j = n - 1 then 32768 else 0) →
    ∃ g, m_lose_b2 (nI n) (nI q) fu (nI i) f = some g ∧ tq_WL 64 g ∧ tq_Gr q f0 g ∧ (∀ j, j < n → g (32 * q + j) = if j = n - 1 then 32768 else 0) := by
  intro fu
  induction fu with
  | zero => intro i f a b c; omega
  | succ fu ih =>
    intro i f h1 h2 hw hg hs
    unfold m_lose_b2 m_lose_b36
    rw [tq_nI_sub h1n (by omega)]
    by_cases h : n ≤ i
    · rw [if_pos ((tq_nI_le (by omega) (by omega)).2 h)]
      exact ⟨f, rfl, hw, hg, fun j hj => hs j (by omega)⟩
    · have g3 := tq_ixok3 (i := i) hq (by omega)
      rw [if_neg (fun w => h ((tq_nI_le (by omega) (by omega)).1 w)), tq_ix32]
      simp only [if_neg g3]
      rw [tq_ixcl3 hq (by omega), tq_nI_add]
      have go : ∀ t : Int32, (t = if i = n - 1 then 32768 else 0) → ∃ g, m_lose_b2 (nI n) (nI q) fu (nI (i + 1)) (upd f (32 * q + i) t) = some g ∧ tq_WL 64 g ∧ tq_Gr q f0 g ∧ (∀ j, j < n → g (32 * q + j) = if j = n - 1 then 32768 else 0) := by
        intro t ht
        apply ih (i + 1) _ (by omega) (by omega)
        · apply tq_WL_upd hw; rw [ht]; split <;> decide
        · intro x hx; rw [tq_upI_ne (by omega)]; exact hg x hx
        · intro j hj
          rcases Nat.lt_or_ge j i with z | z
          · rw [tq_upI_ne (by omega)]; exact hs j z
          · have : j = i := by omega
            subst this; rw [tq_upI_at, ht]
      by_cases e : i = n - 1
      · rw [if_neg (fun w => w (by rw [e]))]
        exact go 32768 (by rw [if_pos e])
      · have : ¬ nI i = nI (n - 1) := fun w => e (by
          have := congrArg Int32.toInt w
          rw [tq_nI_i (by omega), tq_nI_i (by omega)] at this; omega)
        rw [if_pos this]
        exact go 0 (by rw [if_neg e])
theorem tq_mlose_spec {nz : Int32} {n : Nat} (h : tq_Sz nz n) {q : Nat} (hq : q ≤ 1) {f : Nat → Int32} (hw : tq_WL 64 f) : ∃ g, m_lose nz f (nI q) = some g ∧ tq_WL 64 g ∧ tq_Gr q f g ∧ tq_rv g (32 * q) n = 2 ^ (16 * n - 1) := by
  have hn := h.2
  unfold m_lose
  rw [tq_nz_eq h]
  obtain ⟨g, e, w, fr, hs⟩ := tq_lose_loop hq (n := n) (by omega) (by omega) f 41 0 f (by omega) (by omega) hw (fun _ _ => rfl) (fun j hj => by omega)
  refine ⟨g, e, w, fr, ?_⟩
  rw [tq_rv_last (by omega), tq_rv_zero (fun j hj => by rw [hs j (by omega), if_neg (by omega)]), hs (n - 1) (by omega), if_pos rfl, tq_p15 (by omega), Nat.zero_add]; rfl
theorem tq_clear_loop {q n : Nat} (hq : q ≤ 1) (hn : n ≤ 32) (f0 : Nat → Int32) : ∀ fu i (f : Nat → Int32), i ≤ n → n < fu + i → tq_WL 64 f → tq_Gr q f0 f → (∀ j, j < i → f (32 * q + j) = 0) →
    ∃ g, m_clear_b11 (nI n) (nI q) fu (nI i) f = some (1, g) ∧ tq_WL 64 g ∧ tq_Gr q f0 g ∧ (∀ j, j < n → g (32 * q + j) = 0) := by
  intro fu
  induction fu with
  | zero => intro i f a b c; omega
  | succ fu ih =>
    intro i f h1 h2 hw hg hs
    unfold m_clear_b11
    by_cases h : n ≤ i
    · rw [if_pos ((tq_nI_le (by omega) (by omega)).2 h)]
      exact ⟨f, rfl, hw, hg, fun j hj => hs j (by omega)⟩
    · rw [if_neg (fun w => h ((tq_nI_le (by omega) (by omega)).1 w)), tq_ix32, if_neg (tq_ixok3 hq (by omega)), tq_ixcl3 hq (by omega), tq_nI_add]
      apply ih (i + 1) _ (by omega) (by omega)
      · exact tq_WL_upd hw (by decide)
      · intro x hx; rw [tq_upI_ne (by omega)]; exact hg x hx
      · intro j hj
        rcases Nat.lt_or_ge j i with z | z
        · rw [tq_upI_ne (by omega)]; exact hs j z
        · have : j = i := by omega
          subst this; rw [tq_upI_at]
theorem tq_pour_loop {q r n : Nat} (hq : q ≤ 1) (hr : r ≤ 4) (hn : n ≤ 32) {lf : Nat → Int32} (hl : tq_WL 200 lf) (mi : Int32) {f0 : Nat → Int32} (hw0 : tq_WL 64 f0) : ∀ fu i (c : Int32) (f : Nat → Int32), i ≤ n → n < fu + i → (-1 ≤ c.toInt ∧ c.toInt ≤ 1) → tq_WL 64 f → tq_Gr q f0 f → (∀ j, i ≤ j → j < n → f (32 * q + j) = f0 (32 * q + j)) →
    ((tq_rv f (32 * q) i : Nat) : Int) + c.toInt * ((2 ^ (16 * i) : Nat) : Int) = (tq_rv f0 (32 * q) i : Nat) + (if mi = 0 then (tq_rv lf (40 * r) i : Int) else -(tq_rv lf (40 * r) i : Int)) →
    ∃ g c', m_pour_b6 (nI n) lf (nI q) (nI r) mi fu c (nI i) f = some g ∧ tq_WL 64 g ∧ tq_Gr q f0 g ∧ ((tq_rv g (32 * q) n : Nat) : Int) + c' * ((2 ^ (16 * n) : Nat) : Int) = (tq_rv f0 (32 * q) n : Nat) + (if mi = 0 then (tq_rv lf (40 * r) n : Int) else -(tq_rv lf (40 * r) n : Int)) := by
  intro fu
  induction fu with
  | zero => intro i c f a b; omega
  | succ fu ih =>
    intro i c f h1 h2 hc hw hg hk hs
    unfold m_pour_b6 m_pour_b59
    by_cases h : n ≤ i
    · have : i = n := by omega
      subst this
      rw [if_pos ((tq_nI_le (by omega) (by omega)).2 h)]
      exact ⟨f, c.toInt, rfl, hw, hg, hs⟩
    · have g3 := tq_ixok3 (i := i) hq (by omega)
      have g4 := tq_ixok (i := i) hr (by omega)
      rw [if_neg (fun w => h ((tq_nI_le (by omega) (by omega)).1 w)), tq_ix32, tq_ix40]
      simp only [if_neg g3, if_neg g4, tq_nm_e]
      rw [tq_ixcl3 hq (by omega), tq_ixcl hr (by omega), tq_nI_add]
      have ea : f (32 * q + i) = f0 (32 * q + i) := hk i (Nat.le_refl _) (by omega)
      rw [ea]
      have la := hw0 (32 * q + i) (by omega)
      have lb := hl (40 * r + i) (by omega)
      have go : ∀ t : Int32, t.toInt = (if mi = 0 then (tq_lim (lf (40 * r + i)) : Int) else -(tq_lim (lf (40 * r + i)) : Int)) → ∃ g c', m_pour_b6 (nI n) lf (nI q) (nI r) mi fu ((f0 (32 * q + i) + t + c) >>> ((16 : Int32) &&& 31)) (nI (i + 1)) (upd f (32 * q + i) ((f0 (32 * q + i) + t + c) &&& 65535)) = some g ∧ tq_WL 64 g ∧ tq_Gr q f0 g ∧ ((tq_rv g (32 * q) n : Nat) : Int) + c' * ((2 ^ (16 * n) : Nat) : Int) = (tq_rv f0 (32 * q) n : Nat) + (if mi = 0 then (tq_rv lf (40 * r) n : Int) else -(tq_rv lf (40 * r) n : Int)) := by
        intro t ht
        have lim1 := tq_lim_i la.1
        have lim2 := tq_lim_i lb.1
        have tb : -65536 < t.toInt ∧ t.toInt < 65536 := by rw [ht]; split <;> omega
        have e1 : (f0 (32 * q + i) + t).toInt = (f0 (32 * q + i)).toInt + t.toInt := tq_i32_add (by omega)
        have e2 : (f0 (32 * q + i) + t + c).toInt = (f0 (32 * q + i)).toInt + t.toInt + c.toInt := by rw [tq_i32_add (by rw [e1]; omega), e1]
        generalize f0 (32 * q + i) + t + c = s at *
        have e3 := tq_sar16 s
        have e4 := tq_and16 s
        have e5 := tq_lim_i (x := s &&& 65535) (by rw [e4]; omega)
        generalize s >>> ((16 : Int32) &&& 31) = c2 at *
        apply ih (i + 1) c2 _ (by omega) (by omega) (by omega)
        · exact tq_WL_upd16 hw s
        · intro x hx; rw [tq_upI_ne (by omega)]; exact hg x hx
        · intro j h3 h4; rw [tq_upI_ne (by omega)]; exact hk j (by omega) h4
        · have r1 : ∀ (h : Nat → Int32) (z k : Nat), tq_rv h z (k + 1) = tq_rv h z k + tq_lim (h (z + k)) * 2 ^ (16 * k) := fun _ _ _ => rfl
          rw [r1, r1, r1, tq_upI_at, tq_p16, tq_rv_congr (g := f) (c := 32 * q) (fun j hj => by rw [tq_upI_ne (by omega)])]
          have key : (tq_lim (s &&& 65535) : Int) + c2.toInt * 65536 = (tq_lim (f0 (32 * q + i)) : Int) + t.toInt + c.toInt := by omega
          have k2 := congrArg (· * ((2 ^ (16 * i) : Nat) : Int)) key
          simp only [Int.add_mul, Int.mul_assoc] at k2
          rw [ht] at k2
          have cst : ((2 ^ 16 * 2 ^ (16 * i) : Nat) : Int) = 65536 * ((2 ^ (16 * i) : Nat) : Int) := by rw [Int.natCast_mul]; rfl
          rw [cst, Int.natCast_add, Int.natCast_add, Int.natCast_mul, Int.natCast_mul]
          by_cases m0 : mi = 0
          · rw [if_pos m0] at hs k2 ⊢
            rw [Int.natCast_add, Int.natCast_mul]
            omega
          · rw [if_neg m0] at hs k2 ⊢
            rw [Int.natCast_add, Int.natCast_mul, Int.neg_add]
            rw [Int.neg_mul] at k2
            omega
      by_cases m0 : mi = 0
      · rw [if_pos m0]
        exact go _ (by rw [if_pos m0]; exact (tq_lim_i lb.1).symm)
      · rw [if_neg m0]
        exact go _ (by rw [if_neg m0, tq_i32_neg (by omega), tq_lim_i lb.1])
theorem tq_mpour_spec {nz : Int32} {n : Nat} (h : tq_Sz nz n) {q r : Nat} (hq : q ≤ 1) (hr : r ≤ 4) {lf f : Nat → Int32} (hl : tq_WL 200 lf) (hw : tq_WL 64 f) (mi : Int32) {V : Nat} (hV : tq_rv lf (40 * r) n = V) :
    ∃ g, m_pour nz lf f (nI q) (nI r) mi = some g ∧ tq_WL 64 g ∧ tq_Gr q f g ∧ tq_rv g (32 * q) n = (if mi = 0 then (tq_rv f (32 * q) n + V) % 2 ^ (16 * n) else (tq_rv f (32 * q) n + (2 ^ (16 * n) - V)) % 2 ^ (16 * n)) := by
  have hn := h.2
  unfold m_pour
  rw [tq_nz_eq h]
  obtain ⟨g, c', e, w, fr, hs⟩ := tq_pour_loop hq hr (n := n) (by omega) hl mi hw 41 0 0 f (by omega) (by omega) (by decide) hw (fun _ _ => rfl) (fun _ _ _ => rfl) (by simp [tq_rv])
  refine ⟨g, e, w, fr, ?_⟩
  rw [hV] at hs
  have hg : tq_rv g (32 * q) n < 2 ^ (16 * n) := tq_rv_lt (fun j hj => tq_lim_lt w (by omega))
  have hV2 : V < 2 ^ (16 * n) := by rw [← hV]; exact tq_rv_lt (fun j hj => tq_lim_lt hl (by omega))
  generalize 2 ^ (16 * n) = X at *
  have gm : ((tq_rv g (32 * q) n : Nat) : Int) = ((tq_rv g (32 * q) n : Nat) : Int) % (X : Int) := (Int.emod_eq_of_lt (by omega) (by omega)).symm
  by_cases m0 : mi = 0
  · rw [if_pos m0] at hs ⊢
    have : ((tq_rv g (32 * q) n : Nat) : Int) = (((tq_rv f (32 * q) n + V) % X : Nat) : Int) := by
      rw [gm, Int.natCast_emod, Int.natCast_add, ← hs, Int.add_mul_emod_self_right]
    omega
  · rw [if_neg m0] at hs ⊢
    have : ((tq_rv g (32 * q) n : Nat) : Int) = (((tq_rv f (32 * q) n + (X - V)) % X : Nat) : Int) := by
      have e1 : ((tq_rv f (32 * q) n + (X - V) : Nat) : Int) = ((tq_rv g (32 * q) n : Nat) : Int) + (c' + 1) * (X : Int) := by rw [Int.add_mul, Int.one_mul]; omega
      rw [gm, Int.natCast_emod, e1, Int.add_mul_emod_self_right]
    omega
end
section
theorem tq_draw_loop {q r n : Nat} (hq : q ≤ 1) (hr : r ≤ 4) (hn : n ≤ 32) {sf : Nat → Int32} (hs : tq_WL 64 sf) {l0 : Nat → Int32} : ∀ fu i (f : Nat → Int32), i ≤ n → n < fu + i → tq_WL 200 f → tq_Fr r l0 f → (∀ j, j < i → f (40 * r + j) = sf (32 * q + j)) → (∀ j, i ≤ j → j < 40 → f (40 * r + j) = 0) →
    ∃ g, m_draw_b7 (nI n) sf (nI q) (nI r) fu (nI i) f = some g ∧ tq_WL 200 g ∧ tq_Fr r l0 g ∧ (∀ j, j < n → g (40 * r + j) = sf (32 * q + j)) ∧ (∀ j, n ≤ j → j < 40 → g (40 * r + j) = 0) := by
  intro fu
  induction fu with
  | zero => intro i f a b; omega
  | succ fu ih =>
    intro i f h1 h2 hw hf ha hb
    unfold m_draw_b7
    by_cases h : n ≤ i
    · have : i = n := by omega
      subst this
      rw [if_pos ((tq_nI_le (by omega) (by omega)).2 h)]
      exact ⟨f, rfl, hw, hf, ha, hb⟩
    · have g3 := tq_ixok3 (i := i) hq (by omega)
      have g4 := tq_ixok (i := i) hr (by omega)
      rw [if_neg (fun w => h ((tq_nI_le (by omega) (by omega)).1 w)), tq_ix32, tq_ix40]
      simp only [if_neg g3, if_neg g4]
      rw [tq_ixcl3 hq (by omega), tq_ixcl hr (by omega), tq_nI_add]
      apply ih (i + 1) _ (by omega) (by omega)
      · exact tq_WL_upd hw (hs _ (by omega))
      · intro x hx; rw [tq_upI_ne (by omega)]; exact hf x hx
      · intro j hj
        rcases Nat.lt_or_ge j i with z | z
        · rw [tq_upI_ne (by omega)]; exact ha j z
        · have : j = i := by omega
          subst this; rw [tq_upI_at]
      · intro j h3 h4; rw [tq_upI_ne (by omega)]; exact hb j (by omega) h4
theorem tq_mdraw_spec {nz : Int32} {n : Nat} (h : tq_Sz nz n) {q r : Nat} (hq : q ≤ 1) (hr : r ≤ 4) {lf sf : Nat → Int32} (hl : tq_WL 200 lf) (hs : tq_WL 64 sf) : ∃ g, m_draw nz lf sf (nI q) (nI r) = some g ∧ tq_WL 200 g ∧ tq_Fr r lf g ∧ tq_rv g (40 * r) n = tq_rv sf (32 * q) n ∧ tq_rv g (40 * r) 40 = tq_rv sf (32 * q) n := by
  have hn := h.2
  unfold m_draw
  rw [tq_nz_eq h]
  obtain ⟨f1, e1, w1, fr1, z1⟩ := tq_zero_spec hr hl
  rw [tq_bd_e e1]
  obtain ⟨g, e, w, fr, a, b⟩ := tq_draw_loop hq hr (n := n) (by omega) hs (l0 := lf) 41 0 f1 (by omega) (by omega) w1 fr1 (fun j hj => by omega) (fun j _ hj => z1 j hj)
  have e1 : tq_rv g (40 * r) n = tq_rv sf (32 * q) n := tq_rv_congr a
  refine ⟨g, e, w, fr, e1, ?_⟩
  have s := tq_rv_split (f := g) (b := 40 * r) (i := n) (40 - n)
  rw [show n + (40 - n) = 40 by omega, tq_rv_zero (k := 40 - n) (fun j hj => by rw [Nat.add_assoc]; exact b _ (by omega) (by omega)), Nat.mul_zero, Nat.add_zero] at s
  rw [s, e1]
theorem tq_mnegate_spec {nz : Int32} {n : Nat} (h : tq_Sz nz n) {q : Nat} (hq : q ≤ 1) {lf sf : Nat → Int32} (hl : tq_WL 200 lf) (hs : tq_WL 64 sf) : ∃ l g, m_negate nz lf sf (nI q) = some (1, l, g) ∧ tq_WL 200 l ∧ tq_WL 64 g ∧ tq_Gr q sf g ∧ tq_rv g (32 * q) n = tq_negS n (tq_rv sf (32 * q) n) ∧ tq_Fr 0 lf l := by
  have hn := h.2
  unfold m_negate
  have hq' : nI q = 0 ∨ nI q = 1 := by
    have : q = 0 ∨ q = 1 := by omega
    rcases this with rfl | rfl
    · exact .inl rfl
    · exact .inr rfl
  have hsum : m_isSum (nI q) = 1 := by rcases hq' with z | z <;> rw [z] <;> decide
  rw [hsum, if_pos (by decide)]
  obtain ⟨l1, e1, w1, fr1, d1, d2⟩ := tq_mdraw_spec h hq (r := 0) (by omega) hl hs
  have e1' : m_draw nz lf sf (nI q) 0 = some l1 := e1
  obtain ⟨g2, e2, w2, fr2, h2⟩ := tq_mpour_spec h hq (r := 0) (by omega) w1 hs 1 d1
  have e2' : m_pour nz l1 sf (nI q) 0 1 = some g2 := e2
  obtain ⟨g3, e3, w3, fr3, h3⟩ := tq_mpour_spec h hq (r := 0) (by omega) w1 w2 1 d1
  have e3' : m_pour nz l1 g2 (nI q) 0 1 = some g3 := e3
  rw [tq_bd_e e1', tq_bd_e e2', tq_bd_e e3']
  refine ⟨l1, g3, rfl, w1, w3, fun x hx => by rw [fr3 x hx]; exact fr2 x hx, ?_, fr1⟩
  have hlt : tq_rv sf (32 * q) n < 2 ^ (16 * n) := tq_rv_lt (fun j hj => tq_lim_lt hs (by omega))
  rw [if_neg (by decide)] at h2 h3
  rw [h3, h2]
  unfold tq_negS
  generalize tq_rv sf (32 * q) n = V at *
  generalize 2 ^ (16 * n) = X at *
  rw [show V + (X - V) = X by omega, Nat.mod_self, Nat.zero_add]
theorem tq_negS_negS {n V : Nat} (h : V < 2 ^ (16 * n)) : tq_negS n (tq_negS n V) = V := by
  unfold tq_negS
  generalize 2 ^ (16 * n) = X at *
  rcases Nat.eq_zero_or_pos V with z | z
  · subst z; rw [Nat.sub_zero, Nat.mod_self, Nat.sub_zero, Nat.mod_self]
  · rw [Nat.mod_eq_of_lt (show X - V < X by omega), show X - (X - V) = V by omega, Nat.mod_eq_of_lt h]
theorem tq_qcase {q : Int32} (h : q = 0 ∨ q = 1) : ∃ k, k ≤ 1 ∧ q = nI k ∧ (k = 0 ↔ q = 0) ∧ (k = 1 ↔ q = 1) := by
  rcases h with rfl | rfl
  · exact ⟨0, by omega, rfl, ⟨fun _ => rfl, fun _ => rfl⟩, ⟨fun w => by omega, fun w => absurd w (by decide)⟩⟩
  · exact ⟨1, by omega, rfl, ⟨fun w => by omega, fun w => absurd w (by decide)⟩, ⟨fun _ => rfl, fun _ => rfl⟩⟩
theorem tq_msum1 {q : Int32} (h : q = 0 ∨ q = 1) : m_isSum q = 1 := by rcases h with rfl | rfl <;> decide
theorem tq_msum0 {q : Int32} (h : ¬ (q = 0 ∨ q = 1)) : m_isSum q = 0 := tq_isN (fun z => h (.inl z)) (fun z => h (.inr z))
theorem tq_mclear_spec {nz : Int32} {n : Nat} (h : tq_Sz nz n) {sf : Nat → Int32} (hs : tq_WL 64 sf) (q : Int32) : ∃ g, m_clear nz sf q = some (f_isSum q, g) ∧ tq_WL 64 g ∧ tq_rv g (32 * 0) n = (if q = 0 then 0 else tq_rv sf (32 * 0) n) ∧ tq_rv g (32 * 1) n = (if q = 1 then 0 else tq_rv sf (32 * 1) n) := by
  have hn := h.2
  unfold m_clear
  have hfs : f_isSum q = m_isSum q := rfl
  rw [hfs]
  by_cases hq : q = 0 ∨ q = 1
  · rw [tq_msum1 hq, if_pos (by decide)]
    obtain ⟨k, k1, rfl, k2, k3⟩ := tq_qcase hq
    rw [tq_nz_eq h]
    obtain ⟨g, e, w, fr, z⟩ := tq_clear_loop k1 (n := n) (by omega) sf 41 0 sf (by omega) (by omega) hs (fun _ _ => rfl) (fun j hj => by omega)
    have e' : m_clear_b11 (nI n) (nI k) 41 0 sf = some (1, g) := e
    refine ⟨g, e', w, ?_, ?_⟩
    · by_cases t : k = 0
      · rw [if_pos (k2.1 t)]; subst t; exact tq_rv_zero z
      · rw [if_neg (fun y => t (k2.2 y)), tq_Gr_rv (by omega) fr (fun y => t y.symm)]
    · by_cases t : k = 1
      · rw [if_pos (k3.1 t)]; subst t; exact tq_rv_zero z
      · rw [if_neg (fun y => t (k3.2 y)), tq_Gr_rv (by omega) fr (fun y => t y.symm)]
  · rw [tq_msum0 hq, if_neg (by decide)]
    exact ⟨sf, rfl, hs, by rw [if_neg (fun z => hq (.inl z))], by rw [if_neg (fun z => hq (.inr z))]⟩
theorem tq_rowq {nz : Int32} {n k : Nat} (hn : n ≤ 32) (hk : k ≤ 1) {sf g : Nat → Int32} (fr : tq_Gr k sf g) {V : Nat} (hV : tq_rv g (32 * k) n = V) : tq_rv g (32 * 0) n = (if k = 0 then V else tq_rv sf (32 * 0) n) ∧ tq_rv g (32 * 1) n = (if k = 1 then V else tq_rv sf (32 * 1) n) := by
  constructor
  · by_cases t : k = 0
    · rw [if_pos t]; subst t; exact hV
    · rw [if_neg t, tq_Gr_rv hn fr (fun y => t y.symm)]
  · by_cases t : k = 1
    · rw [if_pos t]; subst t; exact hV
    · rw [if_neg t, tq_Gr_rv hn fr (fun y => t y.symm)]
theorem tq_mnegate_q {nz : Int32} {n : Nat} (h : tq_Sz nz n) {lf sf : Nat → Int32} (hl : tq_WL 200 lf) (hs : tq_WL 64 sf) (q : Int32) : ∃ l g, m_negate nz lf sf q = some (f_isSum q, l, g) ∧ tq_WL 200 l ∧ tq_WL 64 g ∧ tq_rv g (32 * 0) n = (if q = 0 then tq_negS n (tq_rv sf (32 * 0) n) else tq_rv sf (32 * 0) n) ∧ tq_rv g (32 * 1) n = (if q = 1 then tq_negS n (tq_rv sf (32 * 1) n) else tq_rv sf (32 * 1) n) := by
  have hn := h.2
  have hfs : f_isSum q = m_isSum q := rfl
  by_cases hq : q = 0 ∨ q = 1
  · rw [hfs, tq_msum1 hq]
    rcases hq with rfl | rfl
    · obtain ⟨l, g, e, w1, w2, fr, hv, _⟩ := tq_mnegate_spec h (q := 0) (by omega) hl hs
      obtain ⟨r1, r2⟩ := tq_rowq (nz := nz) (by omega) (by omega) fr hv
      have z0 : nI 0 = 0 := rfl
      rw [z0] at e
      rw [if_pos rfl] at r1
      rw [if_neg (show ¬ (0 : Nat) = 1 by decide)] at r2
      rw [if_pos (show (0 : Int32) = 0 from rfl), if_neg (show ¬ (0 : Int32) = 1 by decide)]
      exact ⟨l, g, e, w1, w2, r1, r2⟩
    · obtain ⟨l, g, e, w1, w2, fr, hv, _⟩ := tq_mnegate_spec h (q := 1) (by omega) hl hs
      obtain ⟨r1, r2⟩ := tq_rowq (nz := nz) (by omega) (by omega) fr hv
      have z0 : nI 1 = 1 := rfl
      rw [z0] at e
      rw [if_neg (show ¬ (1 : Nat) = 0 by decide)] at r1
      rw [if_pos rfl] at r2
      rw [if_neg (show ¬ (1 : Int32) = 0 by decide), if_pos (show (1 : Int32) = 1 from rfl)]
      exact ⟨l, g, e, w1, w2, r1, r2⟩
  · unfold m_negate
    rw [hfs, tq_msum0 hq, if_neg (by decide)]
    exact ⟨lf, sf, rfl, hl, hs, by rw [if_neg (fun z => hq (.inl z))], by rw [if_neg (fun z => hq (.inr z))]⟩
theorem tq_mmerge1 {nz : Int32} {n : Nat} (h : tq_Sz nz n) {lf sf : Nat → Int32} (hl : tq_WL 200 lf) (hs : tq_WL 64 sf) {k k' : Nat} (hk : k ≤ 1) (hk' : k' = 1 - k) (hsub : (1 : Int32) - nI k = nI k') : ∃ l g, m_merge nz lf sf (nI k) = some (1, l, g) ∧ tq_WL 200 l ∧ tq_WL 64 g ∧ tq_Gr k sf g ∧ tq_rv g (32 * k) n = tq_incS n (tq_rv sf (32 * k) n) (tq_rv sf (32 * k') n) := by
  have hn := h.2
  unfold m_merge
  have hsum : m_isSum (nI k) = 1 := by
    have : k = 0 ∨ k = 1 := by omega
    rcases this with rfl | rfl <;> decide
  rw [hsum, if_pos (by decide), hsub]
  obtain ⟨r1, e1, h1⟩ := tq_mlost_spec h (q := k') (by omega) hs
  rw [tq_bd_e e1]
  have rest : ∀ f : Nat → Int32, tq_WL 64 f → tq_Gr k sf f → (tq_rv f (32 * k) n = tq_rv sf (32 * k) n ∧ tq_rv sf (32 * k') n ≠ 2 ^ (16 * n - 1) ∨ tq_rv f (32 * k) n = 2 ^ (16 * n - 1) ∧ tq_rv sf (32 * k') n = 2 ^ (16 * n - 1)) → ∃ l g, m_merge_b24 nz (nI k) lf f = some (1, l, g) ∧ tq_WL 200 l ∧ tq_WL 64 g ∧ tq_Gr k sf g ∧ tq_rv g (32 * k) n = tq_incS n (tq_rv sf (32 * k) n) (tq_rv sf (32 * k') n) := by
    intro f wf frf hcase
    unfold m_merge_b24
    obtain ⟨r2, e2, h2⟩ := tq_mlost_spec h hk wf
    rw [tq_bd_e e2]
    rcases h2 with ⟨a, b⟩ | ⟨a, b⟩
    · rw [if_neg (by rw [b]; decide)]
      refine ⟨lf, f, rfl, hl, wf, frf, ?_⟩
      unfold tq_incS
      rcases hcase with ⟨c1, c2⟩ | ⟨c1, c2⟩
      · rw [if_pos (.inl (by rw [← c1]; exact a)), a]
      · rw [if_pos (.inr c2), a]
    · rw [if_pos b]
      rcases hcase with ⟨c1, c2⟩ | ⟨c1, c2⟩
      · obtain ⟨l1, e3, w3, fr3, d1, d2⟩ := tq_mdraw_spec h (q := k') (by omega) (r := 0) (by omega) hl wf
        have e3' : m_draw nz lf f (1 - nI k) 0 = some l1 := by rw [hsub]; exact e3
        obtain ⟨g4, e4, w4, fr4, h4⟩ := tq_mpour_spec h hk (r := 0) (by omega) w3 wf 0 d1
        have e4' : m_pour nz l1 f (nI k) 0 0 = some g4 := e4
        rw [tq_bd_e e3', tq_bd_e e4']
        refine ⟨l1, g4, rfl, w3, w4, fun x hx => by rw [fr4 x hx]; exact frf x hx, ?_⟩
        rw [h4, if_pos rfl, c1, tq_Gr_rv (by omega) frf (q := k') (by omega)]
        unfold tq_incS
        rw [if_neg (by rintro (z | z); exact a (by rw [c1]; exact z); exact c2 z)]
      · exact absurd c1 a
  rcases h1 with ⟨a, b⟩ | ⟨a, b⟩
  · rw [if_neg (by rw [b]; decide)]
    obtain ⟨g, e2, w2, fr2, h2⟩ := tq_mlose_spec h hk hs
    rw [tq_bd_e e2]
    exact rest g w2 fr2 (.inr ⟨h2, a⟩)
  · rw [if_pos b]
    exact rest sf hs (fun _ _ => rfl) (.inl ⟨rfl, a⟩)
theorem tq_mmerge_q {nz : Int32} {n : Nat} (h : tq_Sz nz n) {lf sf : Nat → Int32} (hl : tq_WL 200 lf) (hs : tq_WL 64 sf) (q : Int32) : ∃ l g, m_merge nz lf sf q = some (f_isSum q, l, g) ∧ tq_WL 200 l ∧ tq_WL 64 g ∧ tq_rv g (32 * 0) n = (if q = 0 then tq_incS n (tq_rv sf (32 * 0) n) (tq_rv sf (32 * 1) n) else tq_rv sf (32 * 0) n) ∧ tq_rv g (32 * 1) n = (if q = 1 then tq_incS n (tq_rv sf (32 * 1) n) (tq_rv sf (32 * 0) n) else tq_rv sf (32 * 1) n) := by
  have hn := h.2
  have hfs : f_isSum q = m_isSum q := rfl
  by_cases hq : q = 0 ∨ q = 1
  · rw [hfs, tq_msum1 hq]
    rcases hq with rfl | rfl
    · obtain ⟨l, g, e, w1, w2, fr, hv⟩ := tq_mmerge1 h hl hs (k := 0) (k' := 1) (by omega) (by omega) (by decide)
      obtain ⟨r1, r2⟩ := tq_rowq (nz := nz) (by omega) (by omega) fr hv
      have z0 : nI 0 = 0 := rfl
      rw [z0] at e
      rw [if_pos rfl] at r1
      rw [if_neg (show ¬ (0 : Nat) = 1 by decide)] at r2
      rw [if_pos (show (0 : Int32) = 0 from rfl), if_neg (show ¬ (0 : Int32) = 1 by decide)]
      exact ⟨l, g, e, w1, w2, r1, r2⟩
    · obtain ⟨l, g, e, w1, w2, fr, hv⟩ := tq_mmerge1 h hl hs (k := 1) (k' := 0) (by omega) (by omega) (by decide)
      obtain ⟨r1, r2⟩ := tq_rowq (nz := nz) (by omega) (by omega) fr hv
      have z0 : nI 1 = 1 := rfl
      rw [z0] at e
      rw [if_neg (show ¬ (1 : Nat) = 0 by decide)] at r1
      rw [if_pos rfl] at r2
      rw [if_neg (show ¬ (1 : Int32) = 0 by decide), if_pos (show (1 : Int32) = 1 from rfl)]
      exact ⟨l, g, e, w1, w2, r1, r2⟩
  · unfold m_merge
    rw [hfs, tq_msum0 hq, if_neg (by decide)]
    exact ⟨lf, sf, rfl, hl, hs, by rw [if_neg (fun z => hq (.inl z))], by rw [if_neg (fun z => hq (.inr z))]⟩
end
section
theorem tq_un_eq {nz : Int32} {n : Nat} (h : tq_Sz nz n) : ((4 : Int32) * nz - 8).toInt = ((4 * n - 8 : Nat) : Int) := by
  obtain ⟨h1, h2⟩ := h
  rw [tq_of_i32 h1]
  clear h1
  rcases h2 with rfl | rfl | rfl <;> decide
theorem tq_inc_P {X L R P : Nat} (hX : X = 2 * L) (hP : P < L) : (R + (X - P) % X) % X = (R + (X - P)) % X ∧ (X - P) % X ≠ L ∧ (X - (X - P) % X) % X = P := by
  refine ⟨Nat.add_mod_mod _ _ _, ?_, ?_⟩
  · rcases Nat.eq_zero_or_pos P with z | z
    · subst z; rw [Nat.sub_zero, Nat.mod_self]; omega
    · rw [Nat.mod_eq_of_lt (show X - P < X by omega)]; omega
  · rcases Nat.eq_zero_or_pos P with z | z
    · subst z; rw [Nat.sub_zero, Nat.mod_self, Nat.sub_zero, Nat.mod_self]
    · rw [Nat.mod_eq_of_lt (show X - P < X by omega), show X - (X - P) = P by omega, Nat.mod_eq_of_lt (show P < X by omega)]
theorem tq_two_L {n : Nat} (h1 : 1 ≤ n) : 2 ^ (16 * n) = 2 * 2 ^ (16 * n - 1) := by
  have h := Nat.pow_add 2 1 (16 * n - 1)
  rw [show 1 + (16 * n - 1) = 16 * n by omega] at h; exact h
theorem tq_inc_pos {n R P : Nat} (hP : P < 2 ^ (16 * n - 1)) (hR : R ≠ 2 ^ (16 * n - 1)) : tq_incS n R P = (R + P) % 2 ^ (16 * n) := by
  unfold tq_incS
  rw [if_neg]
  rintro (z | z)
  · exact hR z
  · exact absurd z (Nat.ne_of_lt hP)
theorem tq_inc_neg {n R P : Nat} (h1 : 1 ≤ n) (hP : P < 2 ^ (16 * n - 1)) (hR : R ≠ 2 ^ (16 * n - 1)) : tq_incS n R (tq_negS n P) = (R + (2 ^ (16 * n) - P)) % 2 ^ (16 * n) := by
  obtain ⟨a, b, _⟩ := tq_inc_P (R := R) (tq_two_L h1) hP
  unfold tq_incS tq_negS
  rw [if_neg, a]
  rintro (z | z)
  · exact hR z
  · exact b z
theorem tq_neg_neg {n P : Nat} (h1 : 1 ≤ n) (hP : P < 2 ^ (16 * n - 1)) : tq_negS n (tq_negS n P) = P := (tq_inc_P (R := 0) (tq_two_L h1) hP).2.2
theorem tq_neg_L {n : Nat} (h1 : 1 ≤ n) : tq_negS n (2 ^ (16 * n - 1)) = 2 ^ (16 * n - 1) := by
  unfold tq_negS
  have e := tq_two_L h1
  have p := Nat.two_pow_pos (16 * n - 1)
  generalize 2 ^ (16 * n - 1) = L at *
  generalize 2 ^ (16 * n) = X at *
  rw [show X - L = L by omega, Nat.mod_eq_of_lt (show L < X by omega)]
theorem tq_rv_low {f : Nat → Int32} {b n P : Nat} (hn : n ≤ 40) (hl : ∀ j, j < n → tq_lim (f (b + j)) < 65536) (h : tq_rv f b 40 = P) (hP : P < 2 ^ (16 * n)) : tq_rv f b n = P := by
  have s := tq_rv_split (f := f) (b := b) (i := n) (40 - n)
  rw [show n + (40 - n) = 40 by omega, h] at s
  have hlt := tq_rv_lt hl
  generalize tq_rv f b n = A at *
  generalize tq_rv f (b + n) (40 - n) = B at *
  generalize 2 ^ (16 * n) = X at *
  rcases Nat.eq_zero_or_pos B with z | z
  · subst z; omega
  · have := Nat.le_mul_of_pos_right X z; omega
theorem tq_sz640 {n : Nat} (hn : n = 8 ∨ n = 16 ∨ n = 32) : 16 * n ≤ 640 := by omega
theorem tq_sz40 {n : Nat} (hn : n = 8 ∨ n = 16 ∨ n = 32) : n ≤ 40 := by omega
theorem tq_sz200 {n j : Nat} (hn : n ≤ 40) (h : j < n) : 40 * 0 + j < 200 := by omega
theorem tq_mcollect1 {nz : Int32} {n : Nat} (h : tq_Sz nz n) {lf sf : Nat → Int32} (hl : tq_WL 200 lf) (hs : tq_WL 64 sf) {k : Nat} (hk : k ≤ 1) (x y : Int32) {mi : Int32} (hmi : mi = 0 ∨ mi = 1) :
    ∃ l g, m_collect nz lf sf (nI k) x y mi = some (1, l, g) ∧ tq_WL 200 l ∧ tq_WL 64 g ∧ tq_Gr k sf g ∧ tq_rv g (32 * k) n = tq_incS n (tq_rv sf (32 * k) n) (if mi = 0 then tq_prodS n (tq_pat n x) (tq_pat n y) else tq_negS n (tq_prodS n (tq_pat n x) (tq_pat n y))) := by
  have hn := h.2
  have h1n : 1 ≤ n := by omega
  have hsum : m_isSum (nI k) = 1 := by
    have : k = 0 ∨ k = 1 := by omega
    rcases this with rfl | rfl <;> decide
  have lose : (tq_pat n x = -2 ^ (n - 1) ∨ tq_pat n y = -2 ^ (n - 1)) → ∃ l g, m_collect_b25 nz (nI k) x y mi lf sf = some (1, l, g) ∧ tq_WL 200 l ∧ tq_WL 64 g ∧ tq_Gr k sf g ∧ tq_rv g (32 * k) n = tq_incS n (tq_rv sf (32 * k) n) (if mi = 0 then tq_prodS n (tq_pat n x) (tq_pat n y) else tq_negS n (tq_prodS n (tq_pat n x) (tq_pat n y))) := by
    intro hnot
    have hp : tq_prodS n (tq_pat n x) (tq_pat n y) = 2 ^ (16 * n - 1) := by unfold tq_prodS; rw [if_pos hnot]
    rw [hp, tq_neg_L h1n, ite_self]
    unfold m_collect_b25 m_collect_b30
    obtain ⟨g, e, w, fr, hv⟩ := tq_mlose_spec h hk hs
    rw [tq_bd_e e]
    obtain ⟨r, e2, h2⟩ := tq_mlost_spec h hk w
    rw [tq_bd_e e2]
    rcases h2 with ⟨a, b⟩ | ⟨a, b⟩
    · rw [if_neg (by rw [b]; decide)]
      refine ⟨lf, g, rfl, hl, w, fr, ?_⟩
      unfold tq_incS; rw [if_pos (.inr rfl), hv]
    · exact absurd hv a
  unfold m_collect
  rw [hsum, if_pos (by decide)]
  by_cases nx : tq_pat n x = -2 ^ (n - 1)
  · rw [if_pos (show ¬ m_isNot nz x = 0 from fun w => (tq_misNot_spec h x).1 w nx)]
    exact lose (.inl nx)
  · rw [if_neg (show ¬ ¬ m_isNot nz x = 0 from fun w => w ((tq_misNot_spec h x).2 nx))]
    by_cases ny : tq_pat n y = -2 ^ (n - 1)
    · rw [if_neg (show ¬ m_isNot nz y = 0 from fun w => (tq_misNot_spec h y).1 w ny)]
      exact lose (.inr ny)
    · rw [if_pos ((tq_misNot_spec h y).2 ny)]
      clear lose
      unfold m_collect_b30
      obtain ⟨r, e2, h2⟩ := tq_mlost_spec h hk hs
      rw [tq_bd_e e2]
      rcases h2 with ⟨a, b⟩ | ⟨a, b⟩
      · rw [if_neg (by rw [b]; decide)]
        refine ⟨lf, sf, rfl, hl, hs, fun _ _ => rfl, ?_⟩
        unfold tq_incS; rw [if_pos (.inl a), a]
      · rw [if_pos b]
        have px := tq_not_ne hn (tq_pat_rng (x := x) hn) nx
        have py := tq_not_ne hn (tq_pat_rng (x := y) hn) ny
        have hU : 4 * n - 8 ≤ 4 * n - 8 ∧ 4 * n - 8 ≤ 200 := by omega
        obtain ⟨g1, e1, w1, fr1, v1⟩ := tq_mload_spec (r := 1) (by omega) h hl x nx (tq_un_eq h) hU
        have e1' : m_load nz lf 1 x ((4 : Int32) * nz - 8) = some g1 := e1
        obtain ⟨g2, e2, w2, fr2, v2⟩ := tq_mload_spec (r := 2) (by omega) h w1 y ny (tq_un_eq h) hU
        have e2' : m_load nz g1 2 y ((4 : Int32) * nz - 8) = some g2 := e2
        obtain ⟨g3, e3, w3, fr3, v3⟩ := tq_times_spec (a := 1) (b := 2) (t := 0) (by omega) (by omega) (by omega) (by omega) (by omega) w2
        have e3' : m_times g2 1 2 0 = some g3 := e3
        rw [tq_bd_e e1', tq_bd_e e2', tq_bd_e e3']
        rw [Nat.sub_self, Nat.pow_zero, Nat.mul_one (tq_mag n (tq_pat n x).natAbs)] at v1
        rw [Nat.sub_self, Nat.pow_zero, Nat.mul_one (tq_mag n (tq_pat n y).natAbs)] at v2
        rw [v2, tq_Fr_rv fr2 (by omega), v1] at v3
        have bx := tq_mag_le hn px
        have by' := tq_mag_le hn py
        have hP : tq_mag n (tq_pat n x).natAbs * tq_mag n (tq_pat n y).natAbs < 2 ^ (16 * n - 1) := by
          refine Nat.lt_of_le_of_lt (Nat.mul_le_mul bx by') ?_
          rw [← Nat.pow_add]; exact Nat.pow_lt_pow_right (by omega) (by omega)
        have hp : tq_prodS n (tq_pat n x) (tq_pat n y) = if (tq_pat n x < 0) = (tq_pat n y < 0) then tq_mag n (tq_pat n x).natAbs * tq_mag n (tq_pat n y).natAbs else tq_negS n (tq_mag n (tq_pat n x).natAbs * tq_mag n (tq_pat n y).natAbs) := by
          unfold tq_prodS; rw [if_neg (by rintro (z | z); exact nx z; exact ny z)]; rfl
        rw [hp]
        generalize tq_mag n (tq_pat n x).natAbs * tq_mag n (tq_pat n y).natAbs = P at *
        have hP2 : P < 2 ^ (16 * n) := Nat.lt_of_lt_of_le hP (Nat.pow_le_pow_right (by decide) (Nat.sub_le _ _))
        rw [Nat.mod_eq_of_lt (Nat.lt_of_lt_of_le hP2 (Nat.pow_le_pow_right (by decide) (tq_sz640 hn)))] at v3
        have n40 := tq_sz40 hn
        have v4 := tq_rv_low n40 (fun j hj => tq_lim_lt w3 (i := 40 * 0 + j) (tq_sz200 n40 hj)) v3 hP2
        rw [tq_mneg_spec h x, tq_mneg_spec h y]
        have fin : ∀ t : Int32, (t = 0 ∨ t = 1) → ∃ l g, m_collect_b108 nz t 0 (nI k) g3 sf = some (1, l, g) ∧ tq_WL 200 l ∧ tq_WL 64 g ∧ tq_Gr k sf g ∧ tq_rv g (32 * k) n = tq_incS n (tq_rv sf (32 * k) n) (if t = 0 then P else tq_negS n P) := by
          intro t ht
          obtain ⟨g4, e4, w4, fr4, v5⟩ := tq_mpour_spec h hk (r := 0) (by omega) w3 hs t v4
          have e4' : m_pour nz g3 sf (nI k) 0 t = some g4 := e4
          unfold m_collect_b108
          rw [tq_bd_e e4']
          refine ⟨g3, g4, rfl, w3, w4, fr4, ?_⟩
          rcases ht with rfl | rfl
          · rw [v5, if_pos (show (0 : Int32) = 0 from rfl), if_pos (show (0 : Int32) = 0 from rfl), tq_inc_pos hP a]
          · rw [v5, if_neg (show ¬ (1 : Int32) = 0 by decide), if_neg (show ¬ (1 : Int32) = 0 by decide), tq_inc_neg h1n hP a]
        have f0 := fin 0 (.inl rfl)
        have f1 := fin 1 (.inr rfl)
        rw [if_pos (show (0 : Int32) = 0 from rfl)] at f0
        rw [if_neg (show ¬ (1 : Int32) = 0 by decide)] at f1
        clear fin
        have t00 : ∀ g f, m_collect_b100 nz 0 0 0 (nI k) g f = m_collect_b108 nz 0 0 (nI k) g f := fun g f => by unfold m_collect_b100; rw [if_pos rfl]
        have t01 : ∀ g f, m_collect_b100 nz 0 1 0 (nI k) g f = m_collect_b108 nz 1 0 (nI k) g f := fun g f => by unfold m_collect_b100; rw [if_neg (by decide)]
        have t10 : ∀ g f, m_collect_b100 nz 1 0 0 (nI k) g f = m_collect_b108 nz 1 0 (nI k) g f := fun g f => by unfold m_collect_b100; rw [if_neg (by decide)]
        have t11 : ∀ g f, m_collect_b100 nz 1 1 0 (nI k) g f = m_collect_b108 nz 0 0 (nI k) g f := fun g f => by unfold m_collect_b100; rw [if_pos rfl]
        have same : (tq_pat n x < 0) = (tq_pat n y < 0) → (if decide (tq_pat n x < 0) = true then (1 : Int32) else 0) = if decide (tq_pat n y < 0) = true then 1 else 0 := fun z => by
          have : decide (tq_pat n x < 0) = decide (tq_pat n y < 0) := by rw [decide_eq_decide, z]
          rw [this]
        have diff : ¬ (tq_pat n x < 0) = (tq_pat n y < 0) → ¬ ((if decide (tq_pat n x < 0) = true then (1 : Int32) else 0) = if decide (tq_pat n y < 0) = true then 1 else 0) := fun z => by
          by_cases s1 : tq_pat n x < 0 <;> by_cases s2 : tq_pat n y < 0
          · exact absurd (by simp [s1, s2]) z
          · rw [decide_eq_true s1, decide_eq_false s2]; decide
          · rw [decide_eq_false s1, decide_eq_true s2]; decide
          · exact absurd (by simp [s1, s2]) z
        by_cases sn : (tq_pat n x < 0) = (tq_pat n y < 0)
        · rw [if_pos (same sn), if_pos sn]
          rcases hmi with rfl | rfl
          · rw [t00, if_pos (show (0 : Int32) = 0 from rfl)]; exact f0
          · rw [t01, if_neg (show ¬ (1 : Int32) = 0 by decide)]; exact f1
        · rw [if_neg (diff sn), if_neg sn]
          rcases hmi with rfl | rfl
          · rw [t10, if_pos (show (0 : Int32) = 0 from rfl)]; exact f1
          · rw [t11, if_neg (show ¬ (1 : Int32) = 0 by decide), tq_neg_neg h1n hP]; exact f0
theorem tq_mcollect_q {nz : Int32} {n : Nat} (h : tq_Sz nz n) {lf sf : Nat → Int32} (hl : tq_WL 200 lf) (hs : tq_WL 64 sf) (q x y : Int32) {mi : Int32} (hmi : mi = 0 ∨ mi = 1) {T : Nat} (hT : T = if mi = 0 then tq_prodS n (tq_pat n x) (tq_pat n y) else tq_negS n (tq_prodS n (tq_pat n x) (tq_pat n y))) :
    ∃ l g, m_collect nz lf sf q x y mi = some (f_isSum q, l, g) ∧ tq_WL 200 l ∧ tq_WL 64 g ∧ tq_rv g (32 * 0) n = (if q = 0 then tq_incS n (tq_rv sf (32 * 0) n) T else tq_rv sf (32 * 0) n) ∧ tq_rv g (32 * 1) n = (if q = 1 then tq_incS n (tq_rv sf (32 * 1) n) T else tq_rv sf (32 * 1) n) := by
  have hn := h.2
  have hfs : f_isSum q = m_isSum q := rfl
  by_cases hq : q = 0 ∨ q = 1
  · rw [hfs, tq_msum1 hq]
    rcases hq with rfl | rfl
    · obtain ⟨l, g, e, w1, w2, fr, hv⟩ := tq_mcollect1 h hl hs (k := 0) (by omega) x y hmi
      rw [← hT] at hv
      obtain ⟨r1, r2⟩ := tq_rowq (nz := nz) (by omega) (by omega) fr hv
      have z0 : nI 0 = 0 := rfl
      rw [z0] at e
      rw [if_pos rfl] at r1
      rw [if_neg (show ¬ (0 : Nat) = 1 by decide)] at r2
      rw [if_pos (show (0 : Int32) = 0 from rfl), if_neg (show ¬ (0 : Int32) = 1 by decide)]
      exact ⟨l, g, e, w1, w2, r1, r2⟩
    · obtain ⟨l, g, e, w1, w2, fr, hv⟩ := tq_mcollect1 h hl hs (k := 1) (by omega) x y hmi
      rw [← hT] at hv
      obtain ⟨r1, r2⟩ := tq_rowq (nz := nz) (by omega) (by omega) fr hv
      have z0 : nI 1 = 1 := rfl
      rw [z0] at e
      rw [if_neg (show ¬ (1 : Nat) = 0 by decide)] at r1
      rw [if_pos rfl] at r2
      rw [if_neg (show ¬ (1 : Int32) = 0 by decide), if_pos (show (1 : Int32) = 1 from rfl)]
      exact ⟨l, g, e, w1, w2, r1, r2⟩
  · unfold m_collect
    rw [hfs, tq_msum0 hq, if_neg (by decide)]
    exact ⟨lf, sf, rfl, hl, hs, by rw [if_neg (fun z => hq (.inl z))], by rw [if_neg (fun z => hq (.inr z))]⟩
end
section
theorem tq_up_eq {nz : Int32} {n : Nat} (h : tq_Sz nz n) : ((264 : Int32) - 8 * nz).toInt = ((264 - 8 * n : Nat) : Int) := by
  obtain ⟨h1, h2⟩ := h
  rw [tq_of_i32 h1]
  clear h1
  rcases h2 with rfl | rfl | rfl <;> decide
theorem tq_up_lt {n A : Nat} (hn : n = 8 ∨ n = 16 ∨ n = 32) (hA : A < 2 ^ (16 * n)) : A * 2 ^ (264 - 8 * n) < 2 ^ 640 := by
  have := Nat.mul_lt_mul_of_pos_right hA (Nat.two_pow_pos (264 - 8 * n))
  rw [← Nat.pow_add] at this
  exact Nat.lt_of_lt_of_le this (Nat.pow_le_pow_right (by decide) (by omega))
theorem tq_up_id {n A : Nat} (hn : n = 8 ∨ n = 16 ∨ n = 32) : A * 2 ^ (264 - 8 * n) * 2 ^ (4 * n - 8) = A * 2 ^ 124 * 2 ^ (132 - 4 * n) := by
  rw [Nat.mul_assoc, Nat.mul_assoc, ← Nat.pow_add, ← Nat.pow_add, show 264 - 8 * n + (4 * n - 8) = 124 + (132 - 4 * n) by omega]
theorem tq_up_k {n : Nat} (hn : n = 8 ∨ n = 16 ∨ n = 32) : ((132 - 4 * n : Nat) : Int) - ((4 * n - 8 : Nat) : Int) = 140 - 8 * n := by omega
theorem tq_up_640 {n : Nat} (hn : n = 8 ∨ n = 16 ∨ n = 32) : 264 - 8 * n < 640 := by omega
theorem tq_tot_76 {nz : Int32} {n : Nat} (h : tq_Sz nz n) {lf : Nat → Int32} (sf : Nat → Int32) (hl : tq_WL 200 lf) {A : Nat} (hA : tq_rv lf (40 * 1) 40 = A) (hA2 : A < 2 ^ (16 * n)) (v2 sq : Int32) :
    ∃ r l, m_total_b76 nz v2 sq lf sf = some (r, 0, l, sf) ∧ tq_WL 200 l ∧ r.toInt = if v2 = 0 then (tq_rS n A : Int) else -(tq_rS n A : Int) := by
  have hn := h.2
  unfold m_total_b76
  obtain ⟨g1, e1, w1, fr1, v1⟩ := tq_move_spec (a := 1) (b := 0) (by omega) (by omega) (by omega) hl
  have e1' : m_move lf 1 0 = some g1 := e1
  obtain ⟨g2, e2, w2, fr2, v2'⟩ := tq_raise_spec (r := 0) (by omega) w1 (tq_up_eq h) (tq_up_640 hn)
  have e2' : m_raise g1 0 ((264 : Int32) - 8 * nz) = some g2 := e2
  rw [v1, hA, Nat.mod_eq_of_lt (tq_up_lt hn hA2)] at v2'
  obtain ⟨g3, e3, w3, fr3, v3⟩ := tq_mfactor_spec w2 sq (pw := 124) (k := 124) rfl (by omega)
  have hE : tq_rv g3 (40 * 0) 40 = A * 2 ^ (264 - 8 * n) := by rw [tq_Fr_rv fr3 (by decide), v2']
  obtain ⟨r, g4, e4, w4, hr⟩ := tq_ref_S h v2 w3 hE v3 (Nat.two_pow_pos _) (Nat.pow_le_pow_right (by decide) (by decide)) (tq_up_k hn) (tq_up_id hn)
  rw [tq_bd_e e1', tq_bd_e e2', tq_bd_e e3, tq_nm_e, tq_nm_e, tq_bd_e e4]
  exact ⟨r, g4, rfl, w4, hr⟩
theorem tq_sg_lo {n S : Nat} (h : S < 2 ^ (16 * n - 1)) : tq_ansS n S = (tq_rS n S : Int) := by
  unfold tq_ansS
  rw [if_neg (Nat.ne_of_lt h)]
  apply tq_rI_nn
  unfold tq_sgnd; rw [if_pos h]
theorem tq_rI_sub {n S X : Nat} (h : S < X) : tq_rI n ((S : Int) - (X : Int)) = -(tq_rS n (X - S) : Int) := by
  unfold tq_rI
  rw [if_pos (by omega), show ((S : Int) - (X : Int)).natAbs = X - S by omega]
theorem tq_sg_hi {n S : Nat} (h : 2 ^ (16 * n - 1) < S) (h2 : S < 2 ^ (16 * n)) : tq_ansS n S = -(tq_rS n (tq_negS n S) : Int) := by
  unfold tq_ansS
  rw [if_neg (Nat.ne_of_gt h)]
  unfold tq_sgnd
  rw [if_neg (Nat.not_lt.2 (Nat.le_of_lt h)), tq_rI_sub h2]
  unfold tq_negS
  rw [Nat.mod_eq_of_lt (Nat.sub_lt (Nat.two_pow_pos _) (Nat.lt_of_le_of_lt (Nat.zero_le _) h))]
theorem tq_top_lt {q n : Nat} (hq : q ≤ 1) (hn : n = 8 ∨ n = 16 ∨ n = 32) {f : Nat → Int32} (hw : tq_WL 64 f) : (f (32 * q + (n - 1)) < 32768 ↔ tq_rv f (32 * q) n < 2 ^ (16 * n - 1)) := by
  have hl := hw (32 * q + (n - 1)) (by omega)
  have hi := tq_lim_i hl.1
  have hr : tq_rv f (32 * q) (n - 1) < 2 ^ (16 * (n - 1)) := tq_rv_lt (fun j hj => tq_lim_lt hw (by omega))
  have e : (f (32 * q + (n - 1)) < 32768) ↔ tq_lim (f (32 * q + (n - 1))) < 32768 := by
    rw [Int32.lt_iff_toInt_lt]
    have : (32768 : Int32).toInt = 32768 := rfl
    rw [this]; omega
  rw [e, tq_rv_last (by omega), tq_p15 (by omega)]
  generalize tq_lim (f (32 * q + (n - 1))) = t
  generalize tq_rv f (32 * q) (n - 1) = R at *
  generalize 2 ^ (16 * (n - 1)) = X at *
  constructor
  · intro w
    have := Nat.mul_le_mul_right X (show t + 1 ≤ 32768 by omega)
    rw [Nat.add_mul] at this; omega
  · intro w
    rcases Nat.lt_or_ge t 32768 with z | z
    · exact z
    · have := Nat.mul_le_mul_right X z; omega
theorem tq_mtotal1 {nz : Int32} {n : Nat} (h : tq_Sz nz n) {lf sf : Nat → Int32} (hl : tq_WL 200 lf) (hs : tq_WL 64 sf) {q : Nat} (hq : q ≤ 1) (sq : Int32) :
    ∃ r s l g, m_total nz sq lf sf (nI q) = some (r, s, l, g) ∧ tq_WL 200 l ∧ tq_WL 64 g ∧ tq_Gr q sf g ∧ tq_rv g (32 * q) n = tq_rv sf (32 * q) n ∧ r.toInt = tq_ansS n (tq_rv sf (32 * q) n) := by
  have hn := h.2
  have hsum : m_isSum (nI q) = 1 := by
    have : q = 0 ∨ q = 1 := by omega
    rcases this with rfl | rfl <;> decide
  unfold m_total
  rw [hsum, if_neg (by decide)]
  obtain ⟨r, e, hr⟩ := tq_mlost_spec h hq hs
  rw [tq_bd_e e]
  rcases hr with ⟨a, b⟩ | ⟨a, b⟩
  · rw [if_neg (by rw [b]; decide)]
    unfold m_total_b15
    refine ⟨_, _, _, _, rfl, hl, hs, fun _ _ => rfl, rfl, ?_⟩
    rw [tq_mnot_spec h]; unfold tq_ansS; rw [if_pos a]
  · rw [if_pos b]
    have e1 : (32 : Int32) * nI q + nz - 1 = nI (32 * q + (n - 1)) := by
      rw [tq_nz_eq h, tq_ix32]
      have : (1 : Int32) = nI 1 := rfl
      rw [this, tq_ixs (by omega) (by omega)]; congr 1; omega
    have n32 : n ≤ 32 := by omega
    rw [e1, if_neg (tq_ixok3 hq (by omega)), tq_ixcl3 hq (by omega)]
    have ht := tq_top_lt hq hn hs
    have hlt : tq_rv sf (32 * q) n < 2 ^ (16 * n) := tq_rv_lt (fun j hj => tq_lim_lt hs (by omega))
    by_cases t : sf (32 * q + (n - 1)) < 32768
    · rw [if_pos t]
      unfold m_total_b49 m_total_b60
      obtain ⟨l1, d1, w1, fr1, d2, d3⟩ := tq_mdraw_spec h hq (r := 1) (by decide) hl hs
      have d1' : m_draw nz lf sf (nI q) 1 = some l1 := d1
      rw [if_pos rfl, tq_bd_e d1', if_pos rfl]
      obtain ⟨r, l2, e2, w2, hr⟩ := tq_tot_76 h sf w1 d3 hlt 0 sq
      exact ⟨r, 0, l2, sf, e2, w2, hs, fun _ _ => rfl, rfl, by rw [hr, if_pos rfl, tq_sg_lo (ht.1 t)]⟩
    · rw [if_neg t]
      have hgt : 2 ^ (16 * n - 1) < tq_rv sf (32 * q) n := by
        rcases Nat.lt_trichotomy (tq_rv sf (32 * q) n) (2 ^ (16 * n - 1)) with z | z | z
        · exact absurd (ht.2 z) t
        · exact absurd z a
        · exact z
      unfold m_total_b49 m_total_b60
      have one : ¬ (1 : Int32) = 0 := by decide
      rw [if_neg one]
      obtain ⟨l1, f1, e1, w1, u1, fr1, v1, _⟩ := tq_mnegate_spec h hq hl hs
      rw [tq_bd_e e1, tq_nm_e, tq_nm_e, tq_nm_e]
      obtain ⟨l2, d1, w2, fr2, d2, d3⟩ := tq_mdraw_spec h hq (r := 1) (by decide) w1 u1
      have d1' : m_draw nz l1 f1 (nI q) 1 = some l2 := d1
      obtain ⟨l3, f3, e3, w3, u3, fr3, v3, fz3⟩ := tq_mnegate_spec h hq w2 u1
      rw [tq_bd_e d1', if_neg one, tq_bd_e e3, tq_nm_e, tq_nm_e, tq_nm_e]
      have hA : tq_rv l3 (40 * 1) 40 = tq_negS n (tq_rv sf (32 * q) n) := by rw [tq_Fr_rv fz3 (by decide), d3, v1]
      obtain ⟨r, l4, e4, w4, hr⟩ := tq_tot_76 h f3 w3 hA (Nat.mod_lt _ (Nat.two_pow_pos _)) 1 sq
      refine ⟨r, 0, l4, f3, e4, w4, u3, fun x hx => by rw [fr3 x hx]; exact fr1 x hx, ?_, ?_⟩
      · rw [v3, v1, tq_negS_negS hlt]
      · rw [hr, if_neg one, tq_sg_hi hgt hlt]
theorem tq_mtotal_q {nz : Int32} {n : Nat} (h : tq_Sz nz n) {lf sf : Nat → Int32} (hl : tq_WL 200 lf) (hs : tq_WL 64 sf) (sq q : Int32) :
    ∃ r s l g, m_total nz sq lf sf q = some (r, s, l, g) ∧ tq_WL 200 l ∧ tq_WL 64 g ∧ tq_rv g (32 * 0) n = tq_rv sf (32 * 0) n ∧ tq_rv g (32 * 1) n = tq_rv sf (32 * 1) n ∧ r.toInt = if q = 0 then tq_ansS n (tq_rv sf (32 * 0) n) else if q = 1 then tq_ansS n (tq_rv sf (32 * 1) n) else -2 ^ (n - 1) := by
  have n32 : n ≤ 32 := by have := h.2; omega
  by_cases a : q = 0
  · subst a
    obtain ⟨r, s, l, g, e, w1, w2, fr, v, hr⟩ := tq_mtotal1 h hl hs (q := 0) (by decide) sq
    have z0 : nI 0 = 0 := rfl
    rw [z0] at e
    exact ⟨r, s, l, g, e, w1, w2, v, tq_Gr_rv n32 fr (by decide), by rw [hr, if_pos rfl]⟩
  · by_cases b : q = 1
    · subst b
      obtain ⟨r, s, l, g, e, w1, w2, fr, v, hr⟩ := tq_mtotal1 h hl hs (q := 1) (by decide) sq
      have z0 : nI 1 = 1 := rfl
      rw [z0] at e
      exact ⟨r, s, l, g, e, w1, w2, tq_Gr_rv n32 fr (by decide), v, by rw [hr, if_neg a, if_pos rfl]⟩
    · unfold m_total m_total_b15
      rw [tq_msum0 (by rintro (z | z); exact a z; exact b z), if_pos rfl]
      exact ⟨_, _, _, _, rfl, hl, hs, rfl, rfl, by rw [tq_mnot_spec h, if_neg a, if_neg b]⟩
theorem tq_word_loop {q k : Nat} (hq : q ≤ 1) (hk : k < 8) {f : Nat → Int32} (hw : tq_WL 64 f) : ∀ i fu (v : Int64), i ≤ 4 → i < fu → tq_u64 v = tq_rv f (32 * q + 4 * k + i) (4 - i) → ∃ r, m_word_b28 f (nI q) (nI k) fu v (nI i + (-1)) = some r ∧ tq_u64 r = tq_rv f (32 * q + 4 * k) 4 := by
  intro i
  induction i with
  | zero =>
    intro fu v h1 h2 hu
    obtain ⟨m, rfl⟩ : ∃ k, fu = k + 1 := ⟨fu - 1, by omega⟩
    rw [m_word_b28, if_pos (by decide)]
    exact ⟨v, rfl, hu⟩
  | succ i ih =>
    intro fu v h1 h2 hu
    obtain ⟨m, rfl⟩ : ∃ k, fu = k + 1 := ⟨fu - 1, by omega⟩
    have ea : (32 : Int32) * nI q + 4 * nI k + nI i = nI (32 * q + 4 * k + i) := by
      show nI 32 * nI q + nI 4 * nI k + nI i = _
      unfold nI; rw [← Int32.ofNat_mul, ← Int32.ofNat_mul, ← Int32.ofNat_add, ← Int32.ofNat_add]
    rw [m_word_b28, tq_nI_pred (by omega), if_neg (tq_nI_nn (by omega)), ea, if_neg (tq_nI_ok (by omega) (by omega)), tq_nI_cl (by omega), tq_nm_e]
    apply ih m _ (by omega) (by omega)
    have hl := hw (32 * q + 4 * k + i) (by omega)
    have hlim := tq_i64_of_lim hl.1
    have hll := tq_lim_lt hw (i := 32 * q + 4 * k + i) (by omega)
    have hsp := tq_rv_split (f := f) (b := 32 * q + 4 * k + i) (i := 1) (3 - i)
    have e1 : tq_rv f (32 * q + 4 * k + i) 1 = tq_lim (f (32 * q + 4 * k + i)) := by
      show 0 + tq_lim (f (32 * q + 4 * k + i + 0)) * 2 ^ (16 * 0) = _
      simp
    rw [show 1 + (3 - i) = 4 - i by omega, e1] at hsp
    have hv4 : tq_u64 v = tq_rv f (32 * q + 4 * k + i + 1) (3 - i) := by
      rw [hu, show 4 - (i + 1) = 3 - i by omega, Nat.add_assoc _ i 1]
    have hb : tq_rv f (32 * q + 4 * k + i + 1) (3 - i) < 2 ^ (16 * (3 - i)) := tq_rv_lt (fun j hj => tq_lim_lt hw (by omega))
    have hb2 : 2 ^ (16 * (3 - i)) ≤ 2 ^ 48 := Nat.pow_le_pow_right (by omega) (by omega)
    rw [tq_u64_or, tq_u64_shl (k := 16) rfl (by omega), hv4, tq_u64_of_i hlim, Nat.mod_eq_of_lt (by omega), Nat.mul_comm, tq_or_add (by omega), hsp]
    show _ = tq_lim (f (32 * q + 4 * k + i)) + 2 ^ 16 * _
    omega
end
section
theorem tq_dm_uni {a x X r : Nat} (h : a = x + X * r) (hx : x < X) : a / X = r := by
  have hX : 0 < X := by omega
  rw [h, Nat.add_mul_div_left _ _ hX, Nat.div_eq_of_lt hx, Nat.zero_add]
theorem tq_word_sv {f : Nat → Int64} {N k : Nat} (hk : k < N) : tq_u64 (f k) = tq_sv f N / 2 ^ (64 * k) % 2 ^ 64 := by
  obtain ⟨r, h1, h2⟩ := tq_sv_split f k (N - k)
  rw [show k + (N - k) = N by omega] at h1
  rw [tq_dm_uni h1 (tq_sv_lt f k), h2 (by omega)]
theorem tq_word_rv {f : Nat → Int32} (hw : tq_WL 64 f) {q n k : Nat} (hq : q ≤ 1) (hn : n ≤ 32) (hk : 4 * k + 4 ≤ n) : tq_rv f (32 * q + 4 * k) 4 = tq_rv f (32 * q) n / 2 ^ (64 * k) % 2 ^ 64 := by
  have s := tq_rv_split (f := f) (b := 32 * q) (i := 4 * k) (n - 4 * k)
  rw [show 4 * k + (n - 4 * k) = n by omega, show 16 * (4 * k) = 64 * k by omega] at s
  have hl : tq_rv f (32 * q) (4 * k) < 2 ^ (16 * (4 * k)) := tq_rv_lt (fun j hj => tq_lim_lt hw (by omega))
  rw [show 16 * (4 * k) = 64 * k by omega] at hl
  rw [tq_dm_uni s hl]
  have t := tq_rv_split (f := f) (b := 32 * q + 4 * k) (i := 4) (n - 4 * k - 4)
  rw [show 4 + (n - 4 * k - 4) = n - 4 * k by omega] at t
  have h4 : tq_rv f (32 * q + 4 * k) 4 < 2 ^ (16 * 4) := tq_rv_lt (fun j hj => tq_lim_lt hw (by omega))
  rw [t, show 16 * 4 = 64 from rfl, Nat.add_mul_mod_self_left, Nat.mod_eq_of_lt h4]
theorem tq_nz_div {nz : Int32} {n N : Nat} (h : tq_Sz nz n) (hN : 4 * N = n) : nz / 4 = nI N := by
  obtain ⟨h1, h2⟩ := h
  rw [tq_of_i32 h1]
  clear h1
  rcases h2 with rfl | rfl | rfl
  · rw [show N = 2 by omega]; decide
  · rw [show N = 4 by omega]; decide
  · rw [show N = 8 by omega]; decide
theorem tq_mword1 {nz : Int32} {n N : Nat} (h : tq_Sz nz n) (hN : 4 * N = n) {sf : Nat → Int32} (hs : tq_WL 64 sf) {q k : Nat} (hq : q ≤ 1) (hk : k < N) : ∃ r, m_word_b28 sf (nI q) (nI k) 41 0 3 = some r ∧ tq_u64 r = tq_rv sf (32 * q) n / 2 ^ (64 * k) % 2 ^ 64 := by
  have hn := h.2
  obtain ⟨r, e, hr⟩ := tq_word_loop hq (k := k) (by omega) hs 4 41 0 (by omega) (by omega) rfl
  exact ⟨r, e, by rw [hr, tq_word_rv hs hq (n := n) (by omega) (by omega)]⟩
theorem tq_same_word {nz : Int32} {n N : Nat} (h : tq_Sz nz n) (hN : 4 * N = n) (p0 : Int32) {f0 f1 : Nat → Int64} {sf : Nat → Int32} (hs : tq_WL 64 sf) (h0 : tq_sv f0 N = tq_rv sf (32 * 0) n) (h1 : tq_sv f1 N = tq_rv sf (32 * 1) n) (q k : Int32) : ∃ v, f_word p0 N f0 f1 q k = some v ∧ m_word nz sf q k = some v := by
  have hn := h.2
  rw [tq_c_word hn hN]
  refine ⟨_, rfl, ?_⟩
  unfold m_word
  have c0 : ((0 : Int32)).toInt = 0 := rfl
  have hNI := tq_nI_i (n := N) (by omega)
  rw [tq_nz_div h hN]
  by_cases ab : q = 0 ∨ q = 1
  · rw [tq_msum1 ab, if_neg (by decide)]
    by_cases k0 : k < 0
    · have kk := k0
      rw [Int32.lt_iff_toInt_lt, c0] at kk
      rw [if_pos k0, if_neg (fun z => by have := z.2.1; omega)]
    · rw [if_neg k0]
      have k2 := k0
      rw [Int32.lt_iff_toInt_lt, c0] at k2
      by_cases kN : k < nI N
      · have kk := kN
        rw [Int32.lt_iff_toInt_lt, hNI] at kk
        rw [if_pos kN, if_pos (show (q = 0 ∨ q = 1) ∧ 0 ≤ k.toInt ∧ k.toInt < N from ⟨ab, by omega, by omega⟩)]
        have hcl := tq_cl_i (x := k) (by omega)
        have hkn : k = nI k.toNatClampNeg := tq_of_i32 (by omega)
        have hlt : k.toNatClampNeg < N := by omega
        generalize k.toNatClampNeg = j at *
        rw [hkn]
        rcases ab with rfl | rfl
        · obtain ⟨r, e, hr⟩ := tq_mword1 h hN hs (q := 0) (by decide) hlt
          have e' : m_word_b28 sf 0 (nI j) 41 0 3 = some r := e
          rw [e', if_pos (show (0 : Int32) = 0 from rfl)]
          congr 1
          apply tq_u64_inj
          rw [hr, tq_word_sv hlt, h0]
        · obtain ⟨r, e, hr⟩ := tq_mword1 h hN hs (q := 1) (by decide) hlt
          have e' : m_word_b28 sf 1 (nI j) 41 0 3 = some r := e
          rw [e', if_neg (show ¬ (1 : Int32) = 0 by decide)]
          congr 1
          apply tq_u64_inj
          rw [hr, tq_word_sv hlt, h1]
      · have kk := kN
        rw [Int32.lt_iff_toInt_lt, hNI] at kk
        rw [if_neg kN, if_neg (show ¬ ((q = 0 ∨ q = 1) ∧ 0 ≤ k.toInt ∧ k.toInt < N) from fun z => by have := z.2.2; omega)]
  · rw [tq_msum0 ab, if_pos rfl, if_neg (fun z => ab z.1)]
theorem tq_same_bits (size : Int32) : f_bits size = m_bits size := rfl
theorem tq_same_next {size : Int32} {n : Nat} (h : tq_Sz size n) (x : Int32) : f_next size x = m_next size x := by
  apply Int32.toInt.inj
  rw [tq_c_next h]
  exact (tq_mpat_spec h _).symm
theorem tq_same_pat {size : Int32} {n : Nat} (h : tq_Sz size n) (x : Int32) : f_patternOf x size = m_pattern size x := by
  apply Int32.toInt.inj
  rw [tq_patternOf_spec h, tq_mpat_spec h]
theorem tq_same_compare {size : Int32} {n : Nat} (h : tq_Sz size n) (x y : Int32) : f_compare size x y = m_compare size x y := by
  apply Int32.toInt.inj
  rw [tq_c_compare h]
  unfold m_compare
  have h1 := tq_mpat_spec h x
  have h2 := tq_mpat_spec h y
  simp only [tq_nm_e]
  by_cases a : tq_pat n x = tq_pat n y
  · have : m_pattern size x = m_pattern size y := Int32.toInt.inj (by rw [h1, h2, a])
    rw [if_pos a, if_neg (fun w => w this)]; rfl
  · have : ¬ m_pattern size x = m_pattern size y := fun w => a (by rw [← h1, ← h2, w])
    rw [if_neg a, if_pos this]
    by_cases b : tq_pat n x < tq_pat n y
    · rw [if_pos b, if_neg (show ¬ m_pattern size y ≤ m_pattern size x from fun w => by rw [Int32.le_iff_toInt_le, h1, h2] at w; omega)]; rfl
    · rw [if_neg b, if_pos (show m_pattern size y ≤ m_pattern size x by rw [Int32.le_iff_toInt_le, h1, h2]; omega)]; rfl
end
section
theorem tq_same_add {size : Int32} {n : Nat} (h : tq_Sz size n) {N : Nat} (hN : 4 * N = n) {p0 : Int32} (hp : p0.toInt = 8 * n - 16) (nt0 ng0 : Int32) (mg0 : Int64) (ex0 nt1 ng1 : Int32) (mg1 : Int64) (ex1 : Int32) (f2 f3 : Nat → Int64) {lf : Nat → Int32} (hl : tq_WL 200 lf) (sq x y : Int32) :
    ∃ r a b c d a' b' c' d' g2 g3 s l, f_add size nt0 ng0 mg0 ex0 nt1 ng1 mg1 ex1 p0 N f2 f3 x y = some (r, a, b, c, d, a', b', c', d', g2, g3) ∧ m_add size sq lf x y = some (r, s, l) ∧ tq_WL 200 l := by
  obtain ⟨r, a, b, c, d, a', b', c', d', g2, g3, e, hr⟩ := tq_c_add h hN hp nt0 ng0 mg0 ex0 nt1 ng1 mg1 ex1 f2 f3 x y
  obtain ⟨r2, s, l, e2, w, hr2⟩ := tq_madd_spec h hl sq x y
  have : r2 = r := Int32.toInt.inj (by rw [hr, hr2])
  subst this
  exact ⟨_, a, b, c, d, a', b', c', d', g2, g3, s, l, e, e2, w⟩
theorem tq_same_subtract {size : Int32} {n : Nat} (h : tq_Sz size n) {N : Nat} (hN : 4 * N = n) {p0 : Int32} (hp : p0.toInt = 8 * n - 16) (nt0 ng0 : Int32) (mg0 : Int64) (ex0 nt1 ng1 : Int32) (mg1 : Int64) (ex1 : Int32) (f2 f3 : Nat → Int64) {lf : Nat → Int32} (hl : tq_WL 200 lf) (sq x y : Int32) :
    ∃ r a b c d a' b' c' d' g2 g3 s l, f_subtract size nt0 ng0 mg0 ex0 nt1 ng1 mg1 ex1 p0 N f2 f3 x y = some (r, a, b, c, d, a', b', c', d', g2, g3) ∧ m_subtract size sq lf x y = some (r, s, l) ∧ tq_WL 200 l := by
  obtain ⟨r, a, b, c, d, a', b', c', d', g2, g3, e, hr⟩ := tq_c_subtract h hN hp nt0 ng0 mg0 ex0 nt1 ng1 mg1 ex1 f2 f3 x y
  obtain ⟨r2, s, l, e2, w, hr2⟩ := tq_msubtract_spec h hl sq x y
  have : r2 = r := Int32.toInt.inj (by rw [hr, hr2])
  subst this
  exact ⟨_, a, b, c, d, a', b', c', d', g2, g3, s, l, e, e2, w⟩
theorem tq_same_multiply {size : Int32} {n : Nat} (h : tq_Sz size n) {N : Nat} (hN : 4 * N = n) {p0 : Int32} (hp : p0.toInt = 8 * n - 16) (nt0 ng0 : Int32) (mg0 : Int64) (ex0 nt1 ng1 : Int32) (mg1 : Int64) (ex1 : Int32) (f2 f3 : Nat → Int64) {lf : Nat → Int32} (hl : tq_WL 200 lf) (sq x y : Int32) :
    ∃ r a b c d a' b' c' d' g2 g3 s l, f_multiply size nt0 ng0 mg0 ex0 nt1 ng1 mg1 ex1 p0 N f2 f3 x y = some (r, a, b, c, d, a', b', c', d', g2, g3) ∧ m_multiply size sq lf x y = some (r, s, l) ∧ tq_WL 200 l := by
  obtain ⟨r, a, b, c, d, a', b', c', d', g2, g3, e, hr⟩ := tq_c_multiply h hN hp nt0 ng0 mg0 ex0 nt1 ng1 mg1 ex1 f2 f3 x y
  obtain ⟨r2, s, l, e2, w, hr2⟩ := tq_mmultiply_spec h hl sq x y
  have : r2 = r := Int32.toInt.inj (by rw [hr, hr2])
  subst this
  exact ⟨_, a, b, c, d, a', b', c', d', g2, g3, s, l, e, e2, w⟩
theorem tq_same_fused {size : Int32} {n : Nat} (h : tq_Sz size n) {N : Nat} (hN : 4 * N = n) {p0 : Int32} (hp : p0.toInt = 8 * n - 16) (nt0 ng0 : Int32) (mg0 : Int64) (ex0 nt1 ng1 : Int32) (mg1 : Int64) (ex1 : Int32) (f2 f3 : Nat → Int64) {lf : Nat → Int32} (hl : tq_WL 200 lf) (sq x y z : Int32) :
    ∃ r a b c d a' b' c' d' g2 g3 s l, f_fused size nt0 ng0 mg0 ex0 nt1 ng1 mg1 ex1 p0 N f2 f3 x y z = some (r, a, b, c, d, a', b', c', d', g2, g3) ∧ m_fused size sq lf x y z = some (r, s, l) ∧ tq_WL 200 l := by
  obtain ⟨r, a, b, c, d, a', b', c', d', g2, g3, e, hr⟩ := tq_c_fused h hN hp nt0 ng0 mg0 ex0 nt1 ng1 mg1 ex1 f2 f3 x y z
  obtain ⟨r2, s, l, e2, w, hr2⟩ := tq_mfused_spec h hl sq x y z
  have : r2 = r := Int32.toInt.inj (by rw [hr, hr2])
  subst this
  exact ⟨_, a, b, c, d, a', b', c', d', g2, g3, s, l, e, e2, w⟩
theorem tq_same_divide {size : Int32} {n : Nat} (h : tq_Sz size n) (nt0 ng0 : Int32) (mg0 : Int64) (ex0 nt1 ng1 : Int32) (mg1 : Int64) (ex1 : Int32) {lf : Nat → Int32} (hl : tq_WL 200 lf) (sq x y : Int32) :
    ∃ r a b c d a' b' c' d' s l, f_divide size nt0 ng0 mg0 ex0 nt1 ng1 mg1 ex1 x y = some (r, a, b, c, d, a', b', c', d') ∧ m_divide size sq lf x y = some (r, s, l) ∧ tq_WL 200 l := by
  obtain ⟨r, a, b, c, d, a', b', c', d', e, h1, h2⟩ := tq_c_divide h nt0 ng0 mg0 ex0 nt1 ng1 mg1 ex1 x y
  obtain ⟨r2, s, l, e2, w, k1, k2⟩ := tq_mdivide_spec h hl sq x y
  have : r2 = r := by
    apply Int32.toInt.inj
    by_cases u : tq_pat n x = -2 ^ (n - 1) ∨ tq_pat n y = -2 ^ (n - 1) ∨ tq_pat n y = 0
    · rw [h1 u, k1 u]
    · have u1 : tq_pat n x ≠ -2 ^ (n - 1) := fun z => u (.inl z)
      have u2 : tq_pat n y ≠ -2 ^ (n - 1) := fun z => u (.inr (.inl z))
      have u3 : tq_pat n y ≠ 0 := fun z => u (.inr (.inr z))
      obtain ⟨m, e, m', e', q1, q2, q3⟩ := h2 u1 u2 u3
      rw [q3, k2 u1 u2 u3 m e m' e' q1 q2]
  subst this
  exact ⟨_, a, b, c, d, a', b', c', d', s, l, e, e2, w⟩
theorem tq_same_root {size : Int32} {n : Nat} (h : tq_Sz size n) (nt0 ng0 : Int32) (mg0 : Int64) (ex0 : Int32) {lf : Nat → Int32} (hl : tq_WL 200 lf) (sq x : Int32) :
    ∃ r a b c d s l, f_root size nt0 ng0 mg0 ex0 x = some (r, a, b, c, d) ∧ m_root size sq lf x = some (r, s, l) ∧ tq_WL 200 l := by
  obtain ⟨r, a, b, c, d, e, h1, h2, h3⟩ := tq_c_root h nt0 ng0 mg0 ex0 x
  obtain ⟨r2, s, l, e2, w, k1, k2, k3⟩ := tq_mroot_spec h hl sq x
  have : r2 = r := by
    apply Int32.toInt.inj
    rcases Int.lt_trichotomy (tq_pat n x) 0 with z | z | z
    · rw [h1 z, k1 z]
    · rw [h2 z, k2 z]
    · obtain ⟨m, e, R, q1, q2, q3, q4⟩ := h3 z
      rw [q4, k3 z m e R q1 q2 q3]
  subst this
  exact ⟨_, a, b, c, d, s, l, e, e2, w⟩
theorem tq_same_whole {size : Int32} {n : Nat} (h : tq_Sz size n) (nt0 ng0 : Int32) (mg0 : Int64) (ex0 : Int32) {lf : Nat → Int32} (hl : tq_WL 200 lf) (sq x : Int32) :
    ∃ r a b c d s l, f_whole size nt0 ng0 mg0 ex0 x = (r, a, b, c, d) ∧ m_whole size sq lf x = some (r, s, l) ∧ tq_WL 200 l := by
  obtain ⟨r, a, b, c, d, e, h1, h2⟩ := tq_c_whole h nt0 ng0 mg0 ex0 x
  obtain ⟨r2, s, l, e2, w, k1, k2⟩ := tq_mwhole_spec h hl sq x
  have : r2 = r := by
    apply Int32.toInt.inj
    by_cases u : tq_pat n x = -2 ^ (n - 1)
    · rw [h1 u, k1 u]
    · obtain ⟨m, e, q1, q2⟩ := h2 u
      rw [q2, k2 u m e q1]
  subst this
  exact ⟨_, a, b, c, d, s, l, e, e2, w⟩
theorem tq_same_toLong {size : Int32} {n : Nat} (h : tq_Sz size n) (nt0 ng0 : Int32) (mg0 : Int64) (ex0 : Int32) {lf : Nat → Int32} (hl : tq_WL 200 lf) (x : Int32) :
    ∃ r a b c d l, f_toLong size nt0 ng0 mg0 ex0 x = (r, a, b, c, d) ∧ m_toLong size lf x = some (r, l) ∧ tq_WL 200 l := by
  obtain ⟨r, a, b, c, d, e, h1, h2⟩ := tq_c_toLong h nt0 ng0 mg0 ex0 x
  obtain ⟨r2, l, e2, w, k1, k2⟩ := tq_mtoLong_spec h hl x
  have : r2 = r := by
    apply Int64.toInt.inj
    by_cases u : tq_pat n x = -2 ^ (n - 1)
    · rw [h1 u, k1 u]
    · obtain ⟨m, e, q1, q2⟩ := h2 u
      rw [q2, k2 u m e q1]
  subst this
  exact ⟨_, a, b, c, d, l, e, e2, w⟩
theorem tq_same_convert {size : Int32} {n : Nat} (h : tq_Sz size n) (nt0 ng0 : Int32) (mg0 : Int64) (ex0 : Int32) {lf : Nat → Int32} (hl : tq_WL 200 lf) (sq x wd : Int32) :
    ∃ r a b c d s l, f_convert size nt0 ng0 mg0 ex0 x wd = (r, a, b, c, d) ∧ m_convert size sq lf x wd = some (r, s, l) ∧ tq_WL 200 l := by
  obtain ⟨r, a, b, c, d, e, h1, h2⟩ := tq_c_convert h nt0 ng0 mg0 ex0 x wd rfl
  obtain ⟨r2, s, l, e2, w, k1, k2⟩ := tq_mconvert_spec h hl sq x wd rfl
  have : r2 = r := by
    apply Int32.toInt.inj
    by_cases u : tq_pat n x = -2 ^ (n - 1)
    · rw [h1 u, k1 u]
    · obtain ⟨m, e, q1, q2⟩ := h2 u
      rw [q2, k2 u m e q1]
  subst this
  exact ⟨_, a, b, c, d, s, l, e, e2, w⟩
theorem tq_same_fromLong {size : Int32} {n : Nat} (h : tq_Sz size n) {lf : Nat → Int32} (hl : tq_WL 200 lf) (sq : Int32) (v : Int64) :
    ∃ s l, m_fromLong size sq lf v = some (f_fromLong size v, s, l) ∧ tq_WL 200 l := by
  obtain ⟨r2, s, l, e2, w, k1⟩ := tq_mfromLong_spec h hl sq v
  have : r2 = f_fromLong size v := Int32.toInt.inj (by rw [k1, tq_c_fromLong h])
  subst this
  exact ⟨s, l, e2, w⟩
theorem tq_same_clear {size : Int32} {n : Nat} (h : tq_Sz size n) {N : Nat} (hN : 4 * N = n) (p0 : Int32) {f0 f1 : Nat → Int64} {sf : Nat → Int32} (hs : tq_WL 64 sf) (h0 : tq_sv f0 N = tq_rv sf (32 * 0) n) (h1 : tq_sv f1 N = tq_rv sf (32 * 1) n) (q : Int32) :
    ∃ r g0 g1 g, f_clear p0 N f0 f1 q = some (r, g0, g1) ∧ m_clear size sf q = some (r, g) ∧ tq_WL 64 g ∧ tq_sv g0 N = tq_rv g (32 * 0) n ∧ tq_sv g1 N = tq_rv g (32 * 1) n := by
  obtain ⟨g0, g1, e, q0, q1⟩ := tq_c_clear h.2 hN p0 f0 f1 q
  obtain ⟨g, e2, w, k0, k1⟩ := tq_mclear_spec h hs q
  rw [h0] at q0
  rw [h1] at q1
  exact ⟨_, g0, g1, g, e, e2, w, q0.trans k0.symm, q1.trans k1.symm⟩
theorem tq_same_merge {size : Int32} {n : Nat} (h : tq_Sz size n) {N : Nat} (hN : 4 * N = n) (p0 : Int32) {f0 f1 : Nat → Int64} {lf sf : Nat → Int32} (hl : tq_WL 200 lf) (hs : tq_WL 64 sf) (h0 : tq_sv f0 N = tq_rv sf (32 * 0) n) (h1 : tq_sv f1 N = tq_rv sf (32 * 1) n) (q : Int32) :
    ∃ r g0 g1 l g, f_merge p0 N f0 f1 q = some (r, g0, g1) ∧ m_merge size lf sf q = some (r, l, g) ∧ tq_WL 200 l ∧ tq_WL 64 g ∧ tq_sv g0 N = tq_rv g (32 * 0) n ∧ tq_sv g1 N = tq_rv g (32 * 1) n := by
  obtain ⟨g0, g1, e, q0, q1⟩ := tq_c_merge h.2 hN p0 f0 f1 q
  obtain ⟨l, g, e2, w, w2, k0, k1⟩ := tq_mmerge_q h hl hs q
  rw [h0, h1] at q0
  rw [h0, h1] at q1
  exact ⟨_, g0, g1, l, g, e, e2, w, w2, q0.trans k0.symm, q1.trans k1.symm⟩
theorem tq_same_negate {size : Int32} {n : Nat} (h : tq_Sz size n) {N : Nat} (hN : 4 * N = n) (p0 : Int32) {f0 f1 : Nat → Int64} {lf sf : Nat → Int32} (hl : tq_WL 200 lf) (hs : tq_WL 64 sf) (h0 : tq_sv f0 N = tq_rv sf (32 * 0) n) (h1 : tq_sv f1 N = tq_rv sf (32 * 1) n) (q : Int32) :
    ∃ r g0 g1 l g, f_negate p0 N f0 f1 q = some (r, g0, g1) ∧ m_negate size lf sf q = some (r, l, g) ∧ tq_WL 200 l ∧ tq_WL 64 g ∧ tq_sv g0 N = tq_rv g (32 * 0) n ∧ tq_sv g1 N = tq_rv g (32 * 1) n := by
  obtain ⟨g0, g1, e, q0, q1⟩ := tq_c_negate h.2 hN p0 f0 f1 q
  obtain ⟨l, g, e2, w, w2, k0, k1⟩ := tq_mnegate_q h hl hs q
  rw [h0] at q0
  rw [h1] at q1
  exact ⟨_, g0, g1, l, g, e, e2, w, w2, q0.trans k0.symm, q1.trans k1.symm⟩
theorem tq_same_collect {size : Int32} {n : Nat} (h : tq_Sz size n) {N : Nat} (hN : 4 * N = n) {p0 : Int32} (hp : p0.toInt = 8 * n - 16) (nt0 ng0 : Int32) (mg0 : Int64) (ex0 nt1 ng1 : Int32) (mg1 : Int64) (ex1 : Int32) (f3 : Nat → Int64) {f0 f1 : Nat → Int64} {lf sf : Nat → Int32} (hl : tq_WL 200 lf) (hs : tq_WL 64 sf) (h0 : tq_sv f0 N = tq_rv sf (32 * 0) n) (h1 : tq_sv f1 N = tq_rv sf (32 * 1) n) (q x y : Int32) {mi : Int32} (hmi : mi = 0 ∨ mi = 1) :
    ∃ r g0 g1 g3 a b c d a' b' c' d' l g, f_collect size nt0 ng0 mg0 ex0 nt1 ng1 mg1 ex1 p0 N f0 f1 q f3 x y mi = some (r, g0, g1, g3, a, b, c, d, a', b', c', d') ∧ m_collect size lf sf q x y mi = some (r, l, g) ∧ tq_WL 200 l ∧ tq_WL 64 g ∧ tq_sv g0 N = tq_rv g (32 * 0) n ∧ tq_sv g1 N = tq_rv g (32 * 1) n := by
  obtain ⟨g0, g1, g3, a, b, c, d, a', b', c', d', e, q0, q1⟩ := tq_c_collect h hN hp nt0 ng0 mg0 ex0 nt1 ng1 mg1 ex1 f0 f1 f3 q x y mi
  obtain ⟨l, g, e2, w, w2, k0, k1⟩ := tq_mcollect_q h hl hs q x y hmi rfl
  rw [h0] at q0
  rw [h1] at q1
  exact ⟨_, g0, g1, g3, a, b, c, d, a', b', c', d', l, g, e, e2, w, w2, q0.trans k0.symm, q1.trans k1.symm⟩
theorem tq_same_total {size : Int32} {n : Nat} (h : tq_Sz size n) {N : Nat} (hN : 4 * N = n) {p0 : Int32} (hp : p0.toInt = 8 * n - 16) (f3 : Nat → Int64) {f0 f1 : Nat → Int64} {lf sf : Nat → Int32} (hl : tq_WL 200 lf) (hs : tq_WL 64 sf) (h0 : tq_sv f0 N = tq_rv sf (32 * 0) n) (h1 : tq_sv f1 N = tq_rv sf (32 * 1) n) (sq q : Int32) :
    ∃ r g3 s l g, f_total size p0 N f0 f1 q f3 = some (r, g3) ∧ m_total size sq lf sf q = some (r, s, l, g) ∧ tq_WL 200 l ∧ tq_WL 64 g ∧ tq_sv f0 N = tq_rv g (32 * 0) n ∧ tq_sv f1 N = tq_rv g (32 * 1) n := by
  obtain ⟨r, g3, e, hr⟩ := tq_c_total h hN hp f0 f1 f3 q
  obtain ⟨r2, s, l, g, e2, w, w2, k0, k1, hr2⟩ := tq_mtotal_q h hl hs sq q
  have : r2 = r := Int32.toInt.inj (by rw [hr, hr2, h0, h1])
  subst this
  exact ⟨_, g3, s, l, g, e, e2, w, w2, h0.trans k0.symm, h1.trans k1.symm⟩
end
