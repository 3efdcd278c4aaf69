set_option maxHeartbeats 4000000 in
set_option maxRecDepth 100000 in
theorem c_f_floorRoot (l : Launch) (dC : Nat → ClassId) (dI : Nat → Nat → Nat) (sz : Nat) (radicand : Int64) (r : Int64) (hf : f_floorRoot radicand = some r) : Met l yX2_floorRoot tqw_X2_floorRoot ({ frames := 0, cells := 0, slots := 0, locals := 0 }) (va_Pc [.long radicand] (fun U => U.heap.size = sz ∧ va_P (dC, dI) tqCl [] U.heap ∧ va_K (dC, dI) tqCl [] U ∧ va_D (fun _ => True) [] ∧ tqN U)) (va_Ql (fun (a : Int64) (_ : Unit) => a = r) (fun (_ : Unit) (t : State) => va_P (dC, dI) tqCl [] t.heap ∧ va_K (dC, dI) tqCl [] t ∧ va_D (va_A [] sz) []) (va_A [] sz)) 0 0 (va_A [] sz) := by
  refine Met.ofW (cc := cX2_floorRoot) (maxL := 7) (ret := (some .long)) (by decide) rfl ?_
  intro p e s m args below meth c s₁ B hml hv
  obtain ⟨rfl, hsz, hP, hK, hD0, hN⟩ := hv
  have hx := B.exec
  have hb := B.bytes
  have hr := B.returns
  have hts := atoms_spec (ws := tqw_X2_floorRoot) B.pre
  have hww : ∀ w ∈ tqW, w.before _ s = true := fun w h => hts w (List.mem_cons_of_mem _ h)
  have hown : s.vm.findClass RX2 = some m.cls := findClass_of_methodNamed B.named
  have hlocks := B.notSynchronized
  subst hsz
  have hD := hD0.self (sz := s.heap.size)
  generalize hAe : va_A [] s.heap.size = A at hD ⊢
  have hA : ∀ q : Nat, s.heap.size ≤ q → A q := fun q h => by rw [← hAe]; exact Or.inr h
  have hS : va_S A s.heap s.heap [] := va_S.rf
  have hP : va_P (dC, dI) tqCl [] s.heap := hP
  have hl := lv_entry ([.long radicand]) (n := 7) (Nat.le_of_ble_eq_true rfl)
  rw [lg_entry_eq]
  generalize (lg_sl ([.long radicand]) ++ List.replicate (7 - (lg_sl ([.long radicand])).length) Slot.unset).toArray = ls at hl ⊢
  have hl : lv_has ls 7 [(0, .long radicand)] := hl
  have B6 : ∀ (n6 : Nat) (ls : Array Slot) (H : Heap) (locs : List Loc) (v2 : Int64) (v4 : Int32), f_floorRoot_b6 radicand n6 v2 v4 = some r → lv_has ls 7 [(0, .long radicand), (2, .long v2), (4, .int v4)] → va_P (dC, dI) tqCl [] H → va_D A [] → va_S A s.heap H locs → W p l e ({ frames := 0, cells := 0, slots := 0, locals := 0 }) s m ([.long radicand] : List Value).toArray below meth c H locs 0 0 (MQ below (va_Ql (fun (a : Int64) (_ : Unit) => a = r) (fun (_ : Unit) (t : State) => va_P (dC, dI) tqCl [] t.heap ∧ va_K (dC, dI) tqCl [] t ∧ va_D (A) []) (A)) ([.long radicand] : List Value).toArray s 0 0 A) (F0 m 6 ls []) := by
    try clear hf
    intro n6
    induction n6 with
    | zero =>
      intro ls H locs v2 v4 hf hl hP hD hS
      have hf : (none : Option (Int64)) = some r := hf
      cases hf
    | succ n6 ih6 =>
      intro ls H locs v2 v4 hf hl hP hD hS
      unfold f_floorRoot_b6 at hf
      refine lv_iload hx hb dX2_floorRoot_6 (lv_at hl 2 rfl) ?_
      refine lv_if_lt hx hb dX2_floorRoot_8 rfl (fun h1 => ?_) (fun h1 => ?_)
      · rw [if_pos h1] at hf
        refine lv_lload_n hx hb dX2_floorRoot_38 rfl (lv_at hl 1 rfl) ?_
        have hf := Option.some.inj hf
        subst hf
        exact W.lret (v := v2) hx hb hr (fun t ht hW => ⟨⟨v2, (), rfl, rfl, by rw [ht]; exact hP, va_K.moved hW.alike hK, hD⟩, hS.F ht⟩) hS.2.2 dX2_floorRoot_39
      · rw [if_neg h1] at hf
        refine lv_lload_n hx hb dX2_floorRoot_11 rfl (lv_at hl 1 rfl) ?_
        refine lv_lconst (v := 1) hx hb dX2_floorRoot_12 (by decide) ?_
        refine lv_iload hx hb dX2_floorRoot_13 (lv_at hl 2 rfl) ?_
        refine lv_lshl hx hb dX2_floorRoot_15 rfl ?_
        refine lv_lor hx hb dX2_floorRoot_16 ?_
        refine lv_topl (fun x2 e2 => ?_)
        have hf := tq_nm_at e2 hf
        refine lv_lstore (lv' := [(5, .long x2), (0, .long radicand), (2, .long v2), (4, .int v4)]) hx hb dX2_floorRoot_17 hl (by decide) rfl (fun ls hl => ?_)
        refine lv_lload hx hb dX2_floorRoot_19 (lv_at hl 0 rfl) ?_
        refine lv_lload hx hb dX2_floorRoot_21 (lv_at hl 0 rfl) ?_
        refine lv_lmul hx hb dX2_floorRoot_23 ?_
        refine lv_lload_n hx hb dX2_floorRoot_24 rfl (lv_at hl 1 rfl) ?_
        refine W.lcmp hx hb dX2_floorRoot_25 ?_
        refine lv_if_gt hx hb dX2_floorRoot_26 rfl (fun h3 => ?_) (fun h3 => ?_)
        · rw [if_pos h3] at hf
          refine lv_iinc (v := v4 + (-1 : Int32)) (lv' := [(4, .int (v4 + (-1 : Int32))), (5, .long x2), (0, .long radicand), (2, .long v2)]) hx hb dX2_floorRoot_32 hl (k := 3) rfl rfl (by decide) rfl (fun ls hl => ?_)
          refine lv_goto hx hb dX2_floorRoot_35 rfl ?_
          exact ih6 ls _ _ v2 (v4 + (-1 : Int32)) hf (lv_sub hl [2, 3, 0] rfl) hP hD hS
        · rw [if_neg h3] at hf
          refine lv_lload hx hb dX2_floorRoot_29 (lv_at hl 0 rfl) ?_
          refine lv_lstore_n (lv' := [(2, .long x2), (5, .long x2), (0, .long radicand), (4, .int v4)]) hx hb dX2_floorRoot_31 rfl hl (by decide) rfl (fun ls hl => ?_)
          refine lv_iinc (v := v4 + (-1 : Int32)) (lv' := [(4, .int (v4 + (-1 : Int32))), (2, .long x2), (5, .long x2), (0, .long radicand)]) hx hb dX2_floorRoot_32 hl (k := 3) rfl rfl (by decide) rfl (fun ls hl => ?_)
          refine lv_goto hx hb dX2_floorRoot_35 rfl ?_
          exact ih6 ls _ _ x2 (v4 + (-1 : Int32)) hf (lv_sub hl [3, 1, 0] rfl) hP hD hS
  unfold f_floorRoot at hf
  refine lv_lconst (v := 0) hx hb dX2_floorRoot_0 (by decide) ?_
  refine lv_lstore_n (lv' := [(2, .long (0 : Int64)), (0, .long radicand)]) hx hb dX2_floorRoot_1 rfl hl (by decide) rfl (fun ls hl => ?_)
  refine lv_bipush (v := 30) hx hb dX2_floorRoot_2 (by decide) ?_
  refine lv_istore (lv' := [(4, .int (30 : Int32)), (2, .long (0 : Int64)), (0, .long radicand)]) hx hb dX2_floorRoot_4 hl (by decide) rfl (fun ls hl => ?_)
  exact B6 32 ls _ _ (0 : Int64) (30 : Int32) hf (lv_sub hl [2, 1, 0] rfl) hP hD hS
set_option maxHeartbeats 4000000 in
set_option maxRecDepth 100000 in
theorem c_f_positivePattern (l : Launch) (dC : Nat → ClassId) (dI : Nat → Nat → Nat) (sz : Nat) (size : Int32) (scale : Int32) (significand : Int64) (more : Int32) (r : Int32) (hf : f_positivePattern size scale significand more = r) : Met l yX2_positivePattern tqw_X2_positivePattern ({ frames := 0, cells := 0, slots := 0, locals := 0 }) (va_Pc [.int size, .int scale, .long significand, .int more] (fun U => U.heap.size = sz ∧ va_P (dC, dI) tqCl [] U.heap ∧ va_K (dC, dI) tqCl [] U ∧ va_D (fun _ => True) [] ∧ tqN U)) (va_Qi (fun (a : Int32) (_ : Unit) => a = r) (fun (_ : Unit) (t : State) => va_P (dC, dI) tqCl [] t.heap ∧ va_K (dC, dI) tqCl [] t ∧ va_D (va_A [] sz) []) (va_A [] sz)) 0 0 (va_A [] sz) := by
  refine Met.ofW (cc := cX2_positivePattern) (maxL := 19) (ret := (some .int)) (by decide) rfl ?_
  intro p e s m args below meth c s₁ B hml hv
  obtain ⟨rfl, hsz, hP, hK, hD0, hN⟩ := hv
  have hx := B.exec
  have hb := B.bytes
  have hr := B.returns
  have hts := atoms_spec (ws := tqw_X2_positivePattern) B.pre
  have hww : ∀ w ∈ tqW, w.before _ s = true := fun w h => hts w (List.mem_cons_of_mem _ h)
  have hown : s.vm.findClass RX2 = some m.cls := findClass_of_methodNamed B.named
  have hlocks := B.notSynchronized
  subst hsz
  have hD := hD0.self (sz := s.heap.size)
  generalize hAe : va_A [] s.heap.size = A at hD ⊢
  have hA : ∀ q : Nat, s.heap.size ≤ q → A q := fun q h => by rw [← hAe]; exact Or.inr h
  have hS : va_S A s.heap s.heap [] := va_S.rf
  have hP : va_P (dC, dI) tqCl [] s.heap := hP
  have hl := lv_entry ([.int size, .int scale, .long significand, .int more]) (n := 19) (Nat.le_of_ble_eq_true rfl)
  rw [lg_entry_eq]
  generalize (lg_sl ([.int size, .int scale, .long significand, .int more]) ++ List.replicate (19 - (lg_sl ([.int size, .int scale, .long significand, .int more])).length) Slot.unset).toArray = ls at hl ⊢
  have hl : lv_has ls 19 [(0, .int size), (1, .int scale), (2, .long significand), (4, .int more)] := hl
  have B200 : ∀ (ls : Array Slot) (H : Heap) (locs : List Loc) (v13 : Int32) (t0 : Int32), f_positivePattern_b200 v13 t0 = r → lv_has ls 19 [(13, .int v13)] → va_P (dC, dI) tqCl [] H → va_D A [] → va_S A s.heap H locs → W p l e ({ frames := 0, cells := 0, slots := 0, locals := 0 }) s m ([.int size, .int scale, .long significand, .int more] : List Value).toArray below meth c H locs 0 0 (MQ below (va_Qi (fun (a : Int32) (_ : Unit) => a = r) (fun (_ : Unit) (t : State) => va_P (dC, dI) tqCl [] t.heap ∧ va_K (dC, dI) tqCl [] t ∧ va_D (A) []) (A)) ([.int size, .int scale, .long significand, .int more] : List Value).toArray s 0 0 A) (F0 m 200 ls [.int t0]) := by
    try clear hf
    intro ls H locs v13 t0 hf hl hP hD hS
    unfold f_positivePattern_b200 at hf
    refine lv_istore (lv' := [(18, .int t0), (13, .int v13)]) hx hb dX2_positivePattern_200 hl (by decide) rfl (fun ls hl => ?_)
    refine lv_iload hx hb dX2_positivePattern_202 (lv_at hl 0 rfl) ?_
    refine lv_if_eq hx hb dX2_positivePattern_204 rfl (fun h15 => ?_) (fun h15 => ?_)
    · rw [if_pos h15] at hf
      refine lv_iload hx hb dX2_positivePattern_214 (lv_at hl 1 rfl) ?_
      subst hf
      exact W.iret (v := v13) hx hb hr (fun t ht hW => ⟨⟨v13, (), rfl, rfl, by rw [ht]; exact hP, va_K.moved hW.alike hK, hD⟩, hS.F ht⟩) hS.2.2 dX2_positivePattern_216
    · rw [if_neg h15] at hf
      refine lv_iload hx hb dX2_positivePattern_207 (lv_at hl 1 rfl) ?_
      refine lv_iconst (v := 1) hx hb dX2_positivePattern_209 (by decide) ?_
      refine lv_iadd hx hb dX2_positivePattern_210 ?_
      refine lv_goto hx hb dX2_positivePattern_211 rfl ?_
      subst hf
      exact W.iret (v := v13 + (1 : Int32)) hx hb hr (fun t ht hW => ⟨⟨v13 + (1 : Int32), (), rfl, rfl, by rw [ht]; exact hP, va_K.moved hW.alike hK, hD⟩, hS.F ht⟩) hS.2.2 dX2_positivePattern_216
  have B175 : ∀ (ls : Array Slot) (H : Heap) (locs : List Loc) (v13 : Int32) (v16 : Int32) (t0 : Int32), f_positivePattern_b175 v13 v16 t0 = r → lv_has ls 19 [(13, .int v13), (16, .int v16)] → va_P (dC, dI) tqCl [] H → va_D A [] → va_S A s.heap H locs → W p l e ({ frames := 0, cells := 0, slots := 0, locals := 0 }) s m ([.int size, .int scale, .long significand, .int more] : List Value).toArray below meth c H locs 0 0 (MQ below (va_Qi (fun (a : Int32) (_ : Unit) => a = r) (fun (_ : Unit) (t : State) => va_P (dC, dI) tqCl [] t.heap ∧ va_K (dC, dI) tqCl [] t ∧ va_D (A) []) (A)) ([.int size, .int scale, .long significand, .int more] : List Value).toArray s 0 0 A) (F0 m 175 ls [.int t0]) := by
    try clear hf
    intro ls H locs v13 v16 t0 hf hl hP hD hS
    unfold f_positivePattern_b175 at hf
    refine lv_istore (lv' := [(17, .int t0), (13, .int v13), (16, .int v16)]) hx hb dX2_positivePattern_175 hl (by decide) rfl (fun ls hl => ?_)
    refine lv_iload hx hb dX2_positivePattern_177 (lv_at hl 2 rfl) ?_
    refine lv_if_eq hx hb dX2_positivePattern_179 rfl (fun h14 => ?_) (fun h14 => ?_)
    · rw [if_pos h14] at hf
      refine lv_iconst (v := 0) hx hb dX2_positivePattern_199 (by decide) ?_
      exact B200 ls _ _ v13 (0 : Int32) hf (lv_sub hl [1] rfl) hP hD hS
    · rw [if_neg h14] at hf
      refine lv_iload hx hb dX2_positivePattern_182 (lv_at hl 0 rfl) ?_
      refine lv_if_ne hx hb dX2_positivePattern_184 rfl (fun h16 => ?_) (fun h16 => ?_)
      · rw [if_pos h16] at hf
        refine lv_iconst (v := 1) hx hb dX2_positivePattern_195 (by decide) ?_
        refine lv_goto hx hb dX2_positivePattern_196 rfl ?_
        exact B200 ls _ _ v13 (1 : Int32) hf (lv_sub hl [1] rfl) hP hD hS
      · rw [if_neg (fun q : ¬ t0 = 0 => q h16)] at hf
        refine lv_iload hx hb dX2_positivePattern_187 (lv_at hl 1 rfl) ?_
        refine lv_iconst (v := 1) hx hb dX2_positivePattern_189 (by decide) ?_
        refine lv_iand hx hb dX2_positivePattern_190 ?_
        refine lv_iconst (v := 1) hx hb dX2_positivePattern_191 (by decide) ?_
        refine lv_icmp_ne hx hb dX2_positivePattern_192 rfl (fun h17 => ?_) (fun h17 => ?_)
        · rw [if_pos h17] at hf
          refine lv_iconst (v := 0) hx hb dX2_positivePattern_199 (by decide) ?_
          exact B200 ls _ _ v13 (0 : Int32) hf (lv_sub hl [1] rfl) hP hD hS
        · rw [if_neg (fun q : ¬ (v13 &&& (1 : Int32)) = (1 : Int32) => q h17)] at hf
          refine lv_iconst (v := 1) hx hb dX2_positivePattern_195 (by decide) ?_
          refine lv_goto hx hb dX2_positivePattern_196 rfl ?_
          exact B200 ls _ _ v13 (1 : Int32) hf (lv_sub hl [1] rfl) hP hD hS
  have B154 : ∀ (ls : Array Slot) (H : Heap) (locs : List Loc) (v11 : Int32) (v13 : Int32) (v14 : Int64) (t0 : Int32), f_positivePattern_b154 v11 v13 v14 t0 = r → lv_has ls 19 [(11, .int v11), (13, .int v13), (14, .long v14)] → va_P (dC, dI) tqCl [] H → va_D A [] → va_S A s.heap H locs → W p l e ({ frames := 0, cells := 0, slots := 0, locals := 0 }) s m ([.int size, .int scale, .long significand, .int more] : List Value).toArray below meth c H locs 0 0 (MQ below (va_Qi (fun (a : Int32) (_ : Unit) => a = r) (fun (_ : Unit) (t : State) => va_P (dC, dI) tqCl [] t.heap ∧ va_K (dC, dI) tqCl [] t ∧ va_D (A) []) (A)) ([.int size, .int scale, .long significand, .int more] : List Value).toArray s 0 0 A) (F0 m 154 ls [.int t0]) := by
    try clear hf
    intro ls H locs v11 v13 v14 t0 hf hl hP hD hS
    unfold f_positivePattern_b154 at hf
    refine lv_istore (lv' := [(16, .int t0), (11, .int v11), (13, .int v13), (14, .long v14)]) hx hb dX2_positivePattern_154 hl (by decide) rfl (fun ls hl => ?_)
    refine lv_lload hx hb dX2_positivePattern_156 (lv_at hl 3 rfl) ?_
    refine lv_iconst (v := 1) hx hb dX2_positivePattern_158 (by decide) ?_
    refine lv_lshl hx hb dX2_positivePattern_159 rfl ?_
    refine lv_lconst (v := 0) hx hb dX2_positivePattern_160 (by decide) ?_
    refine W.lcmp hx hb dX2_positivePattern_161 ?_
    refine lv_if_ne hx hb dX2_positivePattern_162 rfl (fun h13 => ?_) (fun h13 => ?_)
    · rw [if_pos h13] at hf
      refine lv_iconst (v := 1) hx hb dX2_positivePattern_170 (by decide) ?_
      refine lv_goto hx hb dX2_positivePattern_171 rfl ?_
      exact B175 ls _ _ v13 t0 (1 : Int32) hf (lv_sub hl [2, 0] rfl) hP hD hS
    · rw [if_neg (fun q : ¬ (lg_cmp (v14 <<< ((1 : Int32).toInt64 &&& 63)) (0 : Int64)) = 0 => q h13)] at hf
      refine lv_iload hx hb dX2_positivePattern_165 (lv_at hl 1 rfl) ?_
      refine lv_if_eq hx hb dX2_positivePattern_167 rfl (fun h18 => ?_) (fun h18 => ?_)
      · rw [if_pos h18] at hf
        refine lv_iconst (v := 0) hx hb dX2_positivePattern_174 (by decide) ?_
        exact B175 ls _ _ v13 t0 (0 : Int32) hf (lv_sub hl [2, 0] rfl) hP hD hS
      · rw [if_neg h18] at hf
        refine lv_iconst (v := 1) hx hb dX2_positivePattern_170 (by decide) ?_
        refine lv_goto hx hb dX2_positivePattern_171 rfl ?_
        exact B175 ls _ _ v13 t0 (1 : Int32) hf (lv_sub hl [2, 0] rfl) hP hD hS
  have B106 : ∀ (ls : Array Slot) (H : Heap) (locs : List Loc) (v7 : Int32) (v8 : Int32) (v9 : Int64) (t0 : Int32), f_positivePattern_b106 size v7 v8 v9 t0 = r → lv_has ls 19 [(0, .int size), (7, .int v7), (8, .int v8), (9, .long v9)] → va_P (dC, dI) tqCl [] H → va_D A [] → va_S A s.heap H locs → W p l e ({ frames := 0, cells := 0, slots := 0, locals := 0 }) s m ([.int size, .int scale, .long significand, .int more] : List Value).toArray below meth c H locs 0 0 (MQ below (va_Qi (fun (a : Int32) (_ : Unit) => a = r) (fun (_ : Unit) (t : State) => va_P (dC, dI) tqCl [] t.heap ∧ va_K (dC, dI) tqCl [] t ∧ va_D (A) []) (A)) ([.int size, .int scale, .long significand, .int more] : List Value).toArray s 0 0 A) (F0 m 106 ls [.int t0]) := by
    try clear hf
    intro ls H locs v7 v8 v9 t0 hf hl hP hD hS
    unfold f_positivePattern_b106 at hf
    refine lv_istore (lv' := [(11, .int t0), (0, .int size), (7, .int v7), (8, .int v8), (9, .long v9)]) hx hb dX2_positivePattern_106 hl (by decide) rfl (fun ls hl => ?_)
    refine lv_iload_n hx hb dX2_positivePattern_108 rfl (lv_at hl 1 rfl) ?_
    refine lv_iconst (v := 1) hx hb dX2_positivePattern_109 (by decide) ?_
    refine lv_isub hx hb dX2_positivePattern_110 ?_
    refine lv_iload hx hb dX2_positivePattern_111 (lv_at hl 2 rfl) ?_
    refine lv_isub hx hb dX2_positivePattern_113 ?_
    refine lv_topi (fun x9 e9 => ?_)
    have hf := tq_nm_at e9 hf
    refine lv_istore (lv' := [(12, .int x9), (11, .int t0), (0, .int size), (7, .int v7), (8, .int v8), (9, .long v9)]) hx hb dX2_positivePattern_114 hl (by decide) rfl (fun ls hl => ?_)
    refine lv_iload hx hb dX2_positivePattern_116 (lv_at hl 4 rfl) ?_
    refine lv_iload hx hb dX2_positivePattern_118 (lv_at hl 0 rfl) ?_
    refine lv_ishl hx hb dX2_positivePattern_120 ?_
    refine lv_lload hx hb dX2_positivePattern_121 (lv_at hl 5 rfl) ?_
    refine lv_iconst (v := 1) hx hb dX2_positivePattern_123 (by decide) ?_
    refine lv_lushr hx hb dX2_positivePattern_124 rfl ?_
    refine lv_bipush (v := 63) hx hb dX2_positivePattern_125 (by decide) ?_
    refine lv_iload hx hb dX2_positivePattern_127 (lv_at hl 0 rfl) ?_
    refine lv_isub hx hb dX2_positivePattern_129 ?_
    refine lv_lushr hx hb dX2_positivePattern_130 rfl ?_
    refine lv_l2i hx hb dX2_positivePattern_131 rfl ?_
    refine lv_ior hx hb dX2_positivePattern_132 ?_
    refine lv_topi (fun x10 e10 => ?_)
    have hf := tq_nm_at e10 hf
    refine lv_istore (lv' := [(13, .int x10), (12, .int x9), (11, .int t0), (0, .int size), (7, .int v7), (8, .int v8), (9, .long v9)]) hx hb dX2_positivePattern_133 hl (by decide) rfl (fun ls hl => ?_)
    refine lv_lload hx hb dX2_positivePattern_135 (lv_at hl 6 rfl) ?_
    refine lv_iload hx hb dX2_positivePattern_137 (lv_at hl 1 rfl) ?_
    refine lv_lshl hx hb dX2_positivePattern_139 rfl ?_
    refine lv_topl (fun x11 e11 => ?_)
    have hf := tq_nm_at e11 hf
    refine lv_lstore (lv' := [(14, .long x11), (13, .int x10), (12, .int x9), (11, .int t0), (0, .int size), (7, .int v7), (8, .int v8), (9, .long v9)]) hx hb dX2_positivePattern_140 hl (by decide) rfl (fun ls hl => ?_)
    refine lv_lload hx hb dX2_positivePattern_142 (lv_at hl 0 rfl) ?_
    refine lv_lconst (v := 0) hx hb dX2_positivePattern_144 (by decide) ?_
    refine W.lcmp hx hb dX2_positivePattern_145 ?_
    refine lv_if_ge hx hb dX2_positivePattern_146 rfl (fun h12 => ?_) (fun h12 => ?_)
    · rw [if_pos h12] at hf
      refine lv_iconst (v := 0) hx hb dX2_positivePattern_153 (by decide) ?_
      exact B154 ls _ _ t0 x10 x11 (0 : Int32) hf (lv_sub hl [3, 1, 0] rfl) hP hD hS
    · rw [if_neg h12] at hf
      refine lv_iconst (v := 1) hx hb dX2_positivePattern_149 (by decide) ?_
      refine lv_goto hx hb dX2_positivePattern_150 rfl ?_
      exact B154 ls _ _ t0 x10 x11 (1 : Int32) hf (lv_sub hl [3, 1, 0] rfl) hP hD hS
  have B69 : ∀ (ls : Array Slot) (H : Heap) (locs : List Loc) (v7 : Int32) (t0 : Int32), f_positivePattern_b69 size scale significand more v7 t0 = r → lv_has ls 19 [(0, .int size), (1, .int scale), (2, .long significand), (4, .int more), (7, .int v7)] → va_P (dC, dI) tqCl [] H → va_D A [] → va_S A s.heap H locs → W p l e ({ frames := 0, cells := 0, slots := 0, locals := 0 }) s m ([.int size, .int scale, .long significand, .int more] : List Value).toArray below meth c H locs 0 0 (MQ below (va_Qi (fun (a : Int32) (_ : Unit) => a = r) (fun (_ : Unit) (t : State) => va_P (dC, dI) tqCl [] t.heap ∧ va_K (dC, dI) tqCl [] t ∧ va_D (A) []) (A)) ([.int size, .int scale, .long significand, .int more] : List Value).toArray s 0 0 A) (F0 m 69 ls [.int t0]) := by
    try clear hf
    intro ls H locs v7 t0 hf hl hP hD hS
    unfold f_positivePattern_b69 at hf
    refine lv_istore (lv' := [(8, .int t0), (0, .int size), (1, .int scale), (2, .long significand), (4, .int more), (7, .int v7)]) hx hb dX2_positivePattern_69 hl (by decide) rfl (fun ls hl => ?_)
    refine lv_iload_n hx hb dX2_positivePattern_71 rfl (lv_at hl 2 rfl) ?_
    refine lv_iconst (v := 3) hx hb dX2_positivePattern_72 (by decide) ?_
    refine lv_iand hx hb dX2_positivePattern_73 ?_
    refine lv_i2l hx hb dX2_positivePattern_74 rfl ?_
    refine lv_bipush (v := 62) hx hb dX2_positivePattern_75 (by decide) ?_
    refine lv_lshl hx hb dX2_positivePattern_77 rfl ?_
    refine lv_lload_n hx hb dX2_positivePattern_78 rfl (lv_at hl 3 rfl) ?_
    refine lv_ldc2 (v := 9223372036854775807) hx hb hown (hww _ tqt_233) dX2_positivePattern_79 ?_
    refine lv_land hx hb dX2_positivePattern_82 ?_
    refine lv_iconst (v := 1) hx hb dX2_positivePattern_83 (by decide) ?_
    refine lv_lushr hx hb dX2_positivePattern_84 rfl ?_
    refine lv_lor hx hb dX2_positivePattern_85 ?_
    refine lv_topl (fun x7 e7 => ?_)
    have hf := tq_nm_at e7 hf
    refine lv_lstore (lv' := [(9, .long x7), (8, .int t0), (0, .int size), (1, .int scale), (2, .long significand), (4, .int more), (7, .int v7)]) hx hb dX2_positivePattern_86 hl (by decide) rfl (fun ls hl => ?_)
    refine lv_iload hx hb dX2_positivePattern_88 (lv_at hl 5 rfl) ?_
    refine lv_if_ne hx hb dX2_positivePattern_90 rfl (fun h8 => ?_) (fun h8 => ?_)
    · rw [if_pos h8] at hf
      refine lv_iconst (v := 1) hx hb dX2_positivePattern_101 (by decide) ?_
      refine lv_goto hx hb dX2_positivePattern_102 rfl ?_
      exact B106 ls _ _ v7 t0 x7 (1 : Int32) hf (lv_sub hl [2, 6, 1, 0] rfl) hP hD hS
    · rw [if_neg (fun q : ¬ more = 0 => q h8)] at hf
      refine lv_lload_n hx hb dX2_positivePattern_93 rfl (lv_at hl 4 rfl) ?_
      refine lv_lconst (v := 1) hx hb dX2_positivePattern_94 (by decide) ?_
      refine lv_land hx hb dX2_positivePattern_95 ?_
      refine lv_lconst (v := 0) hx hb dX2_positivePattern_96 (by decide) ?_
      refine W.lcmp hx hb dX2_positivePattern_97 ?_
      refine lv_if_eq hx hb dX2_positivePattern_98 rfl (fun h19 => ?_) (fun h19 => ?_)
      · rw [if_pos h19] at hf
        refine lv_iconst (v := 0) hx hb dX2_positivePattern_105 (by decide) ?_
        exact B106 ls _ _ v7 t0 x7 (0 : Int32) hf (lv_sub hl [2, 6, 1, 0] rfl) hP hD hS
      · rw [if_neg h19] at hf
        refine lv_iconst (v := 1) hx hb dX2_positivePattern_101 (by decide) ?_
        refine lv_goto hx hb dX2_positivePattern_102 rfl ?_
        exact B106 ls _ _ v7 t0 x7 (1 : Int32) hf (lv_sub hl [2, 6, 1, 0] rfl) hP hD hS
  have B52 : ∀ (ls : Array Slot) (H : Heap) (locs : List Loc) (v6 : Int32) (t0 : Int32), f_positivePattern_b52 size scale significand more v6 t0 = r → lv_has ls 19 [(0, .int size), (1, .int scale), (2, .long significand), (4, .int more), (6, .int v6)] → va_P (dC, dI) tqCl [] H → va_D A [] → va_S A s.heap H locs → W p l e ({ frames := 0, cells := 0, slots := 0, locals := 0 }) s m ([.int size, .int scale, .long significand, .int more] : List Value).toArray below meth c H locs 0 0 (MQ below (va_Qi (fun (a : Int32) (_ : Unit) => a = r) (fun (_ : Unit) (t : State) => va_P (dC, dI) tqCl [] t.heap ∧ va_K (dC, dI) tqCl [] t ∧ va_D (A) []) (A)) ([.int size, .int scale, .long significand, .int more] : List Value).toArray s 0 0 A) (F0 m 52 ls [.int t0]) := by
    try clear hf
    intro ls H locs v6 t0 hf hl hP hD hS
    unfold f_positivePattern_b52 at hf
    refine lv_istore (lv' := [(7, .int t0), (0, .int size), (1, .int scale), (2, .long significand), (4, .int more), (6, .int v6)]) hx hb dX2_positivePattern_52 hl (by decide) rfl (fun ls hl => ?_)
    refine lv_iload hx hb dX2_positivePattern_54 (lv_at hl 5 rfl) ?_
    refine lv_if_lt hx hb dX2_positivePattern_56 rfl (fun h6 => ?_) (fun h6 => ?_)
    · rw [if_pos h6] at hf
      refine lv_iconst (v := 1) hx hb dX2_positivePattern_68 (by decide) ?_
      exact B69 ls _ _ t0 (1 : Int32) hf (lv_sub hl [1, 2, 3, 4, 0] rfl) hP hD hS
    · rw [if_neg h6] at hf
      refine lv_iconst (v := 1) hx hb dX2_positivePattern_59 (by decide) ?_
      refine lv_iload hx hb dX2_positivePattern_60 (lv_at hl 0 rfl) ?_
      refine lv_ishl hx hb dX2_positivePattern_62 ?_
      refine lv_iconst (v := 2) hx hb dX2_positivePattern_63 (by decide) ?_
      refine lv_isub hx hb dX2_positivePattern_64 ?_
      refine lv_goto hx hb dX2_positivePattern_65 rfl ?_
      exact B69 ls _ _ t0 (((1 : Int32) <<< (t0 &&& 31)) - (2 : Int32)) hf (lv_sub hl [1, 2, 3, 4, 0] rfl) hP hD hS
  unfold f_positivePattern at hf
  refine lv_iconst (v := 4) hx hb dX2_positivePattern_0 (by decide) ?_
  refine lv_iload_n hx hb dX2_positivePattern_1 rfl (lv_at hl 0 rfl) ?_
  refine lv_imul hx hb dX2_positivePattern_2 ?_
  refine lv_bipush (v := 8) hx hb dX2_positivePattern_3 (by decide) ?_
  refine lv_isub hx hb dX2_positivePattern_5 ?_
  refine lv_topi (fun x1 e1 => ?_)
  have hf := tq_nm_at e1 hf
  refine lv_istore (lv' := [(5, .int x1), (0, .int size), (1, .int scale), (2, .long significand), (4, .int more)]) hx hb dX2_positivePattern_6 hl (by decide) rfl (fun ls hl => ?_)
  refine lv_iload_n hx hb dX2_positivePattern_8 rfl (lv_at hl 2 rfl) ?_
  refine lv_iload hx hb dX2_positivePattern_9 (lv_at hl 0 rfl) ?_
  refine lv_icmp_lt hx hb dX2_positivePattern_11 rfl (fun h2 => ?_) (fun h2 => ?_)
  · rw [if_pos h2] at hf
    refine lv_iload_n hx hb dX2_positivePattern_22 rfl (lv_at hl 2 rfl) ?_
    refine lv_iload hx hb dX2_positivePattern_23 (lv_at hl 0 rfl) ?_
    refine lv_ineg hx hb dX2_positivePattern_25 ?_
    refine lv_icmp_ge hx hb dX2_positivePattern_26 rfl (fun h3 => ?_) (fun h3 => ?_)
    · rw [if_pos h3] at hf
      refine lv_iload_n hx hb dX2_positivePattern_31 rfl (lv_at hl 2 rfl) ?_
      refine lv_iconst (v := 2) hx hb dX2_positivePattern_32 (by decide) ?_
      refine lv_ishr hx hb dX2_positivePattern_33 ?_
      refine lv_topi (fun x4 e4 => ?_)
      have hf := tq_nm_at e4 hf
      refine lv_istore (lv' := [(6, .int x4), (5, .int x1), (0, .int size), (1, .int scale), (2, .long significand), (4, .int more)]) hx hb dX2_positivePattern_34 hl (by decide) rfl (fun ls hl => ?_)
      refine lv_iload hx hb dX2_positivePattern_36 (lv_at hl 0 rfl) ?_
      refine lv_if_lt hx hb dX2_positivePattern_38 rfl (fun h5 => ?_) (fun h5 => ?_)
      · rw [if_pos h5] at hf
        refine lv_iconst (v := 1) hx hb dX2_positivePattern_48 (by decide) ?_
        refine lv_iload hx hb dX2_positivePattern_49 (lv_at hl 0 rfl) ?_
        refine lv_isub hx hb dX2_positivePattern_51 ?_
        exact B52 ls _ _ x4 ((1 : Int32) - x4) hf (lv_sub hl [2, 3, 4, 5, 0] rfl) hP hD hS
      · rw [if_neg h5] at hf
        refine lv_iload hx hb dX2_positivePattern_41 (lv_at hl 0 rfl) ?_
        refine lv_iconst (v := 2) hx hb dX2_positivePattern_43 (by decide) ?_
        refine lv_iadd hx hb dX2_positivePattern_44 ?_
        refine lv_goto hx hb dX2_positivePattern_45 rfl ?_
        exact B52 ls _ _ x4 (x4 + (2 : Int32)) hf (lv_sub hl [2, 3, 4, 5, 0] rfl) hP hD hS
    · rw [if_neg h3] at hf
      refine lv_iconst (v := 1) hx hb dX2_positivePattern_29 (by decide) ?_
      subst hf
      exact W.iret (v := (1 : Int32)) hx hb hr (fun t ht hW => ⟨⟨(1 : Int32), (), rfl, rfl, by rw [ht]; exact hP, va_K.moved hW.alike hK, hD⟩, hS.F ht⟩) hS.2.2 dX2_positivePattern_30
  · rw [if_neg h2] at hf
    refine lv_iconst (v := 1) hx hb dX2_positivePattern_14 (by decide) ?_
    refine lv_iload_n hx hb dX2_positivePattern_15 rfl (lv_at hl 1 rfl) ?_
    refine lv_iconst (v := 1) hx hb dX2_positivePattern_16 (by decide) ?_
    refine lv_isub hx hb dX2_positivePattern_17 ?_
    refine lv_ishl hx hb dX2_positivePattern_18 ?_
    refine lv_iconst (v := 1) hx hb dX2_positivePattern_19 (by decide) ?_
    refine lv_isub hx hb dX2_positivePattern_20 ?_
    subst hf
    exact W.iret (v := ((1 : Int32) <<< ((size - (1 : Int32)) &&& 31)) - (1 : Int32)) hx hb hr (fun t ht hW => ⟨⟨((1 : Int32) <<< ((size - (1 : Int32)) &&& 31)) - (1 : Int32), (), rfl, rfl, by rw [ht]; exact hP, va_K.moved hW.alike hK, hD⟩, hS.F ht⟩) hS.2.2 dX2_positivePattern_21
set_option maxHeartbeats 4000000 in
set_option maxRecDepth 100000 in
theorem c_f_signedPattern (l : Launch) (dC : Nat → ClassId) (dI : Nat → Nat → Nat) (sz : Nat) (size : Int32) (negative : Int32) (scale : Int32) (significand : Int64) (more : Int32) (r : Int32) (hf : f_signedPattern size negative scale significand more = r) : Met l yX2_signedPattern tqw_X2_signedPattern ({ frames := 1, cells := 0, slots := 0, locals := 38 }) (va_Pc [.int size, .int negative, .int scale, .long significand, .int more] (fun U => U.heap.size = sz ∧ va_P (dC, dI) tqCl [] U.heap ∧ va_K (dC, dI) tqCl [] U ∧ va_D (fun _ => True) [] ∧ tqN U)) (va_Qi (fun (a : Int32) (_ : Unit) => a = r) (fun (_ : Unit) (t : State) => va_P (dC, dI) tqCl [] t.heap ∧ va_K (dC, dI) tqCl [] t ∧ va_D (va_A [] sz) []) (va_A [] sz)) 0 0 (va_A [] sz) := by
  refine Met.ofW (cc := cX2_signedPattern) (maxL := 7) (ret := (some .int)) (by decide) rfl ?_
  intro p e s m args below meth c s₁ B hml hv
  obtain ⟨rfl, hsz, hP, hK, hD0, hN⟩ := hv
  have hx := B.exec
  have hb := B.bytes
  have hr := B.returns
  have hts := atoms_spec (ws := tqw_X2_signedPattern) B.pre
  have hww : ∀ w ∈ tqW, w.before _ s = true := fun w h => hts w (List.mem_cons_of_mem _ h)
  have hown : s.vm.findClass RX2 = some m.cls := findClass_of_methodNamed B.named
  have hlocks := B.notSynchronized
  subst hsz
  have hD := hD0.self (sz := s.heap.size)
  generalize hAe : va_A [] s.heap.size = A at hD ⊢
  have hA : ∀ q : Nat, s.heap.size ≤ q → A q := fun q h => by rw [← hAe]; exact Or.inr h
  have hS : va_S A s.heap s.heap [] := va_S.rf
  have hP : va_P (dC, dI) tqCl [] s.heap := hP
  have hl := lv_entry ([.int size, .int negative, .int scale, .long significand, .int more]) (n := 7) (Nat.le_of_ble_eq_true rfl)
  rw [lg_entry_eq]
  generalize (lg_sl ([.int size, .int negative, .int scale, .long significand, .int more]) ++ List.replicate (7 - (lg_sl ([.int size, .int negative, .int scale, .long significand, .int more])).length) Slot.unset).toArray = ls at hl ⊢
  have hl : lv_has ls 7 [(0, .int size), (1, .int negative), (2, .int scale), (3, .long significand), (5, .int more)] := hl
  unfold f_signedPattern at hf
  refine lv_iload_n hx hb dX2_signedPattern_0 rfl (lv_at hl 0 rfl) ?_
  refine lv_iload_n hx hb dX2_signedPattern_1 rfl (lv_at hl 2 rfl) ?_
  refine lv_lload_n hx hb dX2_signedPattern_2 rfl (lv_at hl 3 rfl) ?_
  refine lv_iload hx hb dX2_signedPattern_3 (lv_at hl 4 rfl) ?_
  have hPc := hP.sub (ws' := []) [] rfl
  have hDc := hD.sub (ws' := []) [] (by decide) rfl
  have hKc := hK.sub (tys' := []) [] rfl
  have hFc := va_free (wc := []) hD hS hA [] rfl
  refine va_calli (va_runS (As := [.int size, .int scale, .long significand, .int more]) (rest := []) ⟨hx, hb, hml, hown, hww⟩ (c_f_positivePattern l dC dI s.heap.size size scale significand more (f_positivePattern size scale significand more) rfl) (va_cwS 4 hww (tq_gS tqt_230 tqt_231 tqt_32 tqt_232) rfl rfl rfl (by decide +kernel) ⟨Nat.le_of_ble_eq_true rfl, Nat.le_of_ble_eq_true rfl⟩) ⟨fun a U g mk q => by obtain ⟨q0, q1, qP, qK, qD, qN⟩ := q; exact ⟨q0, q1, qP, va_K.moved (u := U) (U := U.calling g mk a) (Vm.Alike.refl U.vm) qK, qD, tqN_same (u := U) (U := U.calling g mk a) rfl qN⟩, fun U hU hW => ⟨rfl, by rw [hU], by rw [hU]; exact hPc, va_K.moved hW.alike hKc, hDc.weaken (fun _ _ _ _ => trivial), tqN_warm hW hN⟩⟩ rfl rfl hl.1 rfl (lv_room (Nat.le_of_ble_eq_true rfl)) dX2_signedPattern_5 ⟨Nat.zero_le _, Nat.zero_le _⟩) hS (fun q _ h => hFc q h) hFc (fun ra u0 t H1 locs ht hvm hpost hB hz1 hk1 hS => ?_)
  have hpost : (f_positivePattern size scale significand more) = ra := (show ra = (f_positivePattern size scale significand more) from hpost).symm
  subst hpost
  obtain ⟨hP1, hK1, hD1⟩ := hB
  rw [ht] at hP1
  obtain ⟨hP, hD⟩ := va_join (wr := []) (w1 := []) hP hD [] [] rfl rfl (by decide) (by decide) hk1 hFc hP1 hD1
  generalize H1 = H at hP hS ⊢
  have hP := hP.sub (ws' := []) [] rfl
  have hD := hD.sub (ws' := []) [] (by decide) rfl
  refine lv_topi (fun x2 e2 => ?_)
  have hf := tq_nm_at e2 hf
  refine lv_istore (lv' := [(6, .int x2), (0, .int size), (1, .int negative), (2, .int scale), (3, .long significand), (5, .int more)]) hx hb dX2_signedPattern_8 hl (by decide) rfl (fun ls hl => ?_)
  refine lv_iload_n hx hb dX2_signedPattern_10 rfl (lv_at hl 2 rfl) ?_
  refine lv_if_eq hx hb dX2_signedPattern_11 rfl (fun h3 => ?_) (fun h3 => ?_)
  · rw [if_pos h3] at hf
    refine lv_iload hx hb dX2_signedPattern_20 (lv_at hl 0 rfl) ?_
    subst hf
    exact W.iret (v := x2) hx hb hr (fun t ht hW => ⟨⟨x2, (), rfl, rfl, by rw [ht]; exact hP, va_K.moved hW.alike hK, hD⟩, hS.F ht⟩) hS.2.2 dX2_signedPattern_22
  · rw [if_neg h3] at hf
    refine lv_iload hx hb dX2_signedPattern_14 (lv_at hl 0 rfl) ?_
    refine lv_ineg hx hb dX2_signedPattern_16 ?_
    refine lv_goto hx hb dX2_signedPattern_17 rfl ?_
    subst hf
    exact W.iret (v := -x2) hx hb hr (fun t ht hW => ⟨⟨-x2, (), rfl, rfl, by rw [ht]; exact hP, va_K.moved hW.alike hK, hD⟩, hS.F ht⟩) hS.2.2 dX2_signedPattern_22
set_option maxHeartbeats 4000000 in
set_option maxRecDepth 100000 in
theorem c_f_rounded (l : Launch) (dC : Nat → ClassId) (dI : Nat → Nat → Nat) (sz : Nat) (size : Int32) (negative : Int32) (magnitude : Int64) (exponent : Int32) (more : Int32) (r : Int32) (hf : f_rounded size negative magnitude exponent more = r) : Met l yX2_rounded tqw_X2_rounded ({ frames := 2, cells := 0, slots := 0, locals := 64 }) (va_Pc [.int size, .int negative, .long magnitude, .int exponent, .int more] (fun U => U.heap.size = sz ∧ va_P (dC, dI) tqCl [] U.heap ∧ va_K (dC, dI) tqCl [] U ∧ va_D (fun _ => True) [] ∧ tqN U)) (va_Qi (fun (a : Int32) (_ : Unit) => a = r) (fun (_ : Unit) (t : State) => va_P (dC, dI) tqCl [] t.heap ∧ va_K (dC, dI) tqCl [] t ∧ va_D (va_A [] sz) []) (va_A [] sz)) 0 0 (va_A [] sz) := by
  refine Met.ofW (cc := cX2_rounded) (maxL := 7) (ret := (some .int)) (by decide) rfl ?_
  intro p e s m args below meth c s₁ B hml hv
  obtain ⟨rfl, hsz, hP, hK, hD0, hN⟩ := hv
  have hx := B.exec
  have hb := B.bytes
  have hr := B.returns
  have hts := atoms_spec (ws := tqw_X2_rounded) B.pre
  have hww : ∀ w ∈ tqW, w.before _ s = true := fun w h => hts w (List.mem_cons_of_mem _ h)
  have hown : s.vm.findClass RX2 = some m.cls := findClass_of_methodNamed B.named
  have hlocks := B.notSynchronized
  subst hsz
  have hD := hD0.self (sz := s.heap.size)
  generalize hAe : va_A [] s.heap.size = A at hD ⊢
  have hA : ∀ q : Nat, s.heap.size ≤ q → A q := fun q h => by rw [← hAe]; exact Or.inr h
  have hS : va_S A s.heap s.heap [] := va_S.rf
  have hP : va_P (dC, dI) tqCl [] s.heap := hP
  have hl := lv_entry ([.int size, .int negative, .long magnitude, .int exponent, .int more]) (n := 7) (Nat.le_of_ble_eq_true rfl)
  rw [lg_entry_eq]
  generalize (lg_sl ([.int size, .int negative, .long magnitude, .int exponent, .int more]) ++ List.replicate (7 - (lg_sl ([.int size, .int negative, .long magnitude, .int exponent, .int more])).length) Slot.unset).toArray = ls at hl ⊢
  have hl : lv_has ls 7 [(0, .int size), (1, .int negative), (2, .long magnitude), (4, .int exponent), (5, .int more)] := hl
  unfold f_rounded at hf
  refine lv_lload_n hx hb dX2_rounded_0 rfl (lv_at hl 2 rfl) ?_
  refine lv_lconst (v := 0) hx hb dX2_rounded_1 (by decide) ?_
  refine W.lcmp hx hb dX2_rounded_2 ?_
  refine lv_if_ne hx hb dX2_rounded_3 rfl (fun h1 => ?_) (fun h1 => ?_)
  · rw [if_pos h1] at hf
    refine lv_lload_n hx hb dX2_rounded_8 rfl (lv_at hl 2 rfl) ?_
    have hPc := hP.sub (ws' := []) [] rfl
    have hDc := hD.sub (ws' := []) [] (by decide) rfl
    have hKc := hK.sub (tys' := []) [] rfl
    have hFc := va_free (wc := []) hD hS hA [] rfl
    refine va_calli (va_runS (As := [.long magnitude]) (rest := []) ⟨hx, hb, hml, hown, hww⟩ (c_f_lnlz l dC dI s.heap.size magnitude (f_lnlz magnitude) rfl) (va_cwS 1 hww (tq_gS tqt_246 tqt_219 tqt_38 tqt_220) rfl rfl rfl (by decide +kernel) ⟨Nat.le_of_ble_eq_true rfl, Nat.le_of_ble_eq_true rfl⟩) ⟨fun a U g mk q => by obtain ⟨q0, q1, qP, qK, qD, qN⟩ := q; exact ⟨q0, q1, qP, va_K.moved (u := U) (U := U.calling g mk a) (Vm.Alike.refl U.vm) qK, qD, tqN_same (u := U) (U := U.calling g mk a) rfl qN⟩, fun U hU hW => ⟨rfl, by rw [hU], by rw [hU]; exact hPc, va_K.moved hW.alike hKc, hDc.weaken (fun _ _ _ _ => trivial), tqN_warm hW hN⟩⟩ rfl rfl hl.1 rfl (lv_room (Nat.le_of_ble_eq_true rfl)) dX2_rounded_9 ⟨Nat.zero_le _, Nat.zero_le _⟩) hS (fun q _ h => hFc q h) hFc (fun ra u0 t H1 locs ht hvm hpost hB hz1 hk1 hS => ?_)
    have hpost : (f_lnlz magnitude) = ra := (show ra = (f_lnlz magnitude) from hpost).symm
    subst hpost
    obtain ⟨hP1, hK1, hD1⟩ := hB
    rw [ht] at hP1
    obtain ⟨hP, hD⟩ := va_join (wr := []) (w1 := []) hP hD [] [] rfl rfl (by decide) (by decide) hk1 hFc hP1 hD1
    generalize H1 = H at hP hS ⊢
    have hP := hP.sub (ws' := []) [] rfl
    have hD := hD.sub (ws' := []) [] (by decide) rfl
    refine lv_topi (fun x3 e3 => ?_)
    have hf := tq_nm_at e3 hf
    refine lv_istore (lv' := [(6, .int x3), (0, .int size), (1, .int negative), (2, .long magnitude), (4, .int exponent), (5, .int more)]) hx hb dX2_rounded_12 hl (by decide) rfl (fun ls hl => ?_)
    refine lv_iload_n hx hb dX2_rounded_14 rfl (lv_at hl 1 rfl) ?_
    refine lv_iload_n hx hb dX2_rounded_15 rfl (lv_at hl 2 rfl) ?_
    refine lv_iload hx hb dX2_rounded_16 (lv_at hl 4 rfl) ?_
    refine lv_bipush (v := 63) hx hb dX2_rounded_18 (by decide) ?_
    refine lv_iadd hx hb dX2_rounded_20 ?_
    refine lv_iload hx hb dX2_rounded_21 (lv_at hl 0 rfl) ?_
    refine lv_isub hx hb dX2_rounded_23 ?_
    refine lv_lload_n hx hb dX2_rounded_24 rfl (lv_at hl 3 rfl) ?_
    refine lv_iload hx hb dX2_rounded_25 (lv_at hl 0 rfl) ?_
    refine lv_lshl hx hb dX2_rounded_27 rfl ?_
    refine lv_iload hx hb dX2_rounded_28 (lv_at hl 5 rfl) ?_
    have hPc := hP.sub (ws' := []) [] rfl
    have hDc := hD.sub (ws' := []) [] (by decide) rfl
    have hKc := hK.sub (tys' := []) [] rfl
    have hFc := va_free (wc := []) hD hS hA [] rfl
    refine va_calli (va_runS (As := [.int size, .int negative, .int ((exponent + (63 : Int32)) - x3), .long (magnitude <<< (x3.toInt64 &&& 63)), .int more]) (rest := []) ⟨hx, hb, hml, hown, hww⟩ (c_f_signedPattern l dC dI H.size size negative ((exponent + (63 : Int32)) - x3) (magnitude <<< (x3.toInt64 &&& 63)) more (f_signedPattern size negative ((exponent + (63 : Int32)) - x3) (magnitude <<< (x3.toInt64 &&& 63)) more) rfl) (va_cwS 5 hww (tq_gS tqt_227 tqt_228 tqt_32 tqt_229) rfl rfl rfl (by decide +kernel) ⟨Nat.le_of_ble_eq_true rfl, Nat.le_of_ble_eq_true rfl⟩) ⟨fun a U g mk q => by obtain ⟨q0, q1, qP, qK, qD, qN⟩ := q; exact ⟨q0, q1, qP, va_K.moved (u := U) (U := U.calling g mk a) (Vm.Alike.refl U.vm) qK, qD, tqN_same (u := U) (U := U.calling g mk a) rfl qN⟩, fun U hU hW => ⟨rfl, by rw [hU], by rw [hU]; exact hPc, va_K.moved hW.alike hKc, hDc.weaken (fun _ _ _ _ => trivial), tqN_warm hW hN⟩⟩ rfl rfl hl.1 rfl (lv_room (Nat.le_of_ble_eq_true rfl)) dX2_rounded_30 ⟨Nat.zero_le _, Nat.zero_le _⟩) hS (fun q _ h => hFc q h) hFc (fun ra u0 t H1 locs ht hvm hpost hB hz1 hk1 hS => ?_)
    have hpost : (f_signedPattern size negative ((exponent + (63 : Int32)) - x3) (magnitude <<< (x3.toInt64 &&& 63)) more) = ra := (show ra = (f_signedPattern size negative ((exponent + (63 : Int32)) - x3) (magnitude <<< (x3.toInt64 &&& 63)) more) from hpost).symm
    subst hpost
    obtain ⟨hP1, hK1, hD1⟩ := hB
    rw [ht] at hP1
    obtain ⟨hP, hD⟩ := va_join (wr := []) (w1 := []) hP hD [] [] rfl rfl (by decide) (by decide) hk1 hFc hP1 hD1
    generalize H1 = H at hP hS ⊢
    have hP := hP.sub (ws' := []) [] rfl
    have hD := hD.sub (ws' := []) [] (by decide) rfl
    subst hf
    exact W.iret (v := f_signedPattern size negative ((exponent + (63 : Int32)) - x3) (magnitude <<< (x3.toInt64 &&& 63)) more) hx hb hr (fun t ht hW => ⟨⟨f_signedPattern size negative ((exponent + (63 : Int32)) - x3) (magnitude <<< (x3.toInt64 &&& 63)) more, (), rfl, rfl, by rw [ht]; exact hP, va_K.moved hW.alike hK, hD⟩, hS.F ht⟩) hS.2.2 dX2_rounded_33
  · rw [if_neg (fun q : ¬ (lg_cmp magnitude (0 : Int64)) = 0 => q h1)] at hf
    refine lv_iconst (v := 0) hx hb dX2_rounded_6 (by decide) ?_
    subst hf
    exact W.iret (v := (0 : Int32)) hx hb hr (fun t ht hW => ⟨⟨(0 : Int32), (), rfl, rfl, by rw [ht]; exact hP, va_K.moved hW.alike hK, hD⟩, hS.F ht⟩) hS.2.2 dX2_rounded_7
set_option maxHeartbeats 4000000 in
set_option maxRecDepth 100000 in
theorem c_f_nearestWhole (l : Launch) (dC : Nat → ClassId) (dI : Nat → Nat → Nat) (o0 : Nat) (sz : Nat) (nt0 : Int32) (ng0 : Int32) (mg0 : Int64) (ex0 : Int32) (r : Int64) (hf : f_nearestWhole nt0 ng0 mg0 ex0 = r) : Met l yX2_nearestWhole tqw_X2_nearestWhole ({ frames := 0, cells := 0, slots := 0, locals := 0 }) (va_Pc [.ref o0] (fun U => U.heap.size = sz ∧ va_P (dC, dI) tqCl [(o0, .inr (0, [.int nt0, .int ng0, .long mg0, .int ex0]))] U.heap ∧ va_K (dC, dI) tqCl [] U ∧ va_D (fun _ => True) [(o0, .inr (0, [.int nt0, .int ng0, .long mg0, .int ex0]))] ∧ tqN U)) (va_Ql (fun (a : Int64) (_ : Unit) => a = r) (fun (_ : Unit) (t : State) => va_P (dC, dI) tqCl [(o0, .inr (0, [.int nt0, .int ng0, .long mg0, .int ex0]))] t.heap ∧ va_K (dC, dI) tqCl [] t ∧ va_D (va_A [(o0, .inr (0, [.int nt0, .int ng0, .long mg0, .int ex0]))] sz) [(o0, .inr (0, [.int nt0, .int ng0, .long mg0, .int ex0]))]) (va_A [(o0, .inr (0, [.int nt0, .int ng0, .long mg0, .int ex0]))] sz)) 0 0 (va_A [(o0, .inr (0, [.int nt0, .int ng0, .long mg0, .int ex0]))] sz) := by
  refine Met.ofW (cc := cX2_nearestWhole) (maxL := 9) (ret := (some .long)) (by decide) rfl ?_
  intro p e s m args below meth c s₁ B hml hv
  obtain ⟨rfl, hsz, hP, hK, hD0, hN⟩ := hv
  have hx := B.exec
  have hb := B.bytes
  have hr := B.returns
  have hts := atoms_spec (ws := tqw_X2_nearestWhole) B.pre
  have hww : ∀ w ∈ tqW, w.before _ s = true := fun w h => hts w (List.mem_cons_of_mem _ h)
  have hown : s.vm.findClass RX2 = some m.cls := findClass_of_methodNamed B.named
  have hlocks := B.notSynchronized
  subst hsz
  have hD := hD0.self (sz := s.heap.size)
  generalize hAe : va_A [(o0, .inr (0, [.int nt0, .int ng0, .long mg0, .int ex0]))] s.heap.size = A at hD ⊢
  have hA : ∀ q : Nat, s.heap.size ≤ q → A q := fun q h => by rw [← hAe]; exact Or.inr h
  have hS : va_S A s.heap s.heap [] := va_S.rf
  have hP : va_P (dC, dI) tqCl [(o0, .inr (0, [.int nt0, .int ng0, .long mg0, .int ex0]))] s.heap := hP
  have hl := lv_entry ([.ref o0]) (n := 9) (Nat.le_of_ble_eq_true rfl)
  rw [lg_entry_eq]
  generalize (lg_sl ([.ref o0]) ++ List.replicate (9 - (lg_sl ([.ref o0])).length) Slot.unset).toArray = ls at hl ⊢
  have hl : lv_has ls 9 [(0, .ref o0)] := hl
  have B84 : ∀ (ls : Array Slot) (H : Heap) (locs : List Loc) (v2 : Int64) (t0 : Int32), f_nearestWhole_b84 v2 t0 = r → lv_has ls 9 [(2, .long v2)] → va_P (dC, dI) tqCl [(o0, .inr (0, [.int nt0, .int ng0, .long mg0, .int ex0]))] H → va_D A [(o0, .inr (0, [.int nt0, .int ng0, .long mg0, .int ex0]))] → va_S A s.heap H locs → W p l e ({ frames := 0, cells := 0, slots := 0, locals := 0 }) s m ([.ref o0] : List Value).toArray below meth c H locs 0 0 (MQ below (va_Ql (fun (a : Int64) (_ : Unit) => a = r) (fun (_ : Unit) (t : State) => va_P (dC, dI) tqCl [(o0, .inr (0, [.int nt0, .int ng0, .long mg0, .int ex0]))] t.heap ∧ va_K (dC, dI) tqCl [] t ∧ va_D (A) [(o0, .inr (0, [.int nt0, .int ng0, .long mg0, .int ex0]))]) (A)) ([.ref o0] : List Value).toArray s 0 0 A) (F0 m 84 ls [.int t0]) := by
    try clear hf
    intro ls H locs v2 t0 hf hl hP hD hS
    unfold f_nearestWhole_b84 at hf
    refine lv_istore (lv' := [(8, .int t0), (2, .long v2)]) hx hb dX2_nearestWhole_84 hl (by decide) rfl (fun ls hl => ?_)
    refine lv_iload hx hb dX2_nearestWhole_86 (lv_at hl 0 rfl) ?_
    refine lv_if_eq hx hb dX2_nearestWhole_88 rfl (fun h8 => ?_) (fun h8 => ?_)
    · rw [if_pos h8] at hf
      refine lv_lload_n hx hb dX2_nearestWhole_97 rfl (lv_at hl 1 rfl) ?_
      subst hf
      exact W.lret (v := v2) hx hb hr (fun t ht hW => ⟨⟨v2, (), rfl, rfl, by rw [ht]; exact hP, va_K.moved hW.alike hK, hD⟩, hS.F ht⟩) hS.2.2 dX2_nearestWhole_98
    · rw [if_neg h8] at hf
      refine lv_lload_n hx hb dX2_nearestWhole_91 rfl (lv_at hl 1 rfl) ?_
      refine lv_lconst (v := 1) hx hb dX2_nearestWhole_92 (by decide) ?_
      refine lv_ladd hx hb dX2_nearestWhole_93 ?_
      refine lv_goto hx hb dX2_nearestWhole_94 rfl ?_
      subst hf
      exact W.lret (v := v2 + (1 : Int64)) hx hb hr (fun t ht hW => ⟨⟨v2 + (1 : Int64), (), rfl, rfl, by rw [ht]; exact hP, va_K.moved hW.alike hK, hD⟩, hS.F ht⟩) hS.2.2 dX2_nearestWhole_98
  unfold f_nearestWhole at hf
  refine lv_aload_n hx hb dX2_nearestWhole_0 rfl (lv_at hl 0 rfl) ?_
  refine va_get (D := (dC, dI)) (ci := 0) (v := .int ex0) (C := RX0) (T := TX0) (N := 4) hx hb hww tqinX0 hown hK hP 0 rfl rfl 3 (by decide) (hww _ tqt_83) (fun _ h9 => h9) rfl dX2_nearestWhole_1 ?_
  refine lv_if_lt hx hb dX2_nearestWhole_4 rfl (fun h1 => ?_) (fun h1 => ?_)
  · rw [if_pos h1] at hf
    refine lv_aload_n hx hb dX2_nearestWhole_17 rfl (lv_at hl 0 rfl) ?_
    refine va_get (D := (dC, dI)) (ci := 0) (v := .int ex0) (C := RX0) (T := TX0) (N := 4) hx hb hww tqinX0 hown hK hP 0 rfl rfl 3 (by decide) (hww _ tqt_83) (fun _ h9 => h9) rfl dX2_nearestWhole_18 ?_
    refine lv_ineg hx hb dX2_nearestWhole_21 ?_
    refine lv_topi (fun x2 e2 => ?_)
    have hf := tq_nm_at e2 hf
    refine lv_istore_n (lv' := [(1, .int x2), (0, .ref o0)]) hx hb dX2_nearestWhole_22 rfl hl (by decide) rfl (fun ls hl => ?_)
    refine lv_iload_n hx hb dX2_nearestWhole_23 rfl (lv_at hl 0 rfl) ?_
    refine lv_bipush (v := 60) hx hb dX2_nearestWhole_24 (by decide) ?_
    refine lv_icmp_le hx hb dX2_nearestWhole_26 rfl (fun h3 => ?_) (fun h3 => ?_)
    · rw [if_pos h3] at hf
      refine lv_aload_n hx hb dX2_nearestWhole_31 rfl (lv_at hl 1 rfl) ?_
      refine va_get (D := (dC, dI)) (ci := 0) (v := .long mg0) (C := RX0) (T := TX0) (N := 4) hx hb hww tqinX0 hown hK hP 0 rfl rfl 2 (by decide) (hww _ tqt_80) (fun _ h9 => h9) rfl dX2_nearestWhole_32 ?_
      refine lv_iload_n hx hb dX2_nearestWhole_35 rfl (lv_at hl 0 rfl) ?_
      refine lv_lshr hx hb dX2_nearestWhole_36 rfl ?_
      refine lv_topl (fun x4 e4 => ?_)
      have hf := tq_nm_at e4 hf
      refine lv_lstore_n (lv' := [(2, .long x4), (1, .int x2), (0, .ref o0)]) hx hb dX2_nearestWhole_37 rfl hl (by decide) rfl (fun ls hl => ?_)
      refine lv_aload_n hx hb dX2_nearestWhole_38 rfl (lv_at hl 2 rfl) ?_
      refine va_get (D := (dC, dI)) (ci := 0) (v := .long mg0) (C := RX0) (T := TX0) (N := 4) hx hb hww tqinX0 hown hK hP 0 rfl rfl 2 (by decide) (hww _ tqt_80) (fun _ h9 => h9) rfl dX2_nearestWhole_39 ?_
      refine lv_lload_n hx hb dX2_nearestWhole_42 rfl (lv_at hl 0 rfl) ?_
      refine lv_iload_n hx hb dX2_nearestWhole_43 rfl (lv_at hl 1 rfl) ?_
      refine lv_lshl hx hb dX2_nearestWhole_44 rfl ?_
      refine lv_lsub hx hb dX2_nearestWhole_45 ?_
      refine lv_topl (fun x5 e5 => ?_)
      have hf := tq_nm_at e5 hf
      refine lv_lstore (lv' := [(4, .long x5), (2, .long x4), (1, .int x2), (0, .ref o0)]) hx hb dX2_nearestWhole_46 hl (by decide) rfl (fun ls hl => ?_)
      refine lv_lconst (v := 1) hx hb dX2_nearestWhole_48 (by decide) ?_
      refine lv_iload_n hx hb dX2_nearestWhole_49 rfl (lv_at hl 2 rfl) ?_
      refine lv_iconst (v := 1) hx hb dX2_nearestWhole_50 (by decide) ?_
      refine lv_isub hx hb dX2_nearestWhole_51 ?_
      refine lv_lshl hx hb dX2_nearestWhole_52 rfl ?_
      refine lv_topl (fun x6 e6 => ?_)
      have hf := tq_nm_at e6 hf
      refine lv_lstore (lv' := [(6, .long x6), (4, .long x5), (2, .long x4), (1, .int x2), (0, .ref o0)]) hx hb dX2_nearestWhole_53 hl (by decide) rfl (fun ls hl => ?_)
      refine lv_lload hx hb dX2_nearestWhole_55 (lv_at hl 1 rfl) ?_
      refine lv_lload hx hb dX2_nearestWhole_57 (lv_at hl 0 rfl) ?_
      refine W.lcmp hx hb dX2_nearestWhole_59 ?_
      refine lv_if_gt hx hb dX2_nearestWhole_60 rfl (fun h7 => ?_) (fun h7 => ?_)
      · rw [if_pos h7] at hf
        refine lv_iconst (v := 1) hx hb dX2_nearestWhole_79 (by decide) ?_
        refine lv_goto hx hb dX2_nearestWhole_80 rfl ?_
        exact B84 ls _ _ x4 (1 : Int32) hf (lv_sub hl [2] rfl) hP hD hS
      · rw [if_neg h7] at hf
        refine lv_lload hx hb dX2_nearestWhole_63 (lv_at hl 1 rfl) ?_
        refine lv_lload hx hb dX2_nearestWhole_65 (lv_at hl 0 rfl) ?_
        refine W.lcmp hx hb dX2_nearestWhole_67 ?_
        refine lv_if_ne hx hb dX2_nearestWhole_68 rfl (fun h9 => ?_) (fun h9 => ?_)
        · rw [if_pos h9] at hf
          refine lv_iconst (v := 0) hx hb dX2_nearestWhole_83 (by decide) ?_
          exact B84 ls _ _ x4 (0 : Int32) hf (lv_sub hl [2] rfl) hP hD hS
        · rw [if_neg (fun q : ¬ (lg_cmp x5 x6) = 0 => q h9)] at hf
          refine lv_lload_n hx hb dX2_nearestWhole_71 rfl (lv_at hl 2 rfl) ?_
          refine lv_lconst (v := 1) hx hb dX2_nearestWhole_72 (by decide) ?_
          refine lv_land hx hb dX2_nearestWhole_73 ?_
          refine lv_lconst (v := 1) hx hb dX2_nearestWhole_74 (by decide) ?_
          refine W.lcmp hx hb dX2_nearestWhole_75 ?_
          refine lv_if_ne hx hb dX2_nearestWhole_76 rfl (fun h10 => ?_) (fun h10 => ?_)
          · rw [if_pos h10] at hf
            refine lv_iconst (v := 0) hx hb dX2_nearestWhole_83 (by decide) ?_
            exact B84 ls _ _ x4 (0 : Int32) hf (lv_sub hl [2] rfl) hP hD hS
          · rw [if_neg (fun q : ¬ (lg_cmp (x4 &&& (1 : Int64)) (1 : Int64)) = 0 => q h10)] at hf
            refine lv_iconst (v := 1) hx hb dX2_nearestWhole_79 (by decide) ?_
            refine lv_goto hx hb dX2_nearestWhole_80 rfl ?_
            exact B84 ls _ _ x4 (1 : Int32) hf (lv_sub hl [2] rfl) hP hD hS
    · rw [if_neg h3] at hf
      refine lv_lconst (v := 0) hx hb dX2_nearestWhole_29 (by decide) ?_
      subst hf
      exact W.lret (v := (0 : Int64)) hx hb hr (fun t ht hW => ⟨⟨(0 : Int64), (), rfl, rfl, by rw [ht]; exact hP, va_K.moved hW.alike hK, hD⟩, hS.F ht⟩) hS.2.2 dX2_nearestWhole_30
  · rw [if_neg h1] at hf
    refine lv_aload_n hx hb dX2_nearestWhole_7 rfl (lv_at hl 0 rfl) ?_
    refine va_get (D := (dC, dI)) (ci := 0) (v := .long mg0) (C := RX0) (T := TX0) (N := 4) hx hb hww tqinX0 hown hK hP 0 rfl rfl 2 (by decide) (hww _ tqt_80) (fun _ h9 => h9) rfl dX2_nearestWhole_8 ?_
    refine lv_aload_n hx hb dX2_nearestWhole_11 rfl (lv_at hl 0 rfl) ?_
    refine va_get (D := (dC, dI)) (ci := 0) (v := .int ex0) (C := RX0) (T := TX0) (N := 4) hx hb hww tqinX0 hown hK hP 0 rfl rfl 3 (by decide) (hww _ tqt_83) (fun _ h9 => h9) rfl dX2_nearestWhole_12 ?_
    refine lv_lshl hx hb dX2_nearestWhole_15 rfl ?_
    subst hf
    exact W.lret (v := mg0 <<< (ex0.toInt64 &&& 63)) hx hb hr (fun t ht hW => ⟨⟨mg0 <<< (ex0.toInt64 &&& 63), (), rfl, rfl, by rw [ht]; exact hP, va_K.moved hW.alike hK, hD⟩, hS.F ht⟩) hS.2.2 dX2_nearestWhole_16
