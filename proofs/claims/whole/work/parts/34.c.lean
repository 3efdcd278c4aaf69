set_option maxHeartbeats 4000000 in
set_option maxRecDepth 100000 in
theorem c_f_flip (l : Launch) (dC : Nat → ClassId) (dI : Nat → Nat → Nat) (s0 : Nat) (w0 : Nat) (cL : ClassId) (sz : Nat) (p0 : Int32) (N0 : Nat) (f0 : Nat → Int64) (r : (Nat → Int64)) (hf : f_flip N0 f0 = some r) : Met l yX1_flip tqw_X1_flip ({ frames := 0, cells := 0, slots := 0, locals := 0 }) (va_Pc [.ref s0] (fun U => U.heap.size = sz ∧ va_P (dC, dI) tqCl [(s0, .inr (1, [.int p0, .ref w0])), (w0, .inl (cL, N0, .inr (.inl f0)))] U.heap ∧ va_K (dC, dI) tqCl [(cL, .long)] U ∧ va_D (fun _ => True) [(s0, .inr (1, [.int p0, .ref w0])), (w0, .inl (cL, N0, .inr (.inl f0)))] ∧ tqN U)) (va_Qv (fun (_ : Unit) => True) (fun (_ : Unit) (t : State) => va_P (dC, dI) tqCl [(s0, .inr (1, [.int p0, .ref w0])), (w0, .inl (cL, N0, .inr (.inl r)))] t.heap ∧ va_K (dC, dI) tqCl [(cL, .long)] t ∧ va_D (va_A [(s0, .inr (1, [.int p0, .ref w0])), (w0, .inl (cL, N0, .inr (.inl f0)))] sz) [(s0, .inr (1, [.int p0, .ref w0])), (w0, .inl (cL, N0, .inr (.inl r)))]) (va_A [(s0, .inr (1, [.int p0, .ref w0])), (w0, .inl (cL, N0, .inr (.inl f0)))] sz)) 0 0 (va_A [(s0, .inr (1, [.int p0, .ref w0])), (w0, .inl (cL, N0, .inr (.inl f0)))] sz) := by
  refine Met.ofW (cc := cX1_flip) (maxL := 4) (ret := none) (by decide) rfl ?_
  intro p e s m args below meth c s₁ B hml hv
  obtain ⟨rfl, hsz, hP, hK, hD0, hN⟩ := hv
  have hx := B.exec
  have hb := B.bytes
  have hr := B.returns
  have hts := atoms_spec (ws := tqw_X1_flip) B.pre
  have hww : ∀ w ∈ tqW, w.before _ s = true := fun w h => hts w (List.mem_cons_of_mem _ h)
  have hown : s.vm.findClass RX1 = some m.cls := findClass_of_methodNamed B.named
  have hlocks := B.notSynchronized
  subst hsz
  have hD := hD0.self (sz := s.heap.size)
  generalize hAe : va_A [(s0, .inr (1, [.int p0, .ref w0])), (w0, .inl (cL, N0, .inr (.inl f0)))] s.heap.size = A at hD ⊢
  have hA : ∀ q : Nat, s.heap.size ≤ q → A q := fun q h => by rw [← hAe]; exact Or.inr h
  have hS : va_S A s.heap s.heap [] := va_S.rf
  have hP : va_P (dC, dI) tqCl [(s0, .inr (1, [.int p0, .ref w0])), (w0, .inl (cL, N0, .inr (.inl f0)))] s.heap := hP
  have hl := lv_entry ([.ref s0]) (n := 4) (Nat.le_of_ble_eq_true rfl)
  rw [lg_entry_eq]
  generalize (lg_sl ([.ref s0]) ++ List.replicate (4 - (lg_sl ([.ref s0])).length) Slot.unset).toArray = ls at hl ⊢
  have hl : lv_has ls 4 [(0, .ref s0)] := hl
  have B4 : ∀ (n4 : Nat) (ls : Array Slot) (H : Heap) (locs : List Loc) (v1 : Int64) (v3 : Int32) (f0 : Nat → Int64), f_flip_b4 N0 n4 v1 v3 f0 = some r → lv_has ls 4 [(0, .ref s0), (1, .long v1), (3, .int v3)] → va_P (dC, dI) tqCl [(s0, .inr (1, [.int p0, .ref w0])), (w0, .inl (cL, N0, .inr (.inl f0)))] H → va_D A [(s0, .inr (1, [.int p0, .ref w0])), (w0, .inl (cL, N0, .inr (.inl f0)))] → va_S A s.heap H locs → W p l e ({ frames := 0, cells := 0, slots := 0, locals := 0 }) s m ([.ref s0] : List Value).toArray below meth c H locs 0 0 (MQ below (va_Qv (fun (_ : Unit) => True) (fun (_ : Unit) (t : State) => va_P (dC, dI) tqCl [(s0, .inr (1, [.int p0, .ref w0])), (w0, .inl (cL, N0, .inr (.inl r)))] t.heap ∧ va_K (dC, dI) tqCl [(cL, .long)] t ∧ va_D (A) [(s0, .inr (1, [.int p0, .ref w0])), (w0, .inl (cL, N0, .inr (.inl r)))]) (A)) ([.ref s0] : List Value).toArray s 0 0 A) (F0 m 4 ls []) := by
    try clear hf
    intro n4
    induction n4 with
    | zero =>
      intro ls H locs v1 v3 f0 hf hl hP hD hS
      have hf : (none : Option ((Nat → Int64))) = some r := hf
      cases hf
    | succ n4 ih4 =>
      have B53 : ∀ (ls : Array Slot) (H : Heap) (locs : List Loc) (v3 : Int32) (t0 : Int64) (f0 : Nat → Int64), f_flip_b53 (f_flip_b4 N0 n4) v3 t0 f0 = some r → lv_has ls 4 [(0, .ref s0), (3, .int v3)] → va_P (dC, dI) tqCl [(s0, .inr (1, [.int p0, .ref w0])), (w0, .inl (cL, N0, .inr (.inl f0)))] H → va_D A [(s0, .inr (1, [.int p0, .ref w0])), (w0, .inl (cL, N0, .inr (.inl f0)))] → va_S A s.heap H locs → W p l e ({ frames := 0, cells := 0, slots := 0, locals := 0 }) s m ([.ref s0] : List Value).toArray below meth c H locs 0 0 (MQ below (va_Qv (fun (_ : Unit) => True) (fun (_ : Unit) (t : State) => va_P (dC, dI) tqCl [(s0, .inr (1, [.int p0, .ref w0])), (w0, .inl (cL, N0, .inr (.inl r)))] t.heap ∧ va_K (dC, dI) tqCl [(cL, .long)] t ∧ va_D (A) [(s0, .inr (1, [.int p0, .ref w0])), (w0, .inl (cL, N0, .inr (.inl r)))]) (A)) ([.ref s0] : List Value).toArray s 0 0 A) (F0 m 53 ls [.long t0]) := by
        try clear hf
        intro ls H locs v3 t0 f0 hf hl hP hD hS
        unfold f_flip_b53 at hf
        refine lv_lstore_n (lv' := [(1, .long t0), (0, .ref s0), (3, .int v3)]) hx hb dX1_flip_53 rfl hl (by decide) rfl (fun ls hl => ?_)
        refine lv_iinc (v := v3 + (1 : Int32)) (lv' := [(3, .int (v3 + (1 : Int32))), (1, .long t0), (0, .ref s0)]) hx hb dX1_flip_54 hl (k := 2) rfl rfl (by decide) rfl (fun ls hl => ?_)
        refine lv_goto hx hb dX1_flip_57 rfl ?_
        exact ih4 ls _ _ t0 (v3 + (1 : Int32)) f0 hf (lv_sub hl [2, 1, 0] rfl) hP hD hS
      intro ls H locs v1 v3 f0 hf hl hP hD hS
      unfold f_flip_b4 at hf
      refine lv_iload_n hx hb dX1_flip_4 rfl (lv_at hl 2 rfl) ?_
      refine lv_aload_n hx hb dX1_flip_5 rfl (lv_at hl 0 rfl) ?_
      refine va_get (D := (dC, dI)) (ci := 1) (v := .ref w0) (C := RX1) (T := TX1) (N := 2) hx hb hww tqinX1 hown hK hP 0 rfl rfl 1 (by decide) (hww _ tqt_59) (fun _ h9 => h9) rfl dX1_flip_6 ?_
      refine va_alen (v := nI N0) hx hb hK hP 1 0 rfl rfl rfl dX1_flip_9 ?_
      refine lv_icmp_ge hx hb dX1_flip_10 rfl (fun h1 => ?_) (fun h1 => ?_)
      · rw [if_pos h1] at hf
        have hf := Option.some.inj hf
        subst hf
        exact W.vret hx hb hr (fun t ht hW => ⟨⟨(), rfl, trivial, by rw [ht]; exact hP, va_K.moved hW.alike hK, hD⟩, hS.F ht⟩) hS.2.2 dX1_flip_60
      · rw [if_neg h1] at hf
        refine lv_aload_n hx hb dX1_flip_13 rfl (lv_at hl 0 rfl) ?_
        refine va_get (D := (dC, dI)) (ci := 1) (v := .ref w0) (C := RX1) (T := TX1) (N := 2) hx hb hww tqinX1 hown hK hP 0 rfl rfl 1 (by decide) (hww _ tqt_59) (fun _ h9 => h9) rfl dX1_flip_14 ?_
        refine lv_iload_n hx hb dX1_flip_17 rfl (lv_at hl 2 rfl) ?_
        refine lv_aload_n hx hb dX1_flip_18 rfl (lv_at hl 0 rfl) ?_
        refine va_get (D := (dC, dI)) (ci := 1) (v := .ref w0) (C := RX1) (T := TX1) (N := 2) hx hb hww tqinX1 hown hK hP 0 rfl rfl 1 (by decide) (hww _ tqt_59) (fun _ h9 => h9) rfl dX1_flip_19 ?_
        refine lv_iload_n hx hb dX1_flip_22 rfl (lv_at hl 2 rfl) ?_
        by_cases h2 : (v3 < 0 ∨ N0 ≤ v3.toNatClampNeg)
        · rw [if_pos h2] at hf
          cases hf
        · rw [if_neg h2] at hf
          refine va_lald hx hb hK hP 1 0 rfl rfl h2 dX1_flip_23 ?_
          refine lv_ldc2 (v := -1) hx hb hown (hww _ tqt_183) dX1_flip_24 ?_
          refine lv_lxor hx hb dX1_flip_27 ?_
          refine lv_lload_n hx hb dX1_flip_28 rfl (lv_at hl 1 rfl) ?_
          refine lv_ladd hx hb dX1_flip_29 ?_
          by_cases h3 : (v3 < 0 ∨ N0 ≤ v3.toNatClampNeg)
          · rw [if_pos h3] at hf
            cases hf
          · rw [if_neg h3] at hf
            refine va_last hx hb hK hP hD hS 1 0 rfl rfl h3 dX1_flip_30 (fun H locs hP hD hS => ?_)
            have hP : va_P (dC, dI) tqCl [(s0, .inr (1, [.int p0, .ref w0])), (w0, .inl (cL, N0, .inr (.inl (vp_updL f0 v3.toNatClampNeg (((f0 v3.toNatClampNeg) ^^^ (-1 : Int64)) + v1)))))] H := hP
            have hD : va_D A [(s0, .inr (1, [.int p0, .ref w0])), (w0, .inl (cL, N0, .inr (.inl (vp_updL f0 v3.toNatClampNeg (((f0 v3.toNatClampNeg) ^^^ (-1 : Int64)) + v1)))))] := hD
            refine lv_lload_n hx hb dX1_flip_31 rfl (lv_at hl 1 rfl) ?_
            refine lv_lconst (v := 1) hx hb dX1_flip_32 (by decide) ?_
            refine W.lcmp hx hb dX1_flip_33 ?_
            refine lv_if_ne hx hb dX1_flip_34 rfl (fun h4 => ?_) (fun h4 => ?_)
            · rw [if_pos h4] at hf
              refine lv_lconst (v := 0) hx hb dX1_flip_52 (by decide) ?_
              exact B53 ls _ _ v3 (0 : Int64) (vp_updL f0 v3.toNatClampNeg (((f0 v3.toNatClampNeg) ^^^ (-1 : Int64)) + v1)) hf (lv_sub hl [0, 2] rfl) hP hD hS
            · rw [if_neg (fun q : ¬ (lg_cmp v1 (1 : Int64)) = 0 => q h4)] at hf
              refine lv_aload_n hx hb dX1_flip_37 rfl (lv_at hl 0 rfl) ?_
              refine va_get (D := (dC, dI)) (ci := 1) (v := .ref w0) (C := RX1) (T := TX1) (N := 2) hx hb hww tqinX1 hown hK hP 0 rfl rfl 1 (by decide) (hww _ tqt_59) (fun _ h9 => h9) rfl dX1_flip_38 ?_
              refine lv_iload_n hx hb dX1_flip_41 rfl (lv_at hl 2 rfl) ?_
              by_cases h5 : (v3 < 0 ∨ N0 ≤ v3.toNatClampNeg)
              · rw [if_pos h5] at hf
                cases hf
              · rw [if_neg h5] at hf
                refine va_lald hx hb hK hP 1 0 rfl rfl h5 dX1_flip_42 ?_
                refine lv_lconst (v := 0) hx hb dX1_flip_43 (by decide) ?_
                refine W.lcmp hx hb dX1_flip_44 ?_
                refine lv_if_ne hx hb dX1_flip_45 rfl (fun h6 => ?_) (fun h6 => ?_)
                · rw [if_pos h6] at hf
                  refine lv_lconst (v := 0) hx hb dX1_flip_52 (by decide) ?_
                  exact B53 ls _ _ v3 (0 : Int64) (vp_updL f0 v3.toNatClampNeg (((f0 v3.toNatClampNeg) ^^^ (-1 : Int64)) + v1)) hf (lv_sub hl [0, 2] rfl) hP hD hS
                · rw [if_neg (fun q : ¬ (lg_cmp ((vp_updL f0 v3.toNatClampNeg (((f0 v3.toNatClampNeg) ^^^ (-1 : Int64)) + v1)) v3.toNatClampNeg) (0 : Int64)) = 0 => q h6)] at hf
                  refine lv_lconst (v := 1) hx hb dX1_flip_48 (by decide) ?_
                  refine lv_goto hx hb dX1_flip_49 rfl ?_
                  exact B53 ls _ _ v3 (1 : Int64) (vp_updL f0 v3.toNatClampNeg (((f0 v3.toNatClampNeg) ^^^ (-1 : Int64)) + v1)) hf (lv_sub hl [0, 2] rfl) hP hD hS
  unfold f_flip at hf
  refine lv_lconst (v := 1) hx hb dX1_flip_0 (by decide) ?_
  refine lv_lstore_n (lv' := [(1, .long (1 : Int64)), (0, .ref s0)]) hx hb dX1_flip_1 rfl hl (by decide) rfl (fun ls hl => ?_)
  refine lv_iconst (v := 0) hx hb dX1_flip_2 (by decide) ?_
  refine lv_istore_n (lv' := [(3, .int (0 : Int32)), (1, .long (1 : Int64)), (0, .ref s0)]) hx hb dX1_flip_3 rfl hl (by decide) rfl (fun ls hl => ?_)
  exact B4 9 ls _ _ (1 : Int64) (0 : Int32) f0 hf (lv_sub hl [2, 1, 0] rfl) hP hD hS
set_option maxHeartbeats 4000000 in
set_option maxRecDepth 100000 in
theorem c_f_topBit (l : Launch) (dC : Nat → ClassId) (dI : Nat → Nat → Nat) (s0 : Nat) (w0 : Nat) (cL : ClassId) (sz : Nat) (p0 : Int32) (N0 : Nat) (f0 : Nat → Int64) (r : Int32) (hf : f_topBit N0 f0 = some r) : Met l yX1_topBit tqw_X1_topBit ({ frames := 2, cells := 0, slots := 0, locals := 43 }) (va_Pc [.ref s0] (fun U => U.heap.size = sz ∧ va_P (dC, dI) tqCl [(s0, .inr (1, [.int p0, .ref w0])), (w0, .inl (cL, N0, .inr (.inl f0)))] U.heap ∧ va_K (dC, dI) tqCl [(cL, .long)] U ∧ va_D (fun _ => True) [(s0, .inr (1, [.int p0, .ref w0])), (w0, .inl (cL, N0, .inr (.inl f0)))] ∧ tqN U)) (va_Qi (fun (a : Int32) (_ : Unit) => a = r) (fun (_ : Unit) (t : State) => va_P (dC, dI) tqCl [(s0, .inr (1, [.int p0, .ref w0])), (w0, .inl (cL, N0, .inr (.inl f0)))] t.heap ∧ va_K (dC, dI) tqCl [(cL, .long)] t ∧ va_D (va_A [(s0, .inr (1, [.int p0, .ref w0])), (w0, .inl (cL, N0, .inr (.inl f0)))] sz) [(s0, .inr (1, [.int p0, .ref w0])), (w0, .inl (cL, N0, .inr (.inl f0)))]) (va_A [(s0, .inr (1, [.int p0, .ref w0])), (w0, .inl (cL, N0, .inr (.inl f0)))] sz)) 0 0 (va_A [(s0, .inr (1, [.int p0, .ref w0])), (w0, .inl (cL, N0, .inr (.inl f0)))] sz) := by
  refine Met.ofW (cc := cX1_topBit) (maxL := 2) (ret := (some .int)) (by decide) rfl ?_
  intro p e s m args below meth c s₁ B hml hv
  obtain ⟨rfl, hsz, hP, hK, hD0, hN⟩ := hv
  have hx := B.exec
  have hb := B.bytes
  have hr := B.returns
  have hts := atoms_spec (ws := tqw_X1_topBit) B.pre
  have hww : ∀ w ∈ tqW, w.before _ s = true := fun w h => hts w (List.mem_cons_of_mem _ h)
  have hown : s.vm.findClass RX1 = some m.cls := findClass_of_methodNamed B.named
  have hlocks := B.notSynchronized
  subst hsz
  have hD := hD0.self (sz := s.heap.size)
  generalize hAe : va_A [(s0, .inr (1, [.int p0, .ref w0])), (w0, .inl (cL, N0, .inr (.inl f0)))] s.heap.size = A at hD ⊢
  have hA : ∀ q : Nat, s.heap.size ≤ q → A q := fun q h => by rw [← hAe]; exact Or.inr h
  have hS : va_S A s.heap s.heap [] := va_S.rf
  have hP : va_P (dC, dI) tqCl [(s0, .inr (1, [.int p0, .ref w0])), (w0, .inl (cL, N0, .inr (.inl f0)))] s.heap := hP
  have hl := lv_entry ([.ref s0]) (n := 2) (Nat.le_of_ble_eq_true rfl)
  rw [lg_entry_eq]
  generalize (lg_sl ([.ref s0]) ++ List.replicate (2 - (lg_sl ([.ref s0])).length) Slot.unset).toArray = ls at hl ⊢
  have hl : lv_has ls 2 [(0, .ref s0)] := hl
  have B8 : ∀ (n8 : Nat) (ls : Array Slot) (H : Heap) (locs : List Loc) (v1 : Int32), f_topBit_b8 N0 f0 n8 v1 = some r → lv_has ls 2 [(0, .ref s0), (1, .int v1)] → va_P (dC, dI) tqCl [(s0, .inr (1, [.int p0, .ref w0])), (w0, .inl (cL, N0, .inr (.inl f0)))] H → va_D A [(s0, .inr (1, [.int p0, .ref w0])), (w0, .inl (cL, N0, .inr (.inl f0)))] → va_S A s.heap H locs → W p l e ({ frames := 2, cells := 0, slots := 0, locals := 43 }) s m ([.ref s0] : List Value).toArray below meth c H locs 0 0 (MQ below (va_Qi (fun (a : Int32) (_ : Unit) => a = r) (fun (_ : Unit) (t : State) => va_P (dC, dI) tqCl [(s0, .inr (1, [.int p0, .ref w0])), (w0, .inl (cL, N0, .inr (.inl f0)))] t.heap ∧ va_K (dC, dI) tqCl [(cL, .long)] t ∧ va_D (A) [(s0, .inr (1, [.int p0, .ref w0])), (w0, .inl (cL, N0, .inr (.inl f0)))]) (A)) ([.ref s0] : List Value).toArray s 0 0 A) (F0 m 8 ls []) := by
    try clear hf
    intro n8
    induction n8 with
    | zero =>
      intro ls H locs v1 hf hl hP hD hS
      have hf : (none : Option (Int32)) = some r := hf
      cases hf
    | succ n8 ih8 =>
      intro ls H locs v1 hf hl hP hD hS
      unfold f_topBit_b8 at hf
      refine lv_iload_n hx hb dX1_topBit_8 rfl (lv_at hl 1 rfl) ?_
      refine lv_if_lt hx hb dX1_topBit_9 rfl (fun h2 => ?_) (fun h2 => ?_)
      · rw [if_pos h2] at hf
        refine lv_iconst (v := -1) hx hb dX1_topBit_47 (by decide) ?_
        have hf := Option.some.inj hf
        subst hf
        exact W.iret (v := (-1 : Int32)) hx hb hr (fun t ht hW => ⟨⟨(-1 : Int32), (), rfl, rfl, by rw [ht]; exact hP, va_K.moved hW.alike hK, hD⟩, hS.F ht⟩) hS.2.2 dX1_topBit_48
      · rw [if_neg h2] at hf
        refine lv_aload_n hx hb dX1_topBit_12 rfl (lv_at hl 0 rfl) ?_
        refine va_get (D := (dC, dI)) (ci := 1) (v := .ref w0) (C := RX1) (T := TX1) (N := 2) hx hb hww tqinX1 hown hK hP 0 rfl rfl 1 (by decide) (hww _ tqt_59) (fun _ h9 => h9) rfl dX1_topBit_13 ?_
        refine lv_iload_n hx hb dX1_topBit_16 rfl (lv_at hl 1 rfl) ?_
        by_cases h3 : (v1 < 0 ∨ N0 ≤ v1.toNatClampNeg)
        · rw [if_pos h3] at hf
          cases hf
        · rw [if_neg h3] at hf
          refine va_lald hx hb hK hP 1 0 rfl rfl h3 dX1_topBit_17 ?_
          refine lv_lconst (v := 0) hx hb dX1_topBit_18 (by decide) ?_
          refine W.lcmp hx hb dX1_topBit_19 ?_
          refine lv_if_eq hx hb dX1_topBit_20 rfl (fun h4 => ?_) (fun h4 => ?_)
          · rw [if_pos h4] at hf
            refine lv_iinc (v := v1 + (-1 : Int32)) (lv' := [(1, .int (v1 + (-1 : Int32))), (0, .ref s0)]) hx hb dX1_topBit_41 hl (k := 1) rfl rfl (by decide) rfl (fun ls hl => ?_)
            refine lv_goto hx hb dX1_topBit_44 rfl ?_
            exact ih8 ls _ _ (v1 + (-1 : Int32)) hf (lv_sub hl [1, 0] rfl) hP hD hS
          · rw [if_neg h4] at hf
            refine lv_bipush (v := 64) hx hb dX1_topBit_23 (by decide) ?_
            refine lv_iload_n hx hb dX1_topBit_25 rfl (lv_at hl 1 rfl) ?_
            refine lv_imul hx hb dX1_topBit_26 ?_
            refine lv_bipush (v := 63) hx hb dX1_topBit_27 (by decide) ?_
            refine lv_iadd hx hb dX1_topBit_29 ?_
            refine lv_aload_n hx hb dX1_topBit_30 rfl (lv_at hl 0 rfl) ?_
            refine va_get (D := (dC, dI)) (ci := 1) (v := .ref w0) (C := RX1) (T := TX1) (N := 2) hx hb hww tqinX1 hown hK hP 0 rfl rfl 1 (by decide) (hww _ tqt_59) (fun _ h9 => h9) rfl dX1_topBit_31 ?_
            refine lv_iload_n hx hb dX1_topBit_34 rfl (lv_at hl 1 rfl) ?_
            by_cases h5 : (v1 < 0 ∨ N0 ≤ v1.toNatClampNeg)
            · rw [if_pos h5] at hf
              cases hf
            · rw [if_neg h5] at hf
              refine va_lald hx hb hK hP 1 0 rfl rfl h5 dX1_topBit_35 ?_
              have hPc := hP.sub (ws' := []) [] rfl
              have hDc := hD.sub (ws' := []) [] (by decide) rfl
              have hKc := hK.sub (tys' := []) [] rfl
              have hFc := va_free (wc := []) hD hS hA [] rfl
              refine va_calli (va_runS (As := [.long (f0 v1.toNatClampNeg)]) (rest := [.int (((64 : Int32) * v1) + (63 : Int32))]) ⟨hx, hb, hml, hown, hww⟩ (c_f_lnlz l dC dI H.size (f0 v1.toNatClampNeg) (f_lnlz (f0 v1.toNatClampNeg)) rfl) (va_cwS 1 hww (tq_gS tqt_218 tqt_219 tqt_38 tqt_220) rfl rfl rfl (by decide +kernel) ⟨Nat.le_of_ble_eq_true rfl, Nat.le_of_ble_eq_true rfl⟩) ⟨fun a U g mk q => by obtain ⟨q0, q1, qP, qK, qD, qN⟩ := q; exact ⟨q0, q1, qP, va_K.moved (u := U) (U := U.calling g mk a) (Vm.Alike.refl U.vm) qK, qD, tqN_same (u := U) (U := U.calling g mk a) rfl qN⟩, fun U hU hW => ⟨rfl, by rw [hU], by rw [hU]; exact hPc, va_K.moved hW.alike hKc, hDc.weaken (fun _ _ _ _ => trivial), tqN_warm hW hN⟩⟩ rfl rfl hl.1 rfl (lv_room (Nat.le_of_ble_eq_true rfl)) dX1_topBit_36 ⟨Nat.zero_le _, Nat.zero_le _⟩) hS (fun q _ h => hFc q h) hFc (fun ra u0 t H1 locs ht hvm hpost hB hz1 hk1 hS => ?_)
              have hpost : (f_lnlz (f0 v1.toNatClampNeg)) = ra := (show ra = (f_lnlz (f0 v1.toNatClampNeg)) from hpost).symm
              subst hpost
              obtain ⟨hP1, hK1, hD1⟩ := hB
              rw [ht] at hP1
              obtain ⟨hP, hD⟩ := va_join (wr := [(s0, .inr (1, [.int p0, .ref w0])), (w0, .inl (cL, N0, .inr (.inl f0)))]) (w1 := []) hP hD [] [0, 1] rfl rfl (by decide) (by decide) hk1 hFc hP1 hD1
              generalize H1 = H at hP hS ⊢
              have hP := hP.sub (ws' := [(s0, .inr (1, [.int p0, .ref w0])), (w0, .inl (cL, N0, .inr (.inl f0)))]) [0, 1] rfl
              have hD := hD.sub (ws' := [(s0, .inr (1, [.int p0, .ref w0])), (w0, .inl (cL, N0, .inr (.inl f0)))]) [0, 1] (by decide) rfl
              refine lv_isub hx hb dX1_topBit_39 ?_
              have hf := Option.some.inj hf
              subst hf
              exact W.iret (v := (((64 : Int32) * v1) + (63 : Int32)) - (f_lnlz (f0 v1.toNatClampNeg))) hx hb hr (fun t ht hW => ⟨⟨(((64 : Int32) * v1) + (63 : Int32)) - (f_lnlz (f0 v1.toNatClampNeg)), (), rfl, rfl, by rw [ht]; exact hP, va_K.moved hW.alike hK, hD⟩, hS.F ht⟩) hS.2.2 dX1_topBit_40
  unfold f_topBit at hf
  refine lv_aload_n hx hb dX1_topBit_0 rfl (lv_at hl 0 rfl) ?_
  refine va_get (D := (dC, dI)) (ci := 1) (v := .ref w0) (C := RX1) (T := TX1) (N := 2) hx hb hww tqinX1 hown hK hP 0 rfl rfl 1 (by decide) (hww _ tqt_59) (fun _ h9 => h9) rfl dX1_topBit_1 ?_
  refine va_alen (v := nI N0) hx hb hK hP 1 0 rfl rfl rfl dX1_topBit_4 ?_
  refine lv_iconst (v := 1) hx hb dX1_topBit_5 (by decide) ?_
  refine lv_isub hx hb dX1_topBit_6 ?_
  refine lv_topi (fun x1 e1 => ?_)
  have hf := tq_nm_at e1 hf
  refine lv_istore_n (lv' := [(1, .int x1), (0, .ref s0)]) hx hb dX1_topBit_7 rfl hl (by decide) rfl (fun ls hl => ?_)
  exact B8 9 ls _ _ x1 hf (lv_sub hl [1, 0] rfl) hP hD hS
set_option maxHeartbeats 4000000 in
set_option maxRecDepth 100000 in
theorem c_f_leadingBits (l : Launch) (dC : Nat → ClassId) (dI : Nat → Nat → Nat) (s0 : Nat) (w0 : Nat) (cL : ClassId) (sz : Nat) (top : Int32) (p0 : Int32) (N0 : Nat) (f0 : Nat → Int64) (r : Int64) (hf : f_leadingBits N0 f0 top = some r) : Met l yX1_leadingBits tqw_X1_leadingBits ({ frames := 0, cells := 0, slots := 0, locals := 0 }) (va_Pc [.ref s0, .int top] (fun U => U.heap.size = sz ∧ va_P (dC, dI) tqCl [(s0, .inr (1, [.int p0, .ref w0])), (w0, .inl (cL, N0, .inr (.inl f0)))] U.heap ∧ va_K (dC, dI) tqCl [(cL, .long)] U ∧ va_D (fun _ => True) [(s0, .inr (1, [.int p0, .ref w0])), (w0, .inl (cL, N0, .inr (.inl f0)))] ∧ tqN U)) (va_Ql (fun (a : Int64) (_ : Unit) => a = r) (fun (_ : Unit) (t : State) => va_P (dC, dI) tqCl [(s0, .inr (1, [.int p0, .ref w0])), (w0, .inl (cL, N0, .inr (.inl f0)))] t.heap ∧ va_K (dC, dI) tqCl [(cL, .long)] t ∧ va_D (va_A [(s0, .inr (1, [.int p0, .ref w0])), (w0, .inl (cL, N0, .inr (.inl f0)))] sz) [(s0, .inr (1, [.int p0, .ref w0])), (w0, .inl (cL, N0, .inr (.inl f0)))]) (va_A [(s0, .inr (1, [.int p0, .ref w0])), (w0, .inl (cL, N0, .inr (.inl f0)))] sz)) 0 0 (va_A [(s0, .inr (1, [.int p0, .ref w0])), (w0, .inl (cL, N0, .inr (.inl f0)))] sz) := by
  refine Met.ofW (cc := cX1_leadingBits) (maxL := 6) (ret := (some .long)) (by decide) rfl ?_
  intro p e s m args below meth c s₁ B hml hv
  obtain ⟨rfl, hsz, hP, hK, hD0, hN⟩ := hv
  have hx := B.exec
  have hb := B.bytes
  have hr := B.returns
  have hts := atoms_spec (ws := tqw_X1_leadingBits) B.pre
  have hww : ∀ w ∈ tqW, w.before _ s = true := fun w h => hts w (List.mem_cons_of_mem _ h)
  have hown : s.vm.findClass RX1 = some m.cls := findClass_of_methodNamed B.named
  have hlocks := B.notSynchronized
  subst hsz
  have hD := hD0.self (sz := s.heap.size)
  generalize hAe : va_A [(s0, .inr (1, [.int p0, .ref w0])), (w0, .inl (cL, N0, .inr (.inl f0)))] s.heap.size = A at hD ⊢
  have hA : ∀ q : Nat, s.heap.size ≤ q → A q := fun q h => by rw [← hAe]; exact Or.inr h
  have hS : va_S A s.heap s.heap [] := va_S.rf
  have hP : va_P (dC, dI) tqCl [(s0, .inr (1, [.int p0, .ref w0])), (w0, .inl (cL, N0, .inr (.inl f0)))] s.heap := hP
  have hl := lv_entry ([.ref s0, .int top]) (n := 6) (Nat.le_of_ble_eq_true rfl)
  rw [lg_entry_eq]
  generalize (lg_sl ([.ref s0, .int top]) ++ List.replicate (6 - (lg_sl ([.ref s0, .int top])).length) Slot.unset).toArray = ls at hl ⊢
  have hl : lv_has ls 6 [(0, .ref s0), (1, .int top)] := hl
  have B44 : ∀ (ls : Array Slot) (H : Heap) (locs : List Loc) (v2 : Int32) (v3 : Int32) (t0 : Int64), f_leadingBits_b44 N0 f0 v2 v3 t0 = some r → lv_has ls 6 [(0, .ref s0), (2, .int v2), (3, .int v3)] → va_P (dC, dI) tqCl [(s0, .inr (1, [.int p0, .ref w0])), (w0, .inl (cL, N0, .inr (.inl f0)))] H → va_D A [(s0, .inr (1, [.int p0, .ref w0])), (w0, .inl (cL, N0, .inr (.inl f0)))] → va_S A s.heap H locs → W p l e ({ frames := 0, cells := 0, slots := 0, locals := 0 }) s m ([.ref s0, .int top] : List Value).toArray below meth c H locs 0 0 (MQ below (va_Ql (fun (a : Int64) (_ : Unit) => a = r) (fun (_ : Unit) (t : State) => va_P (dC, dI) tqCl [(s0, .inr (1, [.int p0, .ref w0])), (w0, .inl (cL, N0, .inr (.inl f0)))] t.heap ∧ va_K (dC, dI) tqCl [(cL, .long)] t ∧ va_D (A) [(s0, .inr (1, [.int p0, .ref w0])), (w0, .inl (cL, N0, .inr (.inl f0)))]) (A)) ([.ref s0, .int top] : List Value).toArray s 0 0 A) (F0 m 44 ls [.long t0]) := by
    try clear hf
    intro ls H locs v2 v3 t0 hf hl hP hD hS
    unfold f_leadingBits_b44 at hf
    refine lv_lstore (lv' := [(4, .long t0), (0, .ref s0), (2, .int v2), (3, .int v3)]) hx hb dX1_leadingBits_44 hl (by decide) rfl (fun ls hl => ?_)
    refine lv_aload_n hx hb dX1_leadingBits_46 rfl (lv_at hl 1 rfl) ?_
    refine va_get (D := (dC, dI)) (ci := 1) (v := .ref w0) (C := RX1) (T := TX1) (N := 2) hx hb hww tqinX1 hown hK hP 0 rfl rfl 1 (by decide) (hww _ tqt_59) (fun _ h9 => h9) rfl dX1_leadingBits_47 ?_
    refine lv_iload_n hx hb dX1_leadingBits_50 rfl (lv_at hl 2 rfl) ?_
    by_cases h6 : (v2 < 0 ∨ N0 ≤ v2.toNatClampNeg)
    · rw [if_pos h6] at hf
      cases hf
    · rw [if_neg h6] at hf
      refine va_lald hx hb hK hP 1 0 rfl rfl h6 dX1_leadingBits_51 ?_
      refine lv_iload_n hx hb dX1_leadingBits_52 rfl (lv_at hl 3 rfl) ?_
      refine lv_lshl hx hb dX1_leadingBits_53 rfl ?_
      refine lv_lload hx hb dX1_leadingBits_54 (lv_at hl 0 rfl) ?_
      refine lv_iconst (v := 1) hx hb dX1_leadingBits_56 (by decide) ?_
      refine lv_lushr hx hb dX1_leadingBits_57 rfl ?_
      refine lv_bipush (v := 63) hx hb dX1_leadingBits_58 (by decide) ?_
      refine lv_iload_n hx hb dX1_leadingBits_60 rfl (lv_at hl 3 rfl) ?_
      refine lv_isub hx hb dX1_leadingBits_61 ?_
      refine lv_lushr hx hb dX1_leadingBits_62 rfl ?_
      refine lv_lor hx hb dX1_leadingBits_63 ?_
      have hf := Option.some.inj hf
      subst hf
      exact W.lret (v := ((f0 v2.toNatClampNeg) <<< (v3.toInt64 &&& 63)) ||| ((((t0.toUInt64 >>> ((1 : Int32).toInt64.toUInt64 &&& Int64.toUInt64 63)).toInt64).toUInt64 >>> (((63 : Int32) - v3).toInt64.toUInt64 &&& Int64.toUInt64 63)).toInt64)) hx hb hr (fun t ht hW => ⟨⟨((f0 v2.toNatClampNeg) <<< (v3.toInt64 &&& 63)) ||| ((((t0.toUInt64 >>> ((1 : Int32).toInt64.toUInt64 &&& Int64.toUInt64 63)).toInt64).toUInt64 >>> (((63 : Int32) - v3).toInt64.toUInt64 &&& Int64.toUInt64 63)).toInt64), (), rfl, rfl, by rw [ht]; exact hP, va_K.moved hW.alike hK, hD⟩, hS.F ht⟩) hS.2.2 dX1_leadingBits_64
  unfold f_leadingBits at hf
  refine lv_iload_n hx hb dX1_leadingBits_0 rfl (lv_at hl 1 rfl) ?_
  refine lv_bipush (v := 6) hx hb dX1_leadingBits_1 (by decide) ?_
  refine lv_ishr hx hb dX1_leadingBits_3 ?_
  refine lv_topi (fun x1 e1 => ?_)
  have hf := tq_nm_at e1 hf
  refine lv_istore_n (lv' := [(2, .int x1), (0, .ref s0), (1, .int top)]) hx hb dX1_leadingBits_4 rfl hl (by decide) rfl (fun ls hl => ?_)
  refine lv_iload_n hx hb dX1_leadingBits_5 rfl (lv_at hl 0 rfl) ?_
  refine lv_if_lt hx hb dX1_leadingBits_6 rfl (fun h2 => ?_) (fun h2 => ?_)
  · rw [if_pos h2] at hf
    refine lv_lconst (v := 0) hx hb dX1_leadingBits_18 (by decide) ?_
    have hf := Option.some.inj hf
    subst hf
    exact W.lret (v := (0 : Int64)) hx hb hr (fun t ht hW => ⟨⟨(0 : Int64), (), rfl, rfl, by rw [ht]; exact hP, va_K.moved hW.alike hK, hD⟩, hS.F ht⟩) hS.2.2 dX1_leadingBits_19
  · rw [if_neg h2] at hf
    refine lv_iload_n hx hb dX1_leadingBits_9 rfl (lv_at hl 0 rfl) ?_
    refine lv_aload_n hx hb dX1_leadingBits_10 rfl (lv_at hl 1 rfl) ?_
    refine va_get (D := (dC, dI)) (ci := 1) (v := .ref w0) (C := RX1) (T := TX1) (N := 2) hx hb hww tqinX1 hown hK hP 0 rfl rfl 1 (by decide) (hww _ tqt_59) (fun _ h9 => h9) rfl dX1_leadingBits_11 ?_
    refine va_alen (v := nI N0) hx hb hK hP 1 0 rfl rfl rfl dX1_leadingBits_14 ?_
    refine lv_icmp_lt hx hb dX1_leadingBits_15 rfl (fun h3 => ?_) (fun h3 => ?_)
    · rw [if_pos h3] at hf
      refine lv_bipush (v := 63) hx hb dX1_leadingBits_20 (by decide) ?_
      refine lv_iload_n hx hb dX1_leadingBits_22 rfl (lv_at hl 2 rfl) ?_
      refine lv_bipush (v := 63) hx hb dX1_leadingBits_23 (by decide) ?_
      refine lv_iand hx hb dX1_leadingBits_25 ?_
      refine lv_isub hx hb dX1_leadingBits_26 ?_
      refine lv_topi (fun x4 e4 => ?_)
      have hf := tq_nm_at e4 hf
      refine lv_istore_n (lv' := [(3, .int x4), (2, .int x1), (0, .ref s0), (1, .int top)]) hx hb dX1_leadingBits_27 rfl hl (by decide) rfl (fun ls hl => ?_)
      refine lv_iload_n hx hb dX1_leadingBits_28 rfl (lv_at hl 1 rfl) ?_
      refine lv_if_le hx hb dX1_leadingBits_29 rfl (fun h5 => ?_) (fun h5 => ?_)
      · rw [if_pos h5] at hf
        refine lv_lconst (v := 0) hx hb dX1_leadingBits_43 (by decide) ?_
        exact B44 ls _ _ x1 x4 (0 : Int64) hf (lv_sub hl [2, 1, 0] rfl) hP hD hS
      · rw [if_neg h5] at hf
        refine lv_aload_n hx hb dX1_leadingBits_32 rfl (lv_at hl 2 rfl) ?_
        refine va_get (D := (dC, dI)) (ci := 1) (v := .ref w0) (C := RX1) (T := TX1) (N := 2) hx hb hww tqinX1 hown hK hP 0 rfl rfl 1 (by decide) (hww _ tqt_59) (fun _ h9 => h9) rfl dX1_leadingBits_33 ?_
        refine lv_iload_n hx hb dX1_leadingBits_36 rfl (lv_at hl 1 rfl) ?_
        refine lv_iconst (v := 1) hx hb dX1_leadingBits_37 (by decide) ?_
        refine lv_isub hx hb dX1_leadingBits_38 ?_
        by_cases h7 : ((x1 - (1 : Int32)) < 0 ∨ N0 ≤ (x1 - (1 : Int32)).toNatClampNeg)
        · rw [if_pos h7] at hf
          cases hf
        · rw [if_neg h7] at hf
          refine va_lald hx hb hK hP 1 0 rfl rfl h7 dX1_leadingBits_39 ?_
          refine lv_goto hx hb dX1_leadingBits_40 rfl ?_
          exact B44 ls _ _ x1 x4 (f0 (x1 - (1 : Int32)).toNatClampNeg) hf (lv_sub hl [2, 1, 0] rfl) hP hD hS
    · rw [if_neg h3] at hf
      refine lv_lconst (v := 0) hx hb dX1_leadingBits_18 (by decide) ?_
      have hf := Option.some.inj hf
      subst hf
      exact W.lret (v := (0 : Int64)) hx hb hr (fun t ht hW => ⟨⟨(0 : Int64), (), rfl, rfl, by rw [ht]; exact hP, va_K.moved hW.alike hK, hD⟩, hS.F ht⟩) hS.2.2 dX1_leadingBits_19
set_option maxHeartbeats 4000000 in
set_option maxRecDepth 100000 in
theorem c_f_setBits (l : Launch) (dC : Nat → ClassId) (dI : Nat → Nat → Nat) (s0 : Nat) (w0 : Nat) (cL : ClassId) (sz : Nat) (value : Int64) (position : Int32) (p0 : Int32) (N0 : Nat) (f0 : Nat → Int64) (r : (Nat → Int64)) (hf : f_setBits N0 f0 value position = some r) : Met l yX1_setBits tqw_X1_setBits ({ frames := 0, cells := 0, slots := 0, locals := 0 }) (va_Pc [.ref s0, .long value, .int position] (fun U => U.heap.size = sz ∧ va_P (dC, dI) tqCl [(s0, .inr (1, [.int p0, .ref w0])), (w0, .inl (cL, N0, .inr (.inl f0)))] U.heap ∧ va_K (dC, dI) tqCl [(cL, .long)] U ∧ va_D (fun _ => True) [(s0, .inr (1, [.int p0, .ref w0])), (w0, .inl (cL, N0, .inr (.inl f0)))] ∧ tqN U)) (va_Qv (fun (_ : Unit) => True) (fun (_ : Unit) (t : State) => va_P (dC, dI) tqCl [(s0, .inr (1, [.int p0, .ref w0])), (w0, .inl (cL, N0, .inr (.inl r)))] t.heap ∧ va_K (dC, dI) tqCl [(cL, .long)] t ∧ va_D (va_A [(s0, .inr (1, [.int p0, .ref w0])), (w0, .inl (cL, N0, .inr (.inl f0)))] sz) [(s0, .inr (1, [.int p0, .ref w0])), (w0, .inl (cL, N0, .inr (.inl r)))]) (va_A [(s0, .inr (1, [.int p0, .ref w0])), (w0, .inl (cL, N0, .inr (.inl f0)))] sz)) 0 0 (va_A [(s0, .inr (1, [.int p0, .ref w0])), (w0, .inl (cL, N0, .inr (.inl f0)))] sz) := by
  refine Met.ofW (cc := cX1_setBits) (maxL := 6) (ret := none) (by decide) rfl ?_
  intro p e s m args below meth c s₁ B hml hv
  obtain ⟨rfl, hsz, hP, hK, hD0, hN⟩ := hv
  have hx := B.exec
  have hb := B.bytes
  have hr := B.returns
  have hts := atoms_spec (ws := tqw_X1_setBits) B.pre
  have hww : ∀ w ∈ tqW, w.before _ s = true := fun w h => hts w (List.mem_cons_of_mem _ h)
  have hown : s.vm.findClass RX1 = some m.cls := findClass_of_methodNamed B.named
  have hlocks := B.notSynchronized
  subst hsz
  have hD := hD0.self (sz := s.heap.size)
  generalize hAe : va_A [(s0, .inr (1, [.int p0, .ref w0])), (w0, .inl (cL, N0, .inr (.inl f0)))] s.heap.size = A at hD ⊢
  have hA : ∀ q : Nat, s.heap.size ≤ q → A q := fun q h => by rw [← hAe]; exact Or.inr h
  have hS : va_S A s.heap s.heap [] := va_S.rf
  have hP : va_P (dC, dI) tqCl [(s0, .inr (1, [.int p0, .ref w0])), (w0, .inl (cL, N0, .inr (.inl f0)))] s.heap := hP
  have hl := lv_entry ([.ref s0, .long value, .int position]) (n := 6) (Nat.le_of_ble_eq_true rfl)
  rw [lg_entry_eq]
  generalize (lg_sl ([.ref s0, .long value, .int position]) ++ List.replicate (6 - (lg_sl ([.ref s0, .long value, .int position])).length) Slot.unset).toArray = ls at hl ⊢
  have hl : lv_has ls 6 [(0, .ref s0), (1, .long value), (3, .int position)] := hl
  have B38 : ∀ (ls : Array Slot) (H : Heap) (locs : List Loc) (v4 : Int32) (v5 : Int32) (f0 : Nat → Int64), f_setBits_b38 N0 value v4 v5 f0 = some r → lv_has ls 6 [(0, .ref s0), (1, .long value), (4, .int v4), (5, .int v5)] → va_P (dC, dI) tqCl [(s0, .inr (1, [.int p0, .ref w0])), (w0, .inl (cL, N0, .inr (.inl f0)))] H → va_D A [(s0, .inr (1, [.int p0, .ref w0])), (w0, .inl (cL, N0, .inr (.inl f0)))] → va_S A s.heap H locs → W p l e ({ frames := 0, cells := 0, slots := 0, locals := 0 }) s m ([.ref s0, .long value, .int position] : List Value).toArray below meth c H locs 0 0 (MQ below (va_Qv (fun (_ : Unit) => True) (fun (_ : Unit) (t : State) => va_P (dC, dI) tqCl [(s0, .inr (1, [.int p0, .ref w0])), (w0, .inl (cL, N0, .inr (.inl r)))] t.heap ∧ va_K (dC, dI) tqCl [(cL, .long)] t ∧ va_D (A) [(s0, .inr (1, [.int p0, .ref w0])), (w0, .inl (cL, N0, .inr (.inl r)))]) (A)) ([.ref s0, .long value, .int position] : List Value).toArray s 0 0 A) (F0 m 38 ls []) := by
    try clear hf
    intro ls H locs v4 v5 f0 hf hl hP hD hS
    unfold f_setBits_b38 at hf
    refine lv_iload hx hb dX1_setBits_38 (lv_at hl 2 rfl) ?_
    refine lv_if_lt hx hb dX1_setBits_40 rfl (fun h4 => ?_) (fun h4 => ?_)
    · rw [if_pos h4] at hf
      have hf := Option.some.inj hf
      subst hf
      exact W.vret hx hb hr (fun t ht hW => ⟨⟨(), rfl, trivial, by rw [ht]; exact hP, va_K.moved hW.alike hK, hD⟩, hS.F ht⟩) hS.2.2 dX1_setBits_73
    · rw [if_neg h4] at hf
      refine lv_iload hx hb dX1_setBits_43 (lv_at hl 2 rfl) ?_
      refine lv_iconst (v := 1) hx hb dX1_setBits_45 (by decide) ?_
      refine lv_iadd hx hb dX1_setBits_46 ?_
      refine lv_aload_n hx hb dX1_setBits_47 rfl (lv_at hl 0 rfl) ?_
      refine va_get (D := (dC, dI)) (ci := 1) (v := .ref w0) (C := RX1) (T := TX1) (N := 2) hx hb hww tqinX1 hown hK hP 0 rfl rfl 1 (by decide) (hww _ tqt_59) (fun _ h9 => h9) rfl dX1_setBits_48 ?_
      refine va_alen (v := nI N0) hx hb hK hP 1 0 rfl rfl rfl dX1_setBits_51 ?_
      refine lv_icmp_ge hx hb dX1_setBits_52 rfl (fun h5 => ?_) (fun h5 => ?_)
      · rw [if_pos h5] at hf
        have hf := Option.some.inj hf
        subst hf
        exact W.vret hx hb hr (fun t ht hW => ⟨⟨(), rfl, trivial, by rw [ht]; exact hP, va_K.moved hW.alike hK, hD⟩, hS.F ht⟩) hS.2.2 dX1_setBits_73
      · rw [if_neg h5] at hf
        refine lv_aload_n hx hb dX1_setBits_55 rfl (lv_at hl 0 rfl) ?_
        refine va_get (D := (dC, dI)) (ci := 1) (v := .ref w0) (C := RX1) (T := TX1) (N := 2) hx hb hww tqinX1 hown hK hP 0 rfl rfl 1 (by decide) (hww _ tqt_59) (fun _ h9 => h9) rfl dX1_setBits_56 ?_
        refine lv_iload hx hb dX1_setBits_59 (lv_at hl 2 rfl) ?_
        refine lv_iconst (v := 1) hx hb dX1_setBits_61 (by decide) ?_
        refine lv_iadd hx hb dX1_setBits_62 ?_
        refine lv_lload_n hx hb dX1_setBits_63 rfl (lv_at hl 1 rfl) ?_
        refine lv_iconst (v := 1) hx hb dX1_setBits_64 (by decide) ?_
        refine lv_lushr hx hb dX1_setBits_65 rfl ?_
        refine lv_bipush (v := 63) hx hb dX1_setBits_66 (by decide) ?_
        refine lv_iload hx hb dX1_setBits_68 (lv_at hl 3 rfl) ?_
        refine lv_isub hx hb dX1_setBits_70 ?_
        refine lv_lushr hx hb dX1_setBits_71 rfl ?_
        by_cases h6 : ((v4 + (1 : Int32)) < 0 ∨ N0 ≤ (v4 + (1 : Int32)).toNatClampNeg)
        · rw [if_pos h6] at hf
          cases hf
        · rw [if_neg h6] at hf
          refine va_last hx hb hK hP hD hS 1 0 rfl rfl h6 dX1_setBits_72 (fun H locs hP hD hS => ?_)
          have hP : va_P (dC, dI) tqCl [(s0, .inr (1, [.int p0, .ref w0])), (w0, .inl (cL, N0, .inr (.inl (vp_updL f0 (v4 + (1 : Int32)).toNatClampNeg ((((value.toUInt64 >>> ((1 : Int32).toInt64.toUInt64 &&& Int64.toUInt64 63)).toInt64).toUInt64 >>> (((63 : Int32) - v5).toInt64.toUInt64 &&& Int64.toUInt64 63)).toInt64)))))] H := hP
          have hD : va_D A [(s0, .inr (1, [.int p0, .ref w0])), (w0, .inl (cL, N0, .inr (.inl (vp_updL f0 (v4 + (1 : Int32)).toNatClampNeg ((((value.toUInt64 >>> ((1 : Int32).toInt64.toUInt64 &&& Int64.toUInt64 63)).toInt64).toUInt64 >>> (((63 : Int32) - v5).toInt64.toUInt64 &&& Int64.toUInt64 63)).toInt64)))))] := hD
          have hf := Option.some.inj hf
          subst hf
          exact W.vret hx hb hr (fun t ht hW => ⟨⟨(), rfl, trivial, by rw [ht]; exact hP, va_K.moved hW.alike hK, hD⟩, hS.F ht⟩) hS.2.2 dX1_setBits_73
  unfold f_setBits at hf
  refine lv_iload_n hx hb dX1_setBits_0 rfl (lv_at hl 2 rfl) ?_
  refine lv_bipush (v := 6) hx hb dX1_setBits_1 (by decide) ?_
  refine lv_ishr hx hb dX1_setBits_3 ?_
  refine lv_topi (fun x1 e1 => ?_)
  have hf := tq_nm_at e1 hf
  refine lv_istore (lv' := [(4, .int x1), (0, .ref s0), (1, .long value), (3, .int position)]) hx hb dX1_setBits_4 hl (by decide) rfl (fun ls hl => ?_)
  refine lv_iload_n hx hb dX1_setBits_6 rfl (lv_at hl 3 rfl) ?_
  refine lv_bipush (v := 63) hx hb dX1_setBits_7 (by decide) ?_
  refine lv_iand hx hb dX1_setBits_9 ?_
  refine lv_topi (fun x2 e2 => ?_)
  have hf := tq_nm_at e2 hf
  refine lv_istore (lv' := [(5, .int x2), (4, .int x1), (0, .ref s0), (1, .long value), (3, .int position)]) hx hb dX1_setBits_10 hl (by decide) rfl (fun ls hl => ?_)
  refine lv_iload hx hb dX1_setBits_12 (lv_at hl 1 rfl) ?_
  refine lv_if_lt hx hb dX1_setBits_14 rfl (fun h3 => ?_) (fun h3 => ?_)
  · rw [if_pos h3] at hf
    exact B38 ls _ _ x1 x2 f0 hf (lv_sub hl [2, 3, 1, 0] rfl) hP hD hS
  · rw [if_neg h3] at hf
    refine lv_iload hx hb dX1_setBits_17 (lv_at hl 1 rfl) ?_
    refine lv_aload_n hx hb dX1_setBits_19 rfl (lv_at hl 2 rfl) ?_
    refine va_get (D := (dC, dI)) (ci := 1) (v := .ref w0) (C := RX1) (T := TX1) (N := 2) hx hb hww tqinX1 hown hK hP 0 rfl rfl 1 (by decide) (hww _ tqt_59) (fun _ h9 => h9) rfl dX1_setBits_20 ?_
    refine va_alen (v := nI N0) hx hb hK hP 1 0 rfl rfl rfl dX1_setBits_23 ?_
    refine lv_icmp_ge hx hb dX1_setBits_24 rfl (fun h7 => ?_) (fun h7 => ?_)
    · rw [if_pos h7] at hf
      exact B38 ls _ _ x1 x2 f0 hf (lv_sub hl [2, 3, 1, 0] rfl) hP hD hS
    · rw [if_neg h7] at hf
      refine lv_aload_n hx hb dX1_setBits_27 rfl (lv_at hl 2 rfl) ?_
      refine va_get (D := (dC, dI)) (ci := 1) (v := .ref w0) (C := RX1) (T := TX1) (N := 2) hx hb hww tqinX1 hown hK hP 0 rfl rfl 1 (by decide) (hww _ tqt_59) (fun _ h9 => h9) rfl dX1_setBits_28 ?_
      refine lv_iload hx hb dX1_setBits_31 (lv_at hl 1 rfl) ?_
      refine lv_lload_n hx hb dX1_setBits_33 rfl (lv_at hl 3 rfl) ?_
      refine lv_iload hx hb dX1_setBits_34 (lv_at hl 0 rfl) ?_
      refine lv_lshl hx hb dX1_setBits_36 rfl ?_
      by_cases h8 : (x1 < 0 ∨ N0 ≤ x1.toNatClampNeg)
      · rw [if_pos h8] at hf
        cases hf
      · rw [if_neg h8] at hf
        refine va_last hx hb hK hP hD hS 1 0 rfl rfl h8 dX1_setBits_37 (fun H locs hP hD hS => ?_)
        have hP : va_P (dC, dI) tqCl [(s0, .inr (1, [.int p0, .ref w0])), (w0, .inl (cL, N0, .inr (.inl (vp_updL f0 x1.toNatClampNeg (value <<< (x2.toInt64 &&& 63))))))] H := hP
        have hD : va_D A [(s0, .inr (1, [.int p0, .ref w0])), (w0, .inl (cL, N0, .inr (.inl (vp_updL f0 x1.toNatClampNeg (value <<< (x2.toInt64 &&& 63))))))] := hD
        exact B38 ls _ _ x1 x2 (vp_updL f0 x1.toNatClampNeg (value <<< (x2.toInt64 &&& 63))) hf (lv_sub hl [2, 3, 1, 0] rfl) hP hD hS
set_option maxHeartbeats 4000000 in
set_option maxRecDepth 100000 in
theorem c_f_copy (l : Launch) (dC : Nat → ClassId) (dI : Nat → Nat → Nat) (s0 : Nat) (s1 : Nat) (w0 : Nat) (w1 : Nat) (cL : ClassId) (sz : Nat) (p0 : Int32) (N0 : Nat) (f0 : Nat → Int64) (p1 : Int32) (N1 : Nat) (f1 : Nat → Int64) (r : (Nat → Int64)) (hf : f_copy N0 f0 N1 f1 = some r) : Met l yX1_copy tqw_X1_copy ({ frames := 0, cells := 0, slots := 0, locals := 0 }) (va_Pc [.ref s0, .ref s1] (fun U => U.heap.size = sz ∧ va_P (dC, dI) tqCl [(s0, .inr (1, [.int p0, .ref w0])), (w0, .inl (cL, N0, .inr (.inl f0))), (s1, .inr (1, [.int p1, .ref w1])), (w1, .inl (cL, N1, .inr (.inl f1)))] U.heap ∧ va_K (dC, dI) tqCl [(cL, .long)] U ∧ va_D (fun _ => True) [(s0, .inr (1, [.int p0, .ref w0])), (w0, .inl (cL, N0, .inr (.inl f0))), (s1, .inr (1, [.int p1, .ref w1])), (w1, .inl (cL, N1, .inr (.inl f1)))] ∧ tqN U)) (va_Qv (fun (_ : Unit) => True) (fun (_ : Unit) (t : State) => va_P (dC, dI) tqCl [(s0, .inr (1, [.int p0, .ref w0])), (w0, .inl (cL, N0, .inr (.inl r))), (s1, .inr (1, [.int p1, .ref w1])), (w1, .inl (cL, N1, .inr (.inl f1)))] t.heap ∧ va_K (dC, dI) tqCl [(cL, .long)] t ∧ va_D (va_A [(s0, .inr (1, [.int p0, .ref w0])), (w0, .inl (cL, N0, .inr (.inl f0))), (s1, .inr (1, [.int p1, .ref w1])), (w1, .inl (cL, N1, .inr (.inl f1)))] sz) [(s0, .inr (1, [.int p0, .ref w0])), (w0, .inl (cL, N0, .inr (.inl r))), (s1, .inr (1, [.int p1, .ref w1])), (w1, .inl (cL, N1, .inr (.inl f1)))]) (va_A [(s0, .inr (1, [.int p0, .ref w0])), (w0, .inl (cL, N0, .inr (.inl f0))), (s1, .inr (1, [.int p1, .ref w1])), (w1, .inl (cL, N1, .inr (.inl f1)))] sz)) 0 0 (va_A [(s0, .inr (1, [.int p0, .ref w0])), (w0, .inl (cL, N0, .inr (.inl f0))), (s1, .inr (1, [.int p1, .ref w1])), (w1, .inl (cL, N1, .inr (.inl f1)))] sz) := by
  refine Met.ofW (cc := cX1_copy) (maxL := 3) (ret := none) (by decide) rfl ?_
  intro p e s m args below meth c s₁ B hml hv
  obtain ⟨rfl, hsz, hP, hK, hD0, hN⟩ := hv
  have hx := B.exec
  have hb := B.bytes
  have hr := B.returns
  have hts := atoms_spec (ws := tqw_X1_copy) B.pre
  have hww : ∀ w ∈ tqW, w.before _ s = true := fun w h => hts w (List.mem_cons_of_mem _ h)
  have hown : s.vm.findClass RX1 = some m.cls := findClass_of_methodNamed B.named
  have hlocks := B.notSynchronized
  subst hsz
  have hD := hD0.self (sz := s.heap.size)
  generalize hAe : va_A [(s0, .inr (1, [.int p0, .ref w0])), (w0, .inl (cL, N0, .inr (.inl f0))), (s1, .inr (1, [.int p1, .ref w1])), (w1, .inl (cL, N1, .inr (.inl f1)))] s.heap.size = A at hD ⊢
  have hA : ∀ q : Nat, s.heap.size ≤ q → A q := fun q h => by rw [← hAe]; exact Or.inr h
  have hS : va_S A s.heap s.heap [] := va_S.rf
  have hP : va_P (dC, dI) tqCl [(s0, .inr (1, [.int p0, .ref w0])), (w0, .inl (cL, N0, .inr (.inl f0))), (s1, .inr (1, [.int p1, .ref w1])), (w1, .inl (cL, N1, .inr (.inl f1)))] s.heap := hP
  have hl := lv_entry ([.ref s0, .ref s1]) (n := 3) (Nat.le_of_ble_eq_true rfl)
  rw [lg_entry_eq]
  generalize (lg_sl ([.ref s0, .ref s1]) ++ List.replicate (3 - (lg_sl ([.ref s0, .ref s1])).length) Slot.unset).toArray = ls at hl ⊢
  have hl : lv_has ls 3 [(0, .ref s0), (1, .ref s1)] := hl
  have B2 : ∀ (n2 : Nat) (ls : Array Slot) (H : Heap) (locs : List Loc) (v2 : Int32) (f0 : Nat → Int64), f_copy_b2 N0 N1 f1 n2 v2 f0 = some r → lv_has ls 3 [(0, .ref s0), (1, .ref s1), (2, .int v2)] → va_P (dC, dI) tqCl [(s0, .inr (1, [.int p0, .ref w0])), (w0, .inl (cL, N0, .inr (.inl f0))), (s1, .inr (1, [.int p1, .ref w1])), (w1, .inl (cL, N1, .inr (.inl f1)))] H → va_D A [(s0, .inr (1, [.int p0, .ref w0])), (w0, .inl (cL, N0, .inr (.inl f0))), (s1, .inr (1, [.int p1, .ref w1])), (w1, .inl (cL, N1, .inr (.inl f1)))] → va_S A s.heap H locs → W p l e ({ frames := 0, cells := 0, slots := 0, locals := 0 }) s m ([.ref s0, .ref s1] : List Value).toArray below meth c H locs 0 0 (MQ below (va_Qv (fun (_ : Unit) => True) (fun (_ : Unit) (t : State) => va_P (dC, dI) tqCl [(s0, .inr (1, [.int p0, .ref w0])), (w0, .inl (cL, N0, .inr (.inl r))), (s1, .inr (1, [.int p1, .ref w1])), (w1, .inl (cL, N1, .inr (.inl f1)))] t.heap ∧ va_K (dC, dI) tqCl [(cL, .long)] t ∧ va_D (A) [(s0, .inr (1, [.int p0, .ref w0])), (w0, .inl (cL, N0, .inr (.inl r))), (s1, .inr (1, [.int p1, .ref w1])), (w1, .inl (cL, N1, .inr (.inl f1)))]) (A)) ([.ref s0, .ref s1] : List Value).toArray s 0 0 A) (F0 m 2 ls []) := by
    try clear hf
    intro n2
    induction n2 with
    | zero =>
      intro ls H locs v2 f0 hf hl hP hD hS
      have hf : (none : Option ((Nat → Int64))) = some r := hf
      cases hf
    | succ n2 ih2 =>
      intro ls H locs v2 f0 hf hl hP hD hS
      unfold f_copy_b2 at hf
      refine lv_iload_n hx hb dX1_copy_2 rfl (lv_at hl 2 rfl) ?_
      refine lv_aload_n hx hb dX1_copy_3 rfl (lv_at hl 0 rfl) ?_
      refine va_get (D := (dC, dI)) (ci := 1) (v := .ref w0) (C := RX1) (T := TX1) (N := 2) hx hb hww tqinX1 hown hK hP 0 rfl rfl 1 (by decide) (hww _ tqt_59) (fun _ h9 => h9) rfl dX1_copy_4 ?_
      refine va_alen (v := nI N0) hx hb hK hP 1 0 rfl rfl rfl dX1_copy_7 ?_
      refine lv_icmp_ge hx hb dX1_copy_8 rfl (fun h1 => ?_) (fun h1 => ?_)
      · rw [if_pos h1] at hf
        have hf := Option.some.inj hf
        subst hf
        exact W.vret hx hb hr (fun t ht hW => ⟨⟨(), rfl, trivial, by rw [ht]; exact hP, va_K.moved hW.alike hK, hD⟩, hS.F ht⟩) hS.2.2 dX1_copy_38
      · rw [if_neg h1] at hf
        refine lv_iload_n hx hb dX1_copy_11 rfl (lv_at hl 2 rfl) ?_
        refine lv_aload_n hx hb dX1_copy_12 rfl (lv_at hl 1 rfl) ?_
        refine va_get (D := (dC, dI)) (ci := 1) (v := .ref w1) (C := RX1) (T := TX1) (N := 2) hx hb hww tqinX1 hown hK hP 2 rfl rfl 1 (by decide) (hww _ tqt_59) (fun _ h9 => h9) rfl dX1_copy_13 ?_
        refine va_alen (v := nI N1) hx hb hK hP 3 0 rfl rfl rfl dX1_copy_16 ?_
        refine lv_icmp_ge hx hb dX1_copy_17 rfl (fun h2 => ?_) (fun h2 => ?_)
        · rw [if_pos h2] at hf
          have hf := Option.some.inj hf
          subst hf
          exact W.vret hx hb hr (fun t ht hW => ⟨⟨(), rfl, trivial, by rw [ht]; exact hP, va_K.moved hW.alike hK, hD⟩, hS.F ht⟩) hS.2.2 dX1_copy_38
        · rw [if_neg h2] at hf
          refine lv_aload_n hx hb dX1_copy_20 rfl (lv_at hl 0 rfl) ?_
          refine va_get (D := (dC, dI)) (ci := 1) (v := .ref w0) (C := RX1) (T := TX1) (N := 2) hx hb hww tqinX1 hown hK hP 0 rfl rfl 1 (by decide) (hww _ tqt_59) (fun _ h9 => h9) rfl dX1_copy_21 ?_
          refine lv_iload_n hx hb dX1_copy_24 rfl (lv_at hl 2 rfl) ?_
          refine lv_aload_n hx hb dX1_copy_25 rfl (lv_at hl 1 rfl) ?_
          refine va_get (D := (dC, dI)) (ci := 1) (v := .ref w1) (C := RX1) (T := TX1) (N := 2) hx hb hww tqinX1 hown hK hP 2 rfl rfl 1 (by decide) (hww _ tqt_59) (fun _ h9 => h9) rfl dX1_copy_26 ?_
          refine lv_iload_n hx hb dX1_copy_29 rfl (lv_at hl 2 rfl) ?_
          by_cases h3 : (v2 < 0 ∨ N1 ≤ v2.toNatClampNeg)
          · rw [if_pos h3] at hf
            cases hf
          · rw [if_neg h3] at hf
            refine va_lald hx hb hK hP 3 0 rfl rfl h3 dX1_copy_30 ?_
            by_cases h4 : (v2 < 0 ∨ N0 ≤ v2.toNatClampNeg)
            · rw [if_pos h4] at hf
              cases hf
            · rw [if_neg h4] at hf
              refine va_last hx hb hK hP hD hS 1 0 rfl rfl h4 dX1_copy_31 (fun H locs hP hD hS => ?_)
              have hP : va_P (dC, dI) tqCl [(s0, .inr (1, [.int p0, .ref w0])), (w0, .inl (cL, N0, .inr (.inl (vp_updL f0 v2.toNatClampNeg (f1 v2.toNatClampNeg))))), (s1, .inr (1, [.int p1, .ref w1])), (w1, .inl (cL, N1, .inr (.inl f1)))] H := hP
              have hD : va_D A [(s0, .inr (1, [.int p0, .ref w0])), (w0, .inl (cL, N0, .inr (.inl (vp_updL f0 v2.toNatClampNeg (f1 v2.toNatClampNeg))))), (s1, .inr (1, [.int p1, .ref w1])), (w1, .inl (cL, N1, .inr (.inl f1)))] := hD
              refine lv_iinc (v := v2 + (1 : Int32)) (lv' := [(2, .int (v2 + (1 : Int32))), (0, .ref s0), (1, .ref s1)]) hx hb dX1_copy_32 hl (k := 2) rfl rfl (by decide) rfl (fun ls hl => ?_)
              refine lv_goto hx hb dX1_copy_35 rfl ?_
              exact ih2 ls _ _ (v2 + (1 : Int32)) (vp_updL f0 v2.toNatClampNeg (f1 v2.toNatClampNeg)) hf (lv_sub hl [1, 2, 0] rfl) hP hD hS
  unfold f_copy at hf
  refine lv_iconst (v := 0) hx hb dX1_copy_0 (by decide) ?_
  refine lv_istore_n (lv' := [(2, .int (0 : Int32)), (0, .ref s0), (1, .ref s1)]) hx hb dX1_copy_1 rfl hl (by decide) rfl (fun ls hl => ?_)
  exact B2 9 ls _ _ (0 : Int32) f0 hf (lv_sub hl [1, 2, 0] rfl) hP hD hS
set_option maxHeartbeats 4000000 in
set_option maxRecDepth 100000 in
theorem c_f_include (l : Launch) (dC : Nat → ClassId) (dI : Nat → Nat → Nat) (s0 : Nat) (s1 : Nat) (w0 : Nat) (w1 : Nat) (cL : ClassId) (sz : Nat) (p0 : Int32) (N0 : Nat) (f0 : Nat → Int64) (p1 : Int32) (N1 : Nat) (f1 : Nat → Int64) (r : (Nat → Int64)) (hf : f_include N0 f0 N1 f1 = some r) : Met l yX1_include tqw_X1_include ({ frames := 3, cells := 0, slots := 0, locals := 65 }) (va_Pc [.ref s0, .ref s1] (fun U => U.heap.size = sz ∧ va_P (dC, dI) tqCl [(s0, .inr (1, [.int p0, .ref w0])), (w0, .inl (cL, N0, .inr (.inl f0))), (s1, .inr (1, [.int p1, .ref w1])), (w1, .inl (cL, N1, .inr (.inl f1)))] U.heap ∧ va_K (dC, dI) tqCl [(cL, .long)] U ∧ va_D (fun _ => True) [(s0, .inr (1, [.int p0, .ref w0])), (w0, .inl (cL, N0, .inr (.inl f0))), (s1, .inr (1, [.int p1, .ref w1])), (w1, .inl (cL, N1, .inr (.inl f1)))] ∧ tqN U)) (va_Qv (fun (_ : Unit) => True) (fun (_ : Unit) (t : State) => va_P (dC, dI) tqCl [(s0, .inr (1, [.int p0, .ref w0])), (w0, .inl (cL, N0, .inr (.inl r))), (s1, .inr (1, [.int p1, .ref w1])), (w1, .inl (cL, N1, .inr (.inl f1)))] t.heap ∧ va_K (dC, dI) tqCl [(cL, .long)] t ∧ va_D (va_A [(s0, .inr (1, [.int p0, .ref w0])), (w0, .inl (cL, N0, .inr (.inl f0))), (s1, .inr (1, [.int p1, .ref w1])), (w1, .inl (cL, N1, .inr (.inl f1)))] sz) [(s0, .inr (1, [.int p0, .ref w0])), (w0, .inl (cL, N0, .inr (.inl r))), (s1, .inr (1, [.int p1, .ref w1])), (w1, .inl (cL, N1, .inr (.inl f1)))]) (va_A [(s0, .inr (1, [.int p0, .ref w0])), (w0, .inl (cL, N0, .inr (.inl f0))), (s1, .inr (1, [.int p1, .ref w1])), (w1, .inl (cL, N1, .inr (.inl f1)))] sz)) 0 0 (va_A [(s0, .inr (1, [.int p0, .ref w0])), (w0, .inl (cL, N0, .inr (.inl f0))), (s1, .inr (1, [.int p1, .ref w1])), (w1, .inl (cL, N1, .inr (.inl f1)))] sz) := by
  refine Met.ofW (cc := cX1_include) (maxL := 11) (ret := none) (by decide) rfl ?_
  intro p e s m args below meth c s₁ B hml hv
  obtain ⟨rfl, hsz, hP, hK, hD0, hN⟩ := hv
  have hx := B.exec
  have hb := B.bytes
  have hr := B.returns
  have hts := atoms_spec (ws := tqw_X1_include) B.pre
  have hww : ∀ w ∈ tqW, w.before _ s = true := fun w h => hts w (List.mem_cons_of_mem _ h)
  have hown : s.vm.findClass RX1 = some m.cls := findClass_of_methodNamed B.named
  have hlocks := B.notSynchronized
  subst hsz
  have hD := hD0.self (sz := s.heap.size)
  generalize hAe : va_A [(s0, .inr (1, [.int p0, .ref w0])), (w0, .inl (cL, N0, .inr (.inl f0))), (s1, .inr (1, [.int p1, .ref w1])), (w1, .inl (cL, N1, .inr (.inl f1)))] s.heap.size = A at hD ⊢
  have hA : ∀ q : Nat, s.heap.size ≤ q → A q := fun q h => by rw [← hAe]; exact Or.inr h
  have hS : va_S A s.heap s.heap [] := va_S.rf
  have hP : va_P (dC, dI) tqCl [(s0, .inr (1, [.int p0, .ref w0])), (w0, .inl (cL, N0, .inr (.inl f0))), (s1, .inr (1, [.int p1, .ref w1])), (w1, .inl (cL, N1, .inr (.inl f1)))] s.heap := hP
  have hl := lv_entry ([.ref s0, .ref s1]) (n := 11) (Nat.le_of_ble_eq_true rfl)
  rw [lg_entry_eq]
  generalize (lg_sl ([.ref s0, .ref s1]) ++ List.replicate (11 - (lg_sl ([.ref s0, .ref s1])).length) Slot.unset).toArray = ls at hl ⊢
  have hl : lv_has ls 11 [(0, .ref s0), (1, .ref s1)] := hl
  have B14 : ∀ (ls : Array Slot) (H : Heap) (locs : List Loc) (f0 : Nat → Int64), f_include_b14 N0 f0 = some r → lv_has ls 11 [(0, .ref s0)] → va_P (dC, dI) tqCl [(s0, .inr (1, [.int p0, .ref w0])), (w0, .inl (cL, N0, .inr (.inl f0))), (s1, .inr (1, [.int p1, .ref w1])), (w1, .inl (cL, N1, .inr (.inl f1)))] H → va_D A [(s0, .inr (1, [.int p0, .ref w0])), (w0, .inl (cL, N0, .inr (.inl f0))), (s1, .inr (1, [.int p1, .ref w1])), (w1, .inl (cL, N1, .inr (.inl f1)))] → va_S A s.heap H locs → W p l e ({ frames := 3, cells := 0, slots := 0, locals := 65 }) s m ([.ref s0, .ref s1] : List Value).toArray below meth c H locs 0 0 (MQ below (va_Qv (fun (_ : Unit) => True) (fun (_ : Unit) (t : State) => va_P (dC, dI) tqCl [(s0, .inr (1, [.int p0, .ref w0])), (w0, .inl (cL, N0, .inr (.inl r))), (s1, .inr (1, [.int p1, .ref w1])), (w1, .inl (cL, N1, .inr (.inl f1)))] t.heap ∧ va_K (dC, dI) tqCl [(cL, .long)] t ∧ va_D (A) [(s0, .inr (1, [.int p0, .ref w0])), (w0, .inl (cL, N0, .inr (.inl r))), (s1, .inr (1, [.int p1, .ref w1])), (w1, .inl (cL, N1, .inr (.inl f1)))]) (A)) ([.ref s0, .ref s1] : List Value).toArray s 0 0 A) (F0 m 14 ls []) := by
    try clear hf
    intro ls H locs f0 hf hl hP hD hS
    unfold f_include_b14 at hf
    refine lv_aload_n hx hb dX1_include_14 rfl (lv_at hl 0 rfl) ?_
    obtain ⟨f03, hu, hf⟩ := tq_bd_some hf
    have hPc := hP.sub (ws' := [(s0, .inr (1, [.int p0, .ref w0])), (w0, .inl (cL, N0, .inr (.inl f0)))]) [0, 1] rfl
    have hDc := hD.sub (ws' := [(s0, .inr (1, [.int p0, .ref w0])), (w0, .inl (cL, N0, .inr (.inl f0)))]) [0, 1] (by decide) rfl
    have hKc := hK.sub (tys' := [(cL, .long)]) [0] rfl
    have hFc := va_free (wc := [(s0, .inr (1, [.int p0, .ref w0])), (w0, .inl (cL, N0, .inr (.inl f0)))]) hD hS hA [0, 1] rfl
    refine va_callv (va_runV (As := []) (rest := []) ⟨hx, hb, hml, hown, hww⟩ (c_f_setNot l dC dI s0 w0 cL H.size p0 N0 f0 f03 hu) (cwV 0 hww (tq_gV tqt_166 tqt_167 tqt_168 tqt_33 tqt_169) rfl rfl rfl (by decide +kernel) ⟨Nat.le_of_ble_eq_true rfl, Nat.le_of_ble_eq_true rfl⟩) ⟨fun a U g mk q => by obtain ⟨q0, q1, qP, qK, qD, qN⟩ := q; exact ⟨q0, q1, qP, va_K.moved (u := U) (U := U.calling g mk a) (Vm.Alike.refl U.vm) qK, qD, tqN_same (u := U) (U := U.calling g mk a) rfl qN⟩, va_recv hK hP (ci := 1) rfl (q0 := 0) rfl, fun U hU hW => ⟨rfl, by rw [hU], by rw [hU]; exact hPc, va_K.moved hW.alike hKc, hDc.weaken (fun _ _ _ _ => trivial), tqN_warm hW hN⟩⟩ rfl rfl hl.1 rfl (lv_room (Nat.le_of_ble_eq_true rfl)) dX1_include_15 ⟨Nat.zero_le _, Nat.zero_le _⟩) hS (fun q _ h => hFc q h) hFc (fun u0 t H1 locs ht hvm hpost hB hz1 hk1 hS => ?_)
    obtain ⟨hP1, hK1, hD1⟩ := hB
    rw [ht] at hP1
    obtain ⟨hP, hD⟩ := va_join (wr := [(s1, .inr (1, [.int p1, .ref w1])), (w1, .inl (cL, N1, .inr (.inl f1)))]) (w1 := [(s0, .inr (1, [.int p0, .ref w0])), (w0, .inl (cL, N0, .inr (.inl f03)))]) hP hD [0, 1] [2, 3] rfl rfl (by decide) (by decide) hk1 hFc hP1 hD1
    generalize H1 = H at hP hS ⊢
    have hP := hP.sub (ws' := [(s0, .inr (1, [.int p0, .ref w0])), (w0, .inl (cL, N0, .inr (.inl f03))), (s1, .inr (1, [.int p1, .ref w1])), (w1, .inl (cL, N1, .inr (.inl f1)))]) [2, 3, 0, 1] rfl
    have hD := hD.sub (ws' := [(s0, .inr (1, [.int p0, .ref w0])), (w0, .inl (cL, N0, .inr (.inl f03))), (s1, .inr (1, [.int p1, .ref w1])), (w1, .inl (cL, N1, .inr (.inl f1)))]) [2, 3, 0, 1] (by decide) rfl
    have hf := Option.some.inj hf
    subst hf
    exact W.vret hx hb hr (fun t ht hW => ⟨⟨(), rfl, trivial, by rw [ht]; exact hP, va_K.moved hW.alike hK, hD⟩, hS.F ht⟩) hS.2.2 dX1_include_18
  have B24 : ∀ (n24 : Nat) (ls : Array Slot) (H : Heap) (locs : List Loc) (v2 : Int64) (v4 : Int32) (f0 : Nat → Int64), f_include_b24 N0 N1 f1 n24 v2 v4 f0 = some r → lv_has ls 11 [(0, .ref s0), (1, .ref s1), (2, .long v2), (4, .int v4)] → va_P (dC, dI) tqCl [(s0, .inr (1, [.int p0, .ref w0])), (w0, .inl (cL, N0, .inr (.inl f0))), (s1, .inr (1, [.int p1, .ref w1])), (w1, .inl (cL, N1, .inr (.inl f1)))] H → va_D A [(s0, .inr (1, [.int p0, .ref w0])), (w0, .inl (cL, N0, .inr (.inl f0))), (s1, .inr (1, [.int p1, .ref w1])), (w1, .inl (cL, N1, .inr (.inl f1)))] → va_S A s.heap H locs → W p l e ({ frames := 3, cells := 0, slots := 0, locals := 65 }) s m ([.ref s0, .ref s1] : List Value).toArray below meth c H locs 0 0 (MQ below (va_Qv (fun (_ : Unit) => True) (fun (_ : Unit) (t : State) => va_P (dC, dI) tqCl [(s0, .inr (1, [.int p0, .ref w0])), (w0, .inl (cL, N0, .inr (.inl r))), (s1, .inr (1, [.int p1, .ref w1])), (w1, .inl (cL, N1, .inr (.inl f1)))] t.heap ∧ va_K (dC, dI) tqCl [(cL, .long)] t ∧ va_D (A) [(s0, .inr (1, [.int p0, .ref w0])), (w0, .inl (cL, N0, .inr (.inl r))), (s1, .inr (1, [.int p1, .ref w1])), (w1, .inl (cL, N1, .inr (.inl f1)))]) (A)) ([.ref s0, .ref s1] : List Value).toArray s 0 0 A) (F0 m 24 ls []) := by
    try clear hf
    intro n24
    induction n24 with
    | zero =>
      intro ls H locs v2 v4 f0 hf hl hP hD hS
      have hf : (none : Option ((Nat → Int64))) = some r := hf
      cases hf
    | succ n24 ih24 =>
      intro ls H locs v2 v4 f0 hf hl hP hD hS
      unfold f_include_b24 at hf
      refine lv_iload hx hb dX1_include_24 (lv_at hl 3 rfl) ?_
      refine lv_aload_n hx hb dX1_include_26 rfl (lv_at hl 0 rfl) ?_
      refine va_get (D := (dC, dI)) (ci := 1) (v := .ref w0) (C := RX1) (T := TX1) (N := 2) hx hb hww tqinX1 hown hK hP 0 rfl rfl 1 (by decide) (hww _ tqt_59) (fun _ h9 => h9) rfl dX1_include_27 ?_
      refine va_alen (v := nI N0) hx hb hK hP 1 0 rfl rfl rfl dX1_include_30 ?_
      refine lv_icmp_ge hx hb dX1_include_31 rfl (fun h6 => ?_) (fun h6 => ?_)
      · rw [if_pos h6] at hf
        have hf := Option.some.inj hf
        subst hf
        exact W.vret hx hb hr (fun t ht hW => ⟨⟨(), rfl, trivial, by rw [ht]; exact hP, va_K.moved hW.alike hK, hD⟩, hS.F ht⟩) hS.2.2 dX1_include_108
      · rw [if_neg h6] at hf
        refine lv_iload hx hb dX1_include_34 (lv_at hl 3 rfl) ?_
        refine lv_aload_n hx hb dX1_include_36 rfl (lv_at hl 1 rfl) ?_
        refine va_get (D := (dC, dI)) (ci := 1) (v := .ref w1) (C := RX1) (T := TX1) (N := 2) hx hb hww tqinX1 hown hK hP 2 rfl rfl 1 (by decide) (hww _ tqt_59) (fun _ h9 => h9) rfl dX1_include_37 ?_
        refine va_alen (v := nI N1) hx hb hK hP 3 0 rfl rfl rfl dX1_include_40 ?_
        refine lv_icmp_ge hx hb dX1_include_41 rfl (fun h7 => ?_) (fun h7 => ?_)
        · rw [if_pos h7] at hf
          have hf := Option.some.inj hf
          subst hf
          exact W.vret hx hb hr (fun t ht hW => ⟨⟨(), rfl, trivial, by rw [ht]; exact hP, va_K.moved hW.alike hK, hD⟩, hS.F ht⟩) hS.2.2 dX1_include_108
        · rw [if_neg h7] at hf
          refine lv_aload_n hx hb dX1_include_44 rfl (lv_at hl 0 rfl) ?_
          refine va_get (D := (dC, dI)) (ci := 1) (v := .ref w0) (C := RX1) (T := TX1) (N := 2) hx hb hww tqinX1 hown hK hP 0 rfl rfl 1 (by decide) (hww _ tqt_59) (fun _ h9 => h9) rfl dX1_include_45 ?_
          refine lv_iload hx hb dX1_include_48 (lv_at hl 3 rfl) ?_
          by_cases h8 : (v4 < 0 ∨ N0 ≤ v4.toNatClampNeg)
          · rw [if_pos h8] at hf
            cases hf
          · rw [if_neg h8] at hf
            refine va_lald hx hb hK hP 1 0 rfl rfl h8 dX1_include_50 ?_
            refine lv_topl (fun x9 e9 => ?_)
            have hf := tq_nm_at e9 hf
            refine lv_lstore (lv' := [(5, .long x9), (0, .ref s0), (1, .ref s1), (2, .long v2), (4, .int v4)]) hx hb dX1_include_51 hl (by decide) rfl (fun ls hl => ?_)
            refine lv_aload_n hx hb dX1_include_53 rfl (lv_at hl 2 rfl) ?_
            refine va_get (D := (dC, dI)) (ci := 1) (v := .ref w1) (C := RX1) (T := TX1) (N := 2) hx hb hww tqinX1 hown hK hP 2 rfl rfl 1 (by decide) (hww _ tqt_59) (fun _ h9 => h9) rfl dX1_include_54 ?_
            refine lv_iload hx hb dX1_include_57 (lv_at hl 4 rfl) ?_
            by_cases h10 : (v4 < 0 ∨ N1 ≤ v4.toNatClampNeg)
            · rw [if_pos h10] at hf
              cases hf
            · rw [if_neg h10] at hf
              refine va_lald hx hb hK hP 3 0 rfl rfl h10 dX1_include_59 ?_
              refine lv_topl (fun x11 e11 => ?_)
              have hf := tq_nm_at e11 hf
              refine lv_lstore (lv' := [(7, .long x11), (5, .long x9), (0, .ref s0), (1, .ref s1), (2, .long v2), (4, .int v4)]) hx hb dX1_include_60 hl (by decide) rfl (fun ls hl => ?_)
              refine lv_lload hx hb dX1_include_62 (lv_at hl 1 rfl) ?_
              refine lv_lload hx hb dX1_include_64 (lv_at hl 0 rfl) ?_
              refine lv_ladd hx hb dX1_include_66 ?_
              refine lv_lload_n hx hb dX1_include_67 rfl (lv_at hl 4 rfl) ?_
              refine lv_ladd hx hb dX1_include_68 ?_
              refine lv_topl (fun x12 e12 => ?_)
              have hf := tq_nm_at e12 hf
              refine lv_lstore (lv' := [(9, .long x12), (7, .long x11), (5, .long x9), (0, .ref s0), (1, .ref s1), (2, .long v2), (4, .int v4)]) hx hb dX1_include_69 hl (by decide) rfl (fun ls hl => ?_)
              refine lv_lload hx hb dX1_include_71 (lv_at hl 2 rfl) ?_
              refine lv_lload hx hb dX1_include_73 (lv_at hl 1 rfl) ?_
              refine lv_land hx hb dX1_include_75 ?_
              refine lv_lload hx hb dX1_include_76 (lv_at hl 2 rfl) ?_
              refine lv_lload hx hb dX1_include_78 (lv_at hl 1 rfl) ?_
              refine lv_lor hx hb dX1_include_80 ?_
              refine lv_lload hx hb dX1_include_81 (lv_at hl 0 rfl) ?_
              refine lv_ldc2 (v := -1) hx hb hown (hww _ tqt_183) dX1_include_83 ?_
              refine lv_lxor hx hb dX1_include_86 ?_
              refine lv_land hx hb dX1_include_87 ?_
              refine lv_lor hx hb dX1_include_88 ?_
              refine lv_bipush (v := 63) hx hb dX1_include_89 (by decide) ?_
              refine lv_lushr hx hb dX1_include_91 rfl ?_
              refine lv_topl (fun x13 e13 => ?_)
              have hf := tq_nm_at e13 hf
              refine lv_lstore_n (lv' := [(2, .long x13), (9, .long x12), (7, .long x11), (5, .long x9), (0, .ref s0), (1, .ref s1), (4, .int v4)]) hx hb dX1_include_92 rfl hl (by decide) rfl (fun ls hl => ?_)
              refine lv_aload_n hx hb dX1_include_93 rfl (lv_at hl 4 rfl) ?_
              refine va_get (D := (dC, dI)) (ci := 1) (v := .ref w0) (C := RX1) (T := TX1) (N := 2) hx hb hww tqinX1 hown hK hP 0 rfl rfl 1 (by decide) (hww _ tqt_59) (fun _ h9 => h9) rfl dX1_include_94 ?_
              refine lv_iload hx hb dX1_include_97 (lv_at hl 6 rfl) ?_
              refine lv_lload hx hb dX1_include_99 (lv_at hl 1 rfl) ?_
              by_cases h14 : (v4 < 0 ∨ N0 ≤ v4.toNatClampNeg)
              · rw [if_pos h14] at hf
                cases hf
              · rw [if_neg h14] at hf
                refine va_last hx hb hK hP hD hS 1 0 rfl rfl h14 dX1_include_101 (fun H locs hP hD hS => ?_)
                have hP : va_P (dC, dI) tqCl [(s0, .inr (1, [.int p0, .ref w0])), (w0, .inl (cL, N0, .inr (.inl (vp_updL f0 v4.toNatClampNeg x12)))), (s1, .inr (1, [.int p1, .ref w1])), (w1, .inl (cL, N1, .inr (.inl f1)))] H := hP
                have hD : va_D A [(s0, .inr (1, [.int p0, .ref w0])), (w0, .inl (cL, N0, .inr (.inl (vp_updL f0 v4.toNatClampNeg x12)))), (s1, .inr (1, [.int p1, .ref w1])), (w1, .inl (cL, N1, .inr (.inl f1)))] := hD
                refine lv_iinc (v := v4 + (1 : Int32)) (lv' := [(4, .int (v4 + (1 : Int32))), (2, .long x13), (9, .long x12), (7, .long x11), (5, .long x9), (0, .ref s0), (1, .ref s1)]) hx hb dX1_include_102 hl (k := 6) rfl rfl (by decide) rfl (fun ls hl => ?_)
                refine lv_goto hx hb dX1_include_105 rfl ?_
                exact ih24 ls _ _ x13 (v4 + (1 : Int32)) (vp_updL f0 v4.toNatClampNeg x12) hf (lv_sub hl [5, 6, 1, 0] rfl) hP hD hS
  unfold f_include at hf
  refine lv_aload_n hx hb dX1_include_0 rfl (lv_at hl 0 rfl) ?_
  obtain ⟨r1, hu, hf⟩ := tq_bd_some hf
  have hPc := hP.sub (ws' := [(s0, .inr (1, [.int p0, .ref w0])), (w0, .inl (cL, N0, .inr (.inl f0)))]) [0, 1] rfl
  have hDc := hD.sub (ws' := [(s0, .inr (1, [.int p0, .ref w0])), (w0, .inl (cL, N0, .inr (.inl f0)))]) [0, 1] (by decide) rfl
  have hKc := hK.sub (tys' := [(cL, .long)]) [0] rfl
  have hFc := va_free (wc := [(s0, .inr (1, [.int p0, .ref w0])), (w0, .inl (cL, N0, .inr (.inl f0)))]) hD hS hA [0, 1] rfl
  refine va_calli (va_runV (As := []) (rest := []) ⟨hx, hb, hml, hown, hww⟩ (c_f_isNot l dC dI s0 w0 cL s.heap.size p0 N0 f0 r1 hu) (cwV 0 hww (tq_gV tqt_188 tqt_189 tqt_190 tqt_33 tqt_191) rfl rfl rfl (by decide +kernel) ⟨Nat.le_of_ble_eq_true rfl, Nat.le_of_ble_eq_true rfl⟩) ⟨fun a U g mk q => by obtain ⟨q0, q1, qP, qK, qD, qN⟩ := q; exact ⟨q0, q1, qP, va_K.moved (u := U) (U := U.calling g mk a) (Vm.Alike.refl U.vm) qK, qD, tqN_same (u := U) (U := U.calling g mk a) rfl qN⟩, va_recv hK hP (ci := 1) rfl (q0 := 0) rfl, fun U hU hW => ⟨rfl, by rw [hU], by rw [hU]; exact hPc, va_K.moved hW.alike hKc, hDc.weaken (fun _ _ _ _ => trivial), tqN_warm hW hN⟩⟩ rfl rfl hl.1 rfl (lv_room (Nat.le_of_ble_eq_true rfl)) dX1_include_1 ⟨Nat.zero_le _, Nat.zero_le _⟩) hS (fun q _ h => hFc q h) hFc (fun ra u0 t H1 locs ht hvm hpost hB hz1 hk1 hS => ?_)
  have hpost : r1 = ra := (show ra = r1 from hpost).symm
  subst hpost
  obtain ⟨hP1, hK1, hD1⟩ := hB
  rw [ht] at hP1
  obtain ⟨hP, hD⟩ := va_join (wr := [(s1, .inr (1, [.int p1, .ref w1])), (w1, .inl (cL, N1, .inr (.inl f1)))]) (w1 := [(s0, .inr (1, [.int p0, .ref w0])), (w0, .inl (cL, N0, .inr (.inl f0)))]) hP hD [0, 1] [2, 3] rfl rfl (by decide) (by decide) hk1 hFc hP1 hD1
  generalize H1 = H at hP hS ⊢
  have hP := hP.sub (ws' := [(s0, .inr (1, [.int p0, .ref w0])), (w0, .inl (cL, N0, .inr (.inl f0))), (s1, .inr (1, [.int p1, .ref w1])), (w1, .inl (cL, N1, .inr (.inl f1)))]) [2, 3, 0, 1] rfl
  have hD := hD.sub (ws' := [(s0, .inr (1, [.int p0, .ref w0])), (w0, .inl (cL, N0, .inr (.inl f0))), (s1, .inr (1, [.int p1, .ref w1])), (w1, .inl (cL, N1, .inr (.inl f1)))]) [2, 3, 0, 1] (by decide) rfl
  refine lv_if_ne hx hb dX1_include_4 rfl (fun h2 => ?_) (fun h2 => ?_)
  · rw [if_pos h2] at hf
    exact B14 ls _ _ f0 hf (lv_sub hl [0] rfl) hP hD hS
  · rw [if_neg (fun q : ¬ r1 = 0 => q h2)] at hf
    refine lv_aload_n hx hb dX1_include_7 rfl (lv_at hl 1 rfl) ?_
    obtain ⟨r4, hu, hf⟩ := tq_bd_some hf
    have hPc := hP.sub (ws' := [(s1, .inr (1, [.int p1, .ref w1])), (w1, .inl (cL, N1, .inr (.inl f1)))]) [2, 3] rfl
    have hDc := hD.sub (ws' := [(s1, .inr (1, [.int p1, .ref w1])), (w1, .inl (cL, N1, .inr (.inl f1)))]) [2, 3] (by decide) rfl
    have hKc := hK.sub (tys' := [(cL, .long)]) [0] rfl
    have hFc := va_free (wc := [(s1, .inr (1, [.int p1, .ref w1])), (w1, .inl (cL, N1, .inr (.inl f1)))]) hD hS hA [2, 3] rfl
    refine va_calli (va_runV (As := []) (rest := []) ⟨hx, hb, hml, hown, hww⟩ (c_f_isNot l dC dI s1 w1 cL H.size p1 N1 f1 r4 hu) (cwV 0 hww (tq_gV tqt_188 tqt_189 tqt_190 tqt_33 tqt_191) rfl rfl rfl (by decide +kernel) ⟨Nat.le_of_ble_eq_true rfl, Nat.le_of_ble_eq_true rfl⟩) ⟨fun a U g mk q => by obtain ⟨q0, q1, qP, qK, qD, qN⟩ := q; exact ⟨q0, q1, qP, va_K.moved (u := U) (U := U.calling g mk a) (Vm.Alike.refl U.vm) qK, qD, tqN_same (u := U) (U := U.calling g mk a) rfl qN⟩, va_recv hK hP (ci := 1) rfl (q0 := 2) rfl, fun U hU hW => ⟨rfl, by rw [hU], by rw [hU]; exact hPc, va_K.moved hW.alike hKc, hDc.weaken (fun _ _ _ _ => trivial), tqN_warm hW hN⟩⟩ rfl rfl hl.1 rfl (lv_room (Nat.le_of_ble_eq_true rfl)) dX1_include_8 ⟨Nat.zero_le _, Nat.zero_le _⟩) hS (fun q _ h => hFc q h) hFc (fun ra u0 t H1 locs ht hvm hpost hB hz1 hk1 hS => ?_)
    have hpost : r4 = ra := (show ra = r4 from hpost).symm
    subst hpost
    obtain ⟨hP1, hK1, hD1⟩ := hB
    rw [ht] at hP1
    obtain ⟨hP, hD⟩ := va_join (wr := [(s0, .inr (1, [.int p0, .ref w0])), (w0, .inl (cL, N0, .inr (.inl f0)))]) (w1 := [(s1, .inr (1, [.int p1, .ref w1])), (w1, .inl (cL, N1, .inr (.inl f1)))]) hP hD [2, 3] [0, 1] rfl rfl (by decide) (by decide) hk1 hFc hP1 hD1
    generalize H1 = H at hP hS ⊢
    have hP := hP.sub (ws' := [(s0, .inr (1, [.int p0, .ref w0])), (w0, .inl (cL, N0, .inr (.inl f0))), (s1, .inr (1, [.int p1, .ref w1])), (w1, .inl (cL, N1, .inr (.inl f1)))]) [0, 1, 2, 3] rfl
    have hD := hD.sub (ws' := [(s0, .inr (1, [.int p0, .ref w0])), (w0, .inl (cL, N0, .inr (.inl f0))), (s1, .inr (1, [.int p1, .ref w1])), (w1, .inl (cL, N1, .inr (.inl f1)))]) [0, 1, 2, 3] (by decide) rfl
    refine lv_if_eq hx hb dX1_include_11 rfl (fun h5 => ?_) (fun h5 => ?_)
    · rw [if_pos h5] at hf
      refine lv_lconst (v := 0) hx hb dX1_include_19 (by decide) ?_
      refine lv_lstore_n (lv' := [(2, .long (0 : Int64)), (0, .ref s0), (1, .ref s1)]) hx hb dX1_include_20 rfl hl (by decide) rfl (fun ls hl => ?_)
      refine lv_iconst (v := 0) hx hb dX1_include_21 (by decide) ?_
      refine lv_istore (lv' := [(4, .int (0 : Int32)), (2, .long (0 : Int64)), (0, .ref s0), (1, .ref s1)]) hx hb dX1_include_22 hl (by decide) rfl (fun ls hl => ?_)
      exact B24 9 ls _ _ (0 : Int64) (0 : Int32) f0 hf (lv_sub hl [2, 3, 1, 0] rfl) hP hD hS
    · rw [if_neg h5] at hf
      exact B14 ls _ _ f0 hf (lv_sub hl [0] rfl) hP hD hS
set_option maxHeartbeats 4000000 in
set_option maxRecDepth 100000 in
theorem c_f_sumProduct (l : Launch) (dC : Nat → ClassId) (dI : Nat → Nat → Nat) (s0 : Nat) (o0 : Nat) (o1 : Nat) (w0 : Nat) (cL : ClassId) (sz : Nat) (p0 : Int32) (N0 : Nat) (f0 : Nat → Int64) (nt0 : Int32) (ng0 : Int32) (mg0 : Int64) (ex0 : Int32) (nt1 : Int32) (ng1 : Int32) (mg1 : Int64) (ex1 : Int32) (r : (Nat → Int64)) (hf : f_sumProduct p0 N0 f0 nt0 ng0 mg0 ex0 nt1 ng1 mg1 ex1 = some r) : Met l yX1_setProduct tqw_X1_setProduct ({ frames := 2, cells := 0, slots := 0, locals := 41 }) (va_Pc [.ref s0, .ref o0, .ref o1] (fun U => U.heap.size = sz ∧ va_P (dC, dI) tqCl [(s0, .inr (1, [.int p0, .ref w0])), (w0, .inl (cL, N0, .inr (.inl f0))), (o0, .inr (0, [.int nt0, .int ng0, .long mg0, .int ex0])), (o1, .inr (0, [.int nt1, .int ng1, .long mg1, .int ex1]))] U.heap ∧ va_K (dC, dI) tqCl [(cL, .long)] U ∧ va_D (fun _ => True) [(s0, .inr (1, [.int p0, .ref w0])), (w0, .inl (cL, N0, .inr (.inl f0))), (o0, .inr (0, [.int nt0, .int ng0, .long mg0, .int ex0])), (o1, .inr (0, [.int nt1, .int ng1, .long mg1, .int ex1]))] ∧ tqN U)) (va_Qv (fun (_ : Unit) => True) (fun (_ : Unit) (t : State) => va_P (dC, dI) tqCl [(s0, .inr (1, [.int p0, .ref w0])), (w0, .inl (cL, N0, .inr (.inl r))), (o0, .inr (0, [.int nt0, .int ng0, .long mg0, .int ex0])), (o1, .inr (0, [.int nt1, .int ng1, .long mg1, .int ex1]))] t.heap ∧ va_K (dC, dI) tqCl [(cL, .long)] t ∧ va_D (va_A [(s0, .inr (1, [.int p0, .ref w0])), (w0, .inl (cL, N0, .inr (.inl f0))), (o0, .inr (0, [.int nt0, .int ng0, .long mg0, .int ex0])), (o1, .inr (0, [.int nt1, .int ng1, .long mg1, .int ex1]))] sz) [(s0, .inr (1, [.int p0, .ref w0])), (w0, .inl (cL, N0, .inr (.inl r))), (o0, .inr (0, [.int nt0, .int ng0, .long mg0, .int ex0])), (o1, .inr (0, [.int nt1, .int ng1, .long mg1, .int ex1]))]) (va_A [(s0, .inr (1, [.int p0, .ref w0])), (w0, .inl (cL, N0, .inr (.inl f0))), (o0, .inr (0, [.int nt0, .int ng0, .long mg0, .int ex0])), (o1, .inr (0, [.int nt1, .int ng1, .long mg1, .int ex1]))] sz)) 0 0 (va_A [(s0, .inr (1, [.int p0, .ref w0])), (w0, .inl (cL, N0, .inr (.inl f0))), (o0, .inr (0, [.int nt0, .int ng0, .long mg0, .int ex0])), (o1, .inr (0, [.int nt1, .int ng1, .long mg1, .int ex1]))] sz) := by
  refine Met.ofW (cc := cX1_setProduct) (maxL := 3) (ret := none) (by decide) rfl ?_
  intro p e s m args below meth c s₁ B hml hv
  obtain ⟨rfl, hsz, hP, hK, hD0, hN⟩ := hv
  have hx := B.exec
  have hb := B.bytes
  have hr := B.returns
  have hts := atoms_spec (ws := tqw_X1_setProduct) B.pre
  have hww : ∀ w ∈ tqW, w.before _ s = true := fun w h => hts w (List.mem_cons_of_mem _ h)
  have hown : s.vm.findClass RX1 = some m.cls := findClass_of_methodNamed B.named
  have hlocks := B.notSynchronized
  subst hsz
  have hD := hD0.self (sz := s.heap.size)
  generalize hAe : va_A [(s0, .inr (1, [.int p0, .ref w0])), (w0, .inl (cL, N0, .inr (.inl f0))), (o0, .inr (0, [.int nt0, .int ng0, .long mg0, .int ex0])), (o1, .inr (0, [.int nt1, .int ng1, .long mg1, .int ex1]))] s.heap.size = A at hD ⊢
  have hA : ∀ q : Nat, s.heap.size ≤ q → A q := fun q h => by rw [← hAe]; exact Or.inr h
  have hS : va_S A s.heap s.heap [] := va_S.rf
  have hP : va_P (dC, dI) tqCl [(s0, .inr (1, [.int p0, .ref w0])), (w0, .inl (cL, N0, .inr (.inl f0))), (o0, .inr (0, [.int nt0, .int ng0, .long mg0, .int ex0])), (o1, .inr (0, [.int nt1, .int ng1, .long mg1, .int ex1]))] s.heap := hP
  have hl := lv_entry ([.ref s0, .ref o0, .ref o1]) (n := 3) (Nat.le_of_ble_eq_true rfl)
  rw [lg_entry_eq]
  generalize (lg_sl ([.ref s0, .ref o0, .ref o1]) ++ List.replicate (3 - (lg_sl ([.ref s0, .ref o0, .ref o1])).length) Slot.unset).toArray = ls at hl ⊢
  have hl : lv_has ls 3 [(0, .ref s0), (1, .ref o0), (2, .ref o1)] := hl
  have B14 : ∀ (ls : Array Slot) (H : Heap) (locs : List Loc) (f0 : Nat → Int64), f_sumProduct_b14 N0 f0 = some r → lv_has ls 3 [(0, .ref s0)] → va_P (dC, dI) tqCl [(s0, .inr (1, [.int p0, .ref w0])), (w0, .inl (cL, N0, .inr (.inl f0))), (o0, .inr (0, [.int nt0, .int ng0, .long mg0, .int ex0])), (o1, .inr (0, [.int nt1, .int ng1, .long mg1, .int ex1]))] H → va_D A [(s0, .inr (1, [.int p0, .ref w0])), (w0, .inl (cL, N0, .inr (.inl f0))), (o0, .inr (0, [.int nt0, .int ng0, .long mg0, .int ex0])), (o1, .inr (0, [.int nt1, .int ng1, .long mg1, .int ex1]))] → va_S A s.heap H locs → W p l e ({ frames := 2, cells := 0, slots := 0, locals := 41 }) s m ([.ref s0, .ref o0, .ref o1] : List Value).toArray below meth c H locs 0 0 (MQ below (va_Qv (fun (_ : Unit) => True) (fun (_ : Unit) (t : State) => va_P (dC, dI) tqCl [(s0, .inr (1, [.int p0, .ref w0])), (w0, .inl (cL, N0, .inr (.inl r))), (o0, .inr (0, [.int nt0, .int ng0, .long mg0, .int ex0])), (o1, .inr (0, [.int nt1, .int ng1, .long mg1, .int ex1]))] t.heap ∧ va_K (dC, dI) tqCl [(cL, .long)] t ∧ va_D (A) [(s0, .inr (1, [.int p0, .ref w0])), (w0, .inl (cL, N0, .inr (.inl r))), (o0, .inr (0, [.int nt0, .int ng0, .long mg0, .int ex0])), (o1, .inr (0, [.int nt1, .int ng1, .long mg1, .int ex1]))]) (A)) ([.ref s0, .ref o0, .ref o1] : List Value).toArray s 0 0 A) (F0 m 14 ls []) := by
    try clear hf
    intro ls H locs f0 hf hl hP hD hS
    unfold f_sumProduct_b14 at hf
    refine lv_aload_n hx hb dX1_setProduct_14 rfl (lv_at hl 0 rfl) ?_
    obtain ⟨f02, hu, hf⟩ := tq_bd_some hf
    have hPc := hP.sub (ws' := [(s0, .inr (1, [.int p0, .ref w0])), (w0, .inl (cL, N0, .inr (.inl f0)))]) [0, 1] rfl
    have hDc := hD.sub (ws' := [(s0, .inr (1, [.int p0, .ref w0])), (w0, .inl (cL, N0, .inr (.inl f0)))]) [0, 1] (by decide) rfl
    have hKc := hK.sub (tys' := [(cL, .long)]) [0] rfl
    have hFc := va_free (wc := [(s0, .inr (1, [.int p0, .ref w0])), (w0, .inl (cL, N0, .inr (.inl f0)))]) hD hS hA [0, 1] rfl
    refine va_callv (va_runV (As := []) (rest := []) ⟨hx, hb, hml, hown, hww⟩ (c_f_setNot l dC dI s0 w0 cL H.size p0 N0 f0 f02 hu) (cwV 0 hww (tq_gV tqt_166 tqt_167 tqt_168 tqt_33 tqt_169) rfl rfl rfl (by decide +kernel) ⟨Nat.le_of_ble_eq_true rfl, Nat.le_of_ble_eq_true rfl⟩) ⟨fun a U g mk q => by obtain ⟨q0, q1, qP, qK, qD, qN⟩ := q; exact ⟨q0, q1, qP, va_K.moved (u := U) (U := U.calling g mk a) (Vm.Alike.refl U.vm) qK, qD, tqN_same (u := U) (U := U.calling g mk a) rfl qN⟩, va_recv hK hP (ci := 1) rfl (q0 := 0) rfl, fun U hU hW => ⟨rfl, by rw [hU], by rw [hU]; exact hPc, va_K.moved hW.alike hKc, hDc.weaken (fun _ _ _ _ => trivial), tqN_warm hW hN⟩⟩ rfl rfl hl.1 rfl (lv_room (Nat.le_of_ble_eq_true rfl)) dX1_setProduct_15 ⟨Nat.zero_le _, Nat.zero_le _⟩) hS (fun q _ h => hFc q h) hFc (fun u0 t H1 locs ht hvm hpost hB hz1 hk1 hS => ?_)
    obtain ⟨hP1, hK1, hD1⟩ := hB
    rw [ht] at hP1
    obtain ⟨hP, hD⟩ := va_join (wr := [(o0, .inr (0, [.int nt0, .int ng0, .long mg0, .int ex0])), (o1, .inr (0, [.int nt1, .int ng1, .long mg1, .int ex1]))]) (w1 := [(s0, .inr (1, [.int p0, .ref w0])), (w0, .inl (cL, N0, .inr (.inl f02)))]) hP hD [0, 1] [2, 3] rfl rfl (by decide) (by decide) hk1 hFc hP1 hD1
    generalize H1 = H at hP hS ⊢
    have hP := hP.sub (ws' := [(s0, .inr (1, [.int p0, .ref w0])), (w0, .inl (cL, N0, .inr (.inl f02))), (o0, .inr (0, [.int nt0, .int ng0, .long mg0, .int ex0])), (o1, .inr (0, [.int nt1, .int ng1, .long mg1, .int ex1]))]) [2, 3, 0, 1] rfl
    have hD := hD.sub (ws' := [(s0, .inr (1, [.int p0, .ref w0])), (w0, .inl (cL, N0, .inr (.inl f02))), (o0, .inr (0, [.int nt0, .int ng0, .long mg0, .int ex0])), (o1, .inr (0, [.int nt1, .int ng1, .long mg1, .int ex1]))]) [2, 3, 0, 1] (by decide) rfl
    have hf := Option.some.inj hf
    subst hf
    exact W.vret hx hb hr (fun t ht hW => ⟨⟨(), rfl, trivial, by rw [ht]; exact hP, va_K.moved hW.alike hK, hD⟩, hS.F ht⟩) hS.2.2 dX1_setProduct_18
  unfold f_sumProduct at hf
  refine lv_aload_n hx hb dX1_setProduct_0 rfl (lv_at hl 1 rfl) ?_
  refine va_get (D := (dC, dI)) (ci := 0) (v := .int nt0) (C := RX0) (T := TX0) (N := 4) hx hb hww tqinX0 hown hK hP 2 rfl rfl 0 (by decide) (hww _ tqt_75) (fun _ h9 => h9) rfl dX1_setProduct_1 ?_
  refine lv_if_ne hx hb dX1_setProduct_4 rfl (fun h1 => ?_) (fun h1 => ?_)
  · rw [if_pos h1] at hf
    exact B14 ls _ _ f0 hf (lv_sub hl [0] rfl) hP hD hS
  · rw [if_neg (fun q : ¬ nt0 = 0 => q h1)] at hf
    refine lv_aload_n hx hb dX1_setProduct_7 rfl (lv_at hl 2 rfl) ?_
    refine va_get (D := (dC, dI)) (ci := 0) (v := .int nt1) (C := RX0) (T := TX0) (N := 4) hx hb hww tqinX0 hown hK hP 3 rfl rfl 0 (by decide) (hww _ tqt_75) (fun _ h9 => h9) rfl dX1_setProduct_8 ?_
    refine lv_if_eq hx hb dX1_setProduct_11 rfl (fun h3 => ?_) (fun h3 => ?_)
    · rw [if_pos h3] at hf
      refine lv_aload_n hx hb dX1_setProduct_19 rfl (lv_at hl 0 rfl) ?_
      obtain ⟨f04, hu, hf⟩ := tq_bd_some hf
      have hPc := hP.sub (ws' := [(s0, .inr (1, [.int p0, .ref w0])), (w0, .inl (cL, N0, .inr (.inl f0)))]) [0, 1] rfl
      have hDc := hD.sub (ws' := [(s0, .inr (1, [.int p0, .ref w0])), (w0, .inl (cL, N0, .inr (.inl f0)))]) [0, 1] (by decide) rfl
      have hKc := hK.sub (tys' := [(cL, .long)]) [0] rfl
      have hFc := va_free (wc := [(s0, .inr (1, [.int p0, .ref w0])), (w0, .inl (cL, N0, .inr (.inl f0)))]) hD hS hA [0, 1] rfl
      refine va_callv (va_runV (As := []) (rest := []) ⟨hx, hb, hml, hown, hww⟩ (c_f_setZero l dC dI s0 w0 cL s.heap.size p0 N0 f0 f04 hu) (cwV 0 hww (tq_gV tqt_170 tqt_171 tqt_172 tqt_33 tqt_173) rfl rfl rfl (by decide +kernel) ⟨Nat.le_of_ble_eq_true rfl, Nat.le_of_ble_eq_true rfl⟩) ⟨fun a U g mk q => by obtain ⟨q0, q1, qP, qK, qD, qN⟩ := q; exact ⟨q0, q1, qP, va_K.moved (u := U) (U := U.calling g mk a) (Vm.Alike.refl U.vm) qK, qD, tqN_same (u := U) (U := U.calling g mk a) rfl qN⟩, va_recv hK hP (ci := 1) rfl (q0 := 0) rfl, fun U hU hW => ⟨rfl, by rw [hU], by rw [hU]; exact hPc, va_K.moved hW.alike hKc, hDc.weaken (fun _ _ _ _ => trivial), tqN_warm hW hN⟩⟩ rfl rfl hl.1 rfl (lv_room (Nat.le_of_ble_eq_true rfl)) dX1_setProduct_20 ⟨Nat.zero_le _, Nat.zero_le _⟩) hS (fun q _ h => hFc q h) hFc (fun u0 t H1 locs ht hvm hpost hB hz1 hk1 hS => ?_)
      obtain ⟨hP1, hK1, hD1⟩ := hB
      rw [ht] at hP1
      obtain ⟨hP, hD⟩ := va_join (wr := [(o0, .inr (0, [.int nt0, .int ng0, .long mg0, .int ex0])), (o1, .inr (0, [.int nt1, .int ng1, .long mg1, .int ex1]))]) (w1 := [(s0, .inr (1, [.int p0, .ref w0])), (w0, .inl (cL, N0, .inr (.inl f04)))]) hP hD [0, 1] [2, 3] rfl rfl (by decide) (by decide) hk1 hFc hP1 hD1
      generalize H1 = H at hP hS ⊢
      have hP := hP.sub (ws' := [(s0, .inr (1, [.int p0, .ref w0])), (w0, .inl (cL, N0, .inr (.inl f04))), (o0, .inr (0, [.int nt0, .int ng0, .long mg0, .int ex0])), (o1, .inr (0, [.int nt1, .int ng1, .long mg1, .int ex1]))]) [2, 3, 0, 1] rfl
      have hD := hD.sub (ws' := [(s0, .inr (1, [.int p0, .ref w0])), (w0, .inl (cL, N0, .inr (.inl f04))), (o0, .inr (0, [.int nt0, .int ng0, .long mg0, .int ex0])), (o1, .inr (0, [.int nt1, .int ng1, .long mg1, .int ex1]))]) [2, 3, 0, 1] (by decide) rfl
      refine lv_aload_n hx hb dX1_setProduct_23 rfl (lv_at hl 0 rfl) ?_
      refine lv_aload_n hx hb dX1_setProduct_24 rfl (lv_at hl 1 rfl) ?_
      refine va_get (D := (dC, dI)) (ci := 0) (v := .long mg0) (C := RX0) (T := TX0) (N := 4) hx hb hww tqinX0 hown hK hP 2 rfl rfl 2 (by decide) (hww _ tqt_81) (fun _ h9 => h9) rfl dX1_setProduct_25 ?_
      refine lv_aload_n hx hb dX1_setProduct_28 rfl (lv_at hl 2 rfl) ?_
      refine va_get (D := (dC, dI)) (ci := 0) (v := .long mg1) (C := RX0) (T := TX0) (N := 4) hx hb hww tqinX0 hown hK hP 3 rfl rfl 2 (by decide) (hww _ tqt_81) (fun _ h9 => h9) rfl dX1_setProduct_29 ?_
      refine lv_lmul hx hb dX1_setProduct_32 ?_
      refine lv_aload_n hx hb dX1_setProduct_33 rfl (lv_at hl 1 rfl) ?_
      refine va_get (D := (dC, dI)) (ci := 0) (v := .int ex0) (C := RX0) (T := TX0) (N := 4) hx hb hww tqinX0 hown hK hP 2 rfl rfl 3 (by decide) (hww _ tqt_84) (fun _ h9 => h9) rfl dX1_setProduct_34 ?_
      refine lv_aload_n hx hb dX1_setProduct_37 rfl (lv_at hl 2 rfl) ?_
      refine va_get (D := (dC, dI)) (ci := 0) (v := .int ex1) (C := RX0) (T := TX0) (N := 4) hx hb hww tqinX0 hown hK hP 3 rfl rfl 3 (by decide) (hww _ tqt_84) (fun _ h9 => h9) rfl dX1_setProduct_38 ?_
      refine lv_iadd hx hb dX1_setProduct_41 ?_
      refine lv_aload_n hx hb dX1_setProduct_42 rfl (lv_at hl 0 rfl) ?_
      refine va_get (D := (dC, dI)) (ci := 1) (v := .int p0) (C := RX1) (T := TX1) (N := 2) hx hb hww tqinX1 hown hK hP 0 rfl rfl 0 (by decide) (hww _ tqt_57) (fun _ h9 => h9) rfl dX1_setProduct_43 ?_
      refine lv_iadd hx hb dX1_setProduct_46 ?_
      obtain ⟨f05, hu, hf⟩ := tq_bd_some hf
      have hPc := hP.sub (ws' := [(s0, .inr (1, [.int p0, .ref w0])), (w0, .inl (cL, N0, .inr (.inl f04)))]) [0, 1] rfl
      have hDc := hD.sub (ws' := [(s0, .inr (1, [.int p0, .ref w0])), (w0, .inl (cL, N0, .inr (.inl f04)))]) [0, 1] (by decide) rfl
      have hKc := hK.sub (tys' := [(cL, .long)]) [0] rfl
      have hFc := va_free (wc := [(s0, .inr (1, [.int p0, .ref w0])), (w0, .inl (cL, N0, .inr (.inl f04)))]) hD hS hA [0, 1] rfl
      refine va_callv (va_runV (As := [.long (mg0 * mg1), .int ((ex0 + ex1) + p0)]) (rest := []) ⟨hx, hb, hml, hown, hww⟩ (c_f_setBits l dC dI s0 w0 cL H.size (mg0 * mg1) ((ex0 + ex1) + p0) p0 N0 f04 f05 hu) (cwV 2 hww (tq_gV tqt_175 tqt_177 tqt_3 tqt_33 tqt_178) rfl rfl rfl (by decide +kernel) ⟨Nat.le_of_ble_eq_true rfl, Nat.le_of_ble_eq_true rfl⟩) ⟨fun a U g mk q => by obtain ⟨q0, q1, qP, qK, qD, qN⟩ := q; exact ⟨q0, q1, qP, va_K.moved (u := U) (U := U.calling g mk a) (Vm.Alike.refl U.vm) qK, qD, tqN_same (u := U) (U := U.calling g mk a) rfl qN⟩, va_recv hK hP (ci := 1) rfl (q0 := 0) rfl, fun U hU hW => ⟨rfl, by rw [hU], by rw [hU]; exact hPc, va_K.moved hW.alike hKc, hDc.weaken (fun _ _ _ _ => trivial), tqN_warm hW hN⟩⟩ rfl rfl hl.1 rfl (lv_room (Nat.le_of_ble_eq_true rfl)) dX1_setProduct_47 ⟨Nat.zero_le _, Nat.zero_le _⟩) hS (fun q _ h => hFc q h) hFc (fun u0 t H1 locs ht hvm hpost hB hz1 hk1 hS => ?_)
      obtain ⟨hP1, hK1, hD1⟩ := hB
      rw [ht] at hP1
      obtain ⟨hP, hD⟩ := va_join (wr := [(o0, .inr (0, [.int nt0, .int ng0, .long mg0, .int ex0])), (o1, .inr (0, [.int nt1, .int ng1, .long mg1, .int ex1]))]) (w1 := [(s0, .inr (1, [.int p0, .ref w0])), (w0, .inl (cL, N0, .inr (.inl f05)))]) hP hD [0, 1] [2, 3] rfl rfl (by decide) (by decide) hk1 hFc hP1 hD1
      generalize H1 = H at hP hS ⊢
      have hP := hP.sub (ws' := [(s0, .inr (1, [.int p0, .ref w0])), (w0, .inl (cL, N0, .inr (.inl f05))), (o0, .inr (0, [.int nt0, .int ng0, .long mg0, .int ex0])), (o1, .inr (0, [.int nt1, .int ng1, .long mg1, .int ex1]))]) [2, 3, 0, 1] rfl
      have hD := hD.sub (ws' := [(s0, .inr (1, [.int p0, .ref w0])), (w0, .inl (cL, N0, .inr (.inl f05))), (o0, .inr (0, [.int nt0, .int ng0, .long mg0, .int ex0])), (o1, .inr (0, [.int nt1, .int ng1, .long mg1, .int ex1]))]) [2, 3, 0, 1] (by decide) rfl
      refine lv_aload_n hx hb dX1_setProduct_50 rfl (lv_at hl 1 rfl) ?_
      refine va_get (D := (dC, dI)) (ci := 0) (v := .int ng0) (C := RX0) (T := TX0) (N := 4) hx hb hww tqinX0 hown hK hP 2 rfl rfl 1 (by decide) (hww _ tqt_78) (fun _ h9 => h9) rfl dX1_setProduct_51 ?_
      refine lv_aload_n hx hb dX1_setProduct_54 rfl (lv_at hl 2 rfl) ?_
      refine va_get (D := (dC, dI)) (ci := 0) (v := .int ng1) (C := RX0) (T := TX0) (N := 4) hx hb hww tqinX0 hown hK hP 3 rfl rfl 1 (by decide) (hww _ tqt_78) (fun _ h9 => h9) rfl dX1_setProduct_55 ?_
      refine lv_icmp_eq hx hb dX1_setProduct_58 rfl (fun h6 => ?_) (fun h6 => ?_)
      · rw [if_pos h6] at hf
        have hf := Option.some.inj hf
        subst hf
        exact W.vret hx hb hr (fun t ht hW => ⟨⟨(), rfl, trivial, by rw [ht]; exact hP, va_K.moved hW.alike hK, hD⟩, hS.F ht⟩) hS.2.2 dX1_setProduct_65
      · rw [if_neg h6] at hf
        refine lv_aload_n hx hb dX1_setProduct_61 rfl (lv_at hl 0 rfl) ?_
        obtain ⟨f07, hu, hf⟩ := tq_bd_some hf
        have hPc := hP.sub (ws' := [(s0, .inr (1, [.int p0, .ref w0])), (w0, .inl (cL, N0, .inr (.inl f05)))]) [0, 1] rfl
        have hDc := hD.sub (ws' := [(s0, .inr (1, [.int p0, .ref w0])), (w0, .inl (cL, N0, .inr (.inl f05)))]) [0, 1] (by decide) rfl
        have hKc := hK.sub (tys' := [(cL, .long)]) [0] rfl
        have hFc := va_free (wc := [(s0, .inr (1, [.int p0, .ref w0])), (w0, .inl (cL, N0, .inr (.inl f05)))]) hD hS hA [0, 1] rfl
        refine va_callv (va_runV (As := []) (rest := []) ⟨hx, hb, hml, hown, hww⟩ (c_f_flip l dC dI s0 w0 cL H.size p0 N0 f05 f07 hu) (cwV 0 hww (tq_gV tqt_179 tqt_180 tqt_181 tqt_33 tqt_182) rfl rfl rfl (by decide +kernel) ⟨Nat.le_of_ble_eq_true rfl, Nat.le_of_ble_eq_true rfl⟩) ⟨fun a U g mk q => by obtain ⟨q0, q1, qP, qK, qD, qN⟩ := q; exact ⟨q0, q1, qP, va_K.moved (u := U) (U := U.calling g mk a) (Vm.Alike.refl U.vm) qK, qD, tqN_same (u := U) (U := U.calling g mk a) rfl qN⟩, va_recv hK hP (ci := 1) rfl (q0 := 0) rfl, fun U hU hW => ⟨rfl, by rw [hU], by rw [hU]; exact hPc, va_K.moved hW.alike hKc, hDc.weaken (fun _ _ _ _ => trivial), tqN_warm hW hN⟩⟩ rfl rfl hl.1 rfl (lv_room (Nat.le_of_ble_eq_true rfl)) dX1_setProduct_62 ⟨Nat.zero_le _, Nat.zero_le _⟩) hS (fun q _ h => hFc q h) hFc (fun u0 t H1 locs ht hvm hpost hB hz1 hk1 hS => ?_)
        obtain ⟨hP1, hK1, hD1⟩ := hB
        rw [ht] at hP1
        obtain ⟨hP, hD⟩ := va_join (wr := [(o0, .inr (0, [.int nt0, .int ng0, .long mg0, .int ex0])), (o1, .inr (0, [.int nt1, .int ng1, .long mg1, .int ex1]))]) (w1 := [(s0, .inr (1, [.int p0, .ref w0])), (w0, .inl (cL, N0, .inr (.inl f07)))]) hP hD [0, 1] [2, 3] rfl rfl (by decide) (by decide) hk1 hFc hP1 hD1
        generalize H1 = H at hP hS ⊢
        have hP := hP.sub (ws' := [(s0, .inr (1, [.int p0, .ref w0])), (w0, .inl (cL, N0, .inr (.inl f07))), (o0, .inr (0, [.int nt0, .int ng0, .long mg0, .int ex0])), (o1, .inr (0, [.int nt1, .int ng1, .long mg1, .int ex1]))]) [2, 3, 0, 1] rfl
        have hD := hD.sub (ws' := [(s0, .inr (1, [.int p0, .ref w0])), (w0, .inl (cL, N0, .inr (.inl f07))), (o0, .inr (0, [.int nt0, .int ng0, .long mg0, .int ex0])), (o1, .inr (0, [.int nt1, .int ng1, .long mg1, .int ex1]))]) [2, 3, 0, 1] (by decide) rfl
        have hf := Option.some.inj hf
        subst hf
        exact W.vret hx hb hr (fun t ht hW => ⟨⟨(), rfl, trivial, by rw [ht]; exact hP, va_K.moved hW.alike hK, hD⟩, hS.F ht⟩) hS.2.2 dX1_setProduct_65
    · rw [if_neg h3] at hf
      exact B14 ls _ _ f0 hf (lv_sub hl [0] rfl) hP hD hS
