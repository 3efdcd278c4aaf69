set_option maxHeartbeats 4000000 in
set_option maxRecDepth 100000 in
theorem c_m_sizeOf (l : Launch) (dC : Nat → ClassId) (dI : Nat → Nat → Nat) (sz : Nat) (width : Int32) (r : Int32) (hf : m_sizeOf width = r) : Met l yM_sizeOf tqw_M_sizeOf ({ frames := 0, cells := 0, slots := 0, locals := 0 }) (va_Pc [.int width] (fun U => U.heap.size = sz ∧ va_P (dC, dI) tqCl [] U.heap ∧ va_K (dC, dI) tqCl [] U ∧ va_D (fun _ => True) [] ∧ tqN U)) (va_Qi (fun (a : Int32) (_ : Unit) => a = r) (fun (_ : Unit) (t : State) => va_P (dC, dI) tqCl [] t.heap ∧ va_K (dC, dI) tqCl [] t ∧ va_D (va_A [] sz) []) (va_A [] sz)) 0 0 (va_A [] sz) := by
  refine Met.ofW (cc := cM_sizeOf) (maxL := 1) (ret := (some .int)) (by decide) rfl ?_
  intro p e s m args below meth c s₁ B hml hv
  obtain ⟨rfl, hsz, hP, hK, hD0, hN⟩ := hv
  have hx := B.exec
  have hb := B.bytes
  have hr := B.returns
  have hts := atoms_spec (ws := tqw_M_sizeOf) B.pre
  have hww : ∀ w ∈ tqW, w.before _ s = true := fun w h => hts w (List.mem_cons_of_mem _ h)
  have hown : s.vm.findClass RM = some m.cls := findClass_of_methodNamed B.named
  have hlocks := B.notSynchronized
  subst hsz
  have hD := hD0.self (sz := s.heap.size)
  generalize hAe : va_A [] s.heap.size = A at hD ⊢
  have hA : ∀ q : Nat, s.heap.size ≤ q → A q := fun q h => by rw [← hAe]; exact Or.inr h
  have hS : va_S A s.heap s.heap [] := va_S.rf
  have hP : va_P (dC, dI) tqCl [] s.heap := hP
  have hl := lv_entry ([.int width]) (n := 1) (Nat.le_of_ble_eq_true rfl)
  rw [lg_entry_eq]
  generalize (lg_sl ([.int width]) ++ List.replicate (1 - (lg_sl ([.int width])).length) Slot.unset).toArray = ls at hl ⊢
  have hl : lv_has ls 1 [(0, .int width)] := hl
  unfold m_sizeOf at hf
  refine lv_iload_n hx hb dM_sizeOf_0 rfl (lv_at hl 0 rfl) ?_
  refine lv_if_ne hx hb dM_sizeOf_1 rfl (fun h1 => ?_) (fun h1 => ?_)
  · rw [if_pos h1] at hf
    refine lv_iload_n hx hb dM_sizeOf_9 rfl (lv_at hl 0 rfl) ?_
    refine lv_iconst (v := 1) hx hb dM_sizeOf_10 (by decide) ?_
    refine lv_icmp_ne hx hb dM_sizeOf_11 rfl (fun h2 => ?_) (fun h2 => ?_)
    · rw [if_pos h2] at hf
      refine lv_bipush (v := 32) hx hb dM_sizeOf_19 (by decide) ?_
      subst hf
      exact W.iret (v := (32 : Int32)) hx hb hr (fun t ht hW => ⟨⟨(32 : Int32), (), rfl, rfl, by rw [ht]; exact hP, va_K.moved hW.alike hK, hD⟩, hS.F ht⟩) hS.2.2 dM_sizeOf_21
    · rw [if_neg (fun q : ¬ width = (1 : Int32) => q h2)] at hf
      refine lv_bipush (v := 16) hx hb dM_sizeOf_14 (by decide) ?_
      refine lv_goto hx hb dM_sizeOf_16 rfl ?_
      subst hf
      exact W.iret (v := (16 : Int32)) hx hb hr (fun t ht hW => ⟨⟨(16 : Int32), (), rfl, rfl, by rw [ht]; exact hP, va_K.moved hW.alike hK, hD⟩, hS.F ht⟩) hS.2.2 dM_sizeOf_21
  · rw [if_neg (fun q : ¬ width = 0 => q h1)] at hf
    refine lv_bipush (v := 8) hx hb dM_sizeOf_4 (by decide) ?_
    refine lv_goto hx hb dM_sizeOf_6 rfl ?_
    subst hf
    exact W.iret (v := (8 : Int32)) hx hb hr (fun t ht hW => ⟨⟨(8 : Int32), (), rfl, rfl, by rw [ht]; exact hP, va_K.moved hW.alike hK, hD⟩, hS.F ht⟩) hS.2.2 dM_sizeOf_21
set_option maxHeartbeats 4000000 in
set_option maxRecDepth 100000 in
theorem c_m_not (l : Launch) (dC : Nat → ClassId) (dI : Nat → Nat → Nat) (sz : Nat) (size : Int32) (r : Int32) (hf : m_not size = r) : Met l yM_not tqw_M_not ({ frames := 0, cells := 0, slots := 0, locals := 0 }) (va_Pc [.int size] (fun U => U.heap.size = sz ∧ va_P (dC, dI) tqCl [] U.heap ∧ va_K (dC, dI) tqCl [] U ∧ va_D (fun _ => True) [] ∧ tqN U)) (va_Qi (fun (a : Int32) (_ : Unit) => a = r) (fun (_ : Unit) (t : State) => va_P (dC, dI) tqCl [] t.heap ∧ va_K (dC, dI) tqCl [] t ∧ va_D (va_A [] sz) []) (va_A [] sz)) 0 0 (va_A [] sz) := by
  refine Met.ofW (cc := cM_not) (maxL := 1) (ret := (some .int)) (by decide) rfl ?_
  intro p e s m args below meth c s₁ B hml hv
  obtain ⟨rfl, hsz, hP, hK, hD0, hN⟩ := hv
  have hx := B.exec
  have hb := B.bytes
  have hr := B.returns
  have hts := atoms_spec (ws := tqw_M_not) B.pre
  have hww : ∀ w ∈ tqW, w.before _ s = true := fun w h => hts w (List.mem_cons_of_mem _ h)
  have hown : s.vm.findClass RM = some m.cls := findClass_of_methodNamed B.named
  have hlocks := B.notSynchronized
  subst hsz
  have hD := hD0.self (sz := s.heap.size)
  generalize hAe : va_A [] s.heap.size = A at hD ⊢
  have hA : ∀ q : Nat, s.heap.size ≤ q → A q := fun q h => by rw [← hAe]; exact Or.inr h
  have hS : va_S A s.heap s.heap [] := va_S.rf
  have hP : va_P (dC, dI) tqCl [] s.heap := hP
  have hl := lv_entry ([.int size]) (n := 1) (Nat.le_of_ble_eq_true rfl)
  rw [lg_entry_eq]
  generalize (lg_sl ([.int size]) ++ List.replicate (1 - (lg_sl ([.int size])).length) Slot.unset).toArray = ls at hl ⊢
  have hl : lv_has ls 1 [(0, .int size)] := hl
  unfold m_not at hf
  refine lv_iconst (v := -1) hx hb dM_not_0 (by decide) ?_
  refine lv_iload_n hx hb dM_not_1 rfl (lv_at hl 0 rfl) ?_
  refine lv_iconst (v := 1) hx hb dM_not_2 (by decide) ?_
  refine lv_isub hx hb dM_not_3 ?_
  refine lv_ishl hx hb dM_not_4 ?_
  subst hf
  exact W.iret (v := (-1 : Int32) <<< ((size - (1 : Int32)) &&& 31)) hx hb hr (fun t ht hW => ⟨⟨(-1 : Int32) <<< ((size - (1 : Int32)) &&& 31), (), rfl, rfl, by rw [ht]; exact hP, va_K.moved hW.alike hK, hD⟩, hS.F ht⟩) hS.2.2 dM_not_5
set_option maxHeartbeats 4000000 in
set_option maxRecDepth 100000 in
theorem c_m_isSum (l : Launch) (dC : Nat → ClassId) (dI : Nat → Nat → Nat) (sz : Nat) (q : Int32) (r : Int32) (hf : m_isSum q = r) : Met l yM_isSum tqw_M_isSum ({ frames := 0, cells := 0, slots := 0, locals := 0 }) (va_Pc [.int q] (fun U => U.heap.size = sz ∧ va_P (dC, dI) tqCl [] U.heap ∧ va_K (dC, dI) tqCl [] U ∧ va_D (fun _ => True) [] ∧ tqN U)) (va_Qi (fun (a : Int32) (_ : Unit) => a = r) (fun (_ : Unit) (t : State) => va_P (dC, dI) tqCl [] t.heap ∧ va_K (dC, dI) tqCl [] t ∧ va_D (va_A [] sz) []) (va_A [] sz)) 0 0 (va_A [] sz) := by
  refine Met.ofW (cc := cM_isSum) (maxL := 1) (ret := (some .boolean)) (by decide) rfl ?_
  intro p e s m args below meth c s₁ B hml hv
  obtain ⟨rfl, hsz, hP, hK, hD0, hN⟩ := hv
  have hx := B.exec
  have hb := B.bytes
  have hr := B.returns
  have hts := atoms_spec (ws := tqw_M_isSum) B.pre
  have hww : ∀ w ∈ tqW, w.before _ s = true := fun w h => hts w (List.mem_cons_of_mem _ h)
  have hown : s.vm.findClass RM = some m.cls := findClass_of_methodNamed B.named
  have hlocks := B.notSynchronized
  subst hsz
  have hD := hD0.self (sz := s.heap.size)
  generalize hAe : va_A [] s.heap.size = A at hD ⊢
  have hA : ∀ q : Nat, s.heap.size ≤ q → A q := fun q h => by rw [← hAe]; exact Or.inr h
  have hS : va_S A s.heap s.heap [] := va_S.rf
  have hP : va_P (dC, dI) tqCl [] s.heap := hP
  have hl := lv_entry ([.int q]) (n := 1) (Nat.le_of_ble_eq_true rfl)
  rw [lg_entry_eq]
  generalize (lg_sl ([.int q]) ++ List.replicate (1 - (lg_sl ([.int q])).length) Slot.unset).toArray = ls at hl ⊢
  have hl : lv_has ls 1 [(0, .int q)] := hl
  unfold m_isSum at hf
  refine lv_iload_n hx hb dM_isSum_0 rfl (lv_at hl 0 rfl) ?_
  refine lv_if_eq hx hb dM_isSum_1 rfl (fun h1 => ?_) (fun h1 => ?_)
  · rw [if_pos h1] at hf
    refine lv_iconst (v := 1) hx hb dM_isSum_9 (by decide) ?_
    refine lv_goto hx hb dM_isSum_10 rfl ?_
    subst hf
    exact W.zret (v := (1 : Int32)) hx hb hr (tq_nb_bool (by decide)) (fun t ht hW => ⟨⟨(1 : Int32), (), rfl, rfl, by rw [ht]; exact hP, va_K.moved hW.alike hK, hD⟩, hS.F ht⟩) hS.2.2 dM_isSum_14
  · rw [if_neg h1] at hf
    refine lv_iload_n hx hb dM_isSum_4 rfl (lv_at hl 0 rfl) ?_
    refine lv_iconst (v := 1) hx hb dM_isSum_5 (by decide) ?_
    refine lv_icmp_ne hx hb dM_isSum_6 rfl (fun h2 => ?_) (fun h2 => ?_)
    · rw [if_pos h2] at hf
      refine lv_iconst (v := 0) hx hb dM_isSum_13 (by decide) ?_
      subst hf
      exact W.zret (v := (0 : Int32)) hx hb hr (tq_nb_bool (by decide)) (fun t ht hW => ⟨⟨(0 : Int32), (), rfl, rfl, by rw [ht]; exact hP, va_K.moved hW.alike hK, hD⟩, hS.F ht⟩) hS.2.2 dM_isSum_14
    · rw [if_neg (fun q : ¬ q = (1 : Int32) => q h2)] at hf
      refine lv_iconst (v := 1) hx hb dM_isSum_9 (by decide) ?_
      refine lv_goto hx hb dM_isSum_10 rfl ?_
      subst hf
      exact W.zret (v := (1 : Int32)) hx hb hr (tq_nb_bool (by decide)) (fun t ht hW => ⟨⟨(1 : Int32), (), rfl, rfl, by rw [ht]; exact hP, va_K.moved hW.alike hK, hD⟩, hS.F ht⟩) hS.2.2 dM_isSum_14
set_option maxHeartbeats 4000000 in
set_option maxRecDepth 100000 in
theorem c_m_bits (l : Launch) (dC : Nat → ClassId) (dI : Nat → Nat → Nat) (mo : Nat) (la : Nat) (sa : Nat) (sz : Nat) (nz : Int32) (sq : Int32) (r : Int32) (hf : m_bits nz = r) : Met l yM_bits tqw_M_bits ({ frames := 0, cells := 0, slots := 0, locals := 0 }) (va_Pc [.ref mo] (fun U => U.heap.size = sz ∧ va_P (dC, dI) tqCl [(mo, .inr (3, [.int nz, .ref la, .int sq, .ref sa]))] U.heap ∧ va_K (dC, dI) tqCl [] U ∧ va_D (fun _ => True) [(mo, .inr (3, [.int nz, .ref la, .int sq, .ref sa]))] ∧ tqN U)) (va_Qi (fun (a : Int32) (_ : Unit) => a = r) (fun (_ : Unit) (t : State) => va_P (dC, dI) tqCl [(mo, .inr (3, [.int nz, .ref la, .int sq, .ref sa]))] t.heap ∧ va_K (dC, dI) tqCl [] t ∧ va_D (va_A [(mo, .inr (3, [.int nz, .ref la, .int sq, .ref sa]))] sz) [(mo, .inr (3, [.int nz, .ref la, .int sq, .ref sa]))]) (va_A [(mo, .inr (3, [.int nz, .ref la, .int sq, .ref sa]))] sz)) 0 0 (va_A [(mo, .inr (3, [.int nz, .ref la, .int sq, .ref sa]))] sz) := by
  refine Met.ofW (cc := cM_bits) (maxL := 1) (ret := (some .int)) (by decide) rfl ?_
  intro p e s m args below meth c s₁ B hml hv
  obtain ⟨rfl, hsz, hP, hK, hD0, hN⟩ := hv
  have hx := B.exec
  have hb := B.bytes
  have hr := B.returns
  have hts := atoms_spec (ws := tqw_M_bits) B.pre
  have hww : ∀ w ∈ tqW, w.before _ s = true := fun w h => hts w (List.mem_cons_of_mem _ h)
  have hown : s.vm.findClass RM = some m.cls := findClass_of_methodNamed B.named
  have hlocks := B.notSynchronized
  subst hsz
  have hD := hD0.self (sz := s.heap.size)
  generalize hAe : va_A [(mo, .inr (3, [.int nz, .ref la, .int sq, .ref sa]))] s.heap.size = A at hD ⊢
  have hA : ∀ q : Nat, s.heap.size ≤ q → A q := fun q h => by rw [← hAe]; exact Or.inr h
  have hS : va_S A s.heap s.heap [] := va_S.rf
  have hP : va_P (dC, dI) tqCl [(mo, .inr (3, [.int nz, .ref la, .int sq, .ref sa]))] s.heap := hP
  have hl := lv_entry ([.ref mo]) (n := 1) (Nat.le_of_ble_eq_true rfl)
  rw [lg_entry_eq]
  generalize (lg_sl ([.ref mo]) ++ List.replicate (1 - (lg_sl ([.ref mo])).length) Slot.unset).toArray = ls at hl ⊢
  have hl : lv_has ls 1 [(0, .ref mo)] := hl
  unfold m_bits at hf
  refine lv_aload_n hx hb dM_bits_0 rfl (lv_at hl 0 rfl) ?_
  refine va_get (D := (dC, dI)) (ci := 3) (v := .int nz) (C := RM) (T := TM) (N := 4) hx hb hww tqinM hown hK hP 0 rfl rfl 0 (by decide) (hww _ tqt_330) (fun _ h9 => h9) rfl dM_bits_1 ?_
  subst hf
  exact W.iret (v := nz) hx hb hr (fun t ht hW => ⟨⟨nz, (), rfl, rfl, by rw [ht]; exact hP, va_K.moved hW.alike hK, hD⟩, hS.F ht⟩) hS.2.2 dM_bits_4
set_option maxHeartbeats 4000000 in
set_option maxRecDepth 100000 in
theorem c_m_zero (l : Launch) (dC : Nat → ClassId) (dI : Nat → Nat → Nat) (mo : Nat) (la : Nat) (sa : Nat) (cI : ClassId) (sz : Nat) (rg : Int32) (nz : Int32) (sq : Int32) (lf : Nat → Int32) (r : (Nat → Int32)) (hf : m_zero lf rg = some r) : Met l yM_zero tqw_M_zero ({ frames := 0, cells := 0, slots := 0, locals := 0 }) (va_Pc [.ref mo, .int rg] (fun U => U.heap.size = sz ∧ va_P (dC, dI) tqCl [(mo, .inr (3, [.int nz, .ref la, .int sq, .ref sa])), (la, .inl (cI, 200, .inl lf))] U.heap ∧ va_K (dC, dI) tqCl [(cI, .int)] U ∧ va_D (fun _ => True) [(mo, .inr (3, [.int nz, .ref la, .int sq, .ref sa])), (la, .inl (cI, 200, .inl lf))] ∧ tqN U)) (va_Qv (fun (_ : Unit) => True) (fun (_ : Unit) (t : State) => va_P (dC, dI) tqCl [(mo, .inr (3, [.int nz, .ref la, .int sq, .ref sa])), (la, .inl (cI, 200, .inl r))] t.heap ∧ va_K (dC, dI) tqCl [(cI, .int)] t ∧ va_D (va_A [(mo, .inr (3, [.int nz, .ref la, .int sq, .ref sa])), (la, .inl (cI, 200, .inl lf))] sz) [(mo, .inr (3, [.int nz, .ref la, .int sq, .ref sa])), (la, .inl (cI, 200, .inl r))]) (va_A [(mo, .inr (3, [.int nz, .ref la, .int sq, .ref sa])), (la, .inl (cI, 200, .inl lf))] sz)) 0 0 (va_A [(mo, .inr (3, [.int nz, .ref la, .int sq, .ref sa])), (la, .inl (cI, 200, .inl lf))] sz) := by
  refine Met.ofW (cc := cM_zero) (maxL := 3) (ret := none) (by decide) rfl ?_
  intro p e s m args below meth c s₁ B hml hv
  obtain ⟨rfl, hsz, hP, hK, hD0, hN⟩ := hv
  have hx := B.exec
  have hb := B.bytes
  have hr := B.returns
  have hts := atoms_spec (ws := tqw_M_zero) B.pre
  have hww : ∀ w ∈ tqW, w.before _ s = true := fun w h => hts w (List.mem_cons_of_mem _ h)
  have hown : s.vm.findClass RM = some m.cls := findClass_of_methodNamed B.named
  have hlocks := B.notSynchronized
  subst hsz
  have hD := hD0.self (sz := s.heap.size)
  generalize hAe : va_A [(mo, .inr (3, [.int nz, .ref la, .int sq, .ref sa])), (la, .inl (cI, 200, .inl lf))] s.heap.size = A at hD ⊢
  have hA : ∀ q : Nat, s.heap.size ≤ q → A q := fun q h => by rw [← hAe]; exact Or.inr h
  have hS : va_S A s.heap s.heap [] := va_S.rf
  have hP : va_P (dC, dI) tqCl [(mo, .inr (3, [.int nz, .ref la, .int sq, .ref sa])), (la, .inl (cI, 200, .inl lf))] s.heap := hP
  have hl := lv_entry ([.ref mo, .int rg]) (n := 3) (Nat.le_of_ble_eq_true rfl)
  rw [lg_entry_eq]
  generalize (lg_sl ([.ref mo, .int rg]) ++ List.replicate (3 - (lg_sl ([.ref mo, .int rg])).length) Slot.unset).toArray = ls at hl ⊢
  have hl : lv_has ls 3 [(0, .ref mo), (1, .int rg)] := hl
  have B2 : ∀ (n2 : Nat) (ls : Array Slot) (H : Heap) (locs : List Loc) (v2 : Int32) (lf : Nat → Int32), m_zero_b2 rg n2 v2 lf = some r → lv_has ls 3 [(0, .ref mo), (1, .int rg), (2, .int v2)] → va_P (dC, dI) tqCl [(mo, .inr (3, [.int nz, .ref la, .int sq, .ref sa])), (la, .inl (cI, 200, .inl lf))] H → va_D A [(mo, .inr (3, [.int nz, .ref la, .int sq, .ref sa])), (la, .inl (cI, 200, .inl lf))] → va_S A s.heap H locs → W p l e ({ frames := 0, cells := 0, slots := 0, locals := 0 }) s m ([.ref mo, .int rg] : List Value).toArray below meth c H locs 0 0 (MQ below (va_Qv (fun (_ : Unit) => True) (fun (_ : Unit) (t : State) => va_P (dC, dI) tqCl [(mo, .inr (3, [.int nz, .ref la, .int sq, .ref sa])), (la, .inl (cI, 200, .inl r))] t.heap ∧ va_K (dC, dI) tqCl [(cI, .int)] t ∧ va_D (A) [(mo, .inr (3, [.int nz, .ref la, .int sq, .ref sa])), (la, .inl (cI, 200, .inl r))]) (A)) ([.ref mo, .int rg] : List Value).toArray s 0 0 A) (F0 m 2 ls []) := by
    try clear hf
    intro n2
    induction n2 with
    | zero =>
      intro ls H locs v2 lf hf hl hP hD hS
      have hf : (none : Option ((Nat → Int32))) = some r := hf
      cases hf
    | succ n2 ih2 =>
      intro ls H locs v2 lf hf hl hP hD hS
      unfold m_zero_b2 at hf
      refine lv_iload_n hx hb dM_zero_2 rfl (lv_at hl 2 rfl) ?_
      refine lv_bipush (v := 40) hx hb dM_zero_3 (by decide) ?_
      refine lv_icmp_ge hx hb dM_zero_5 rfl (fun h1 => ?_) (fun h1 => ?_)
      · rw [if_pos h1] at hf
        have hf := Option.some.inj hf
        subst hf
        exact W.vret hx hb hr (fun t ht hW => ⟨⟨(), rfl, trivial, by rw [ht]; exact hP, va_K.moved hW.alike hK, hD⟩, hS.F ht⟩) hS.2.2 dM_zero_26
      · rw [if_neg h1] at hf
        refine lv_aload_n hx hb dM_zero_8 rfl (lv_at hl 0 rfl) ?_
        refine va_get (D := (dC, dI)) (ci := 3) (v := .ref la) (C := RM) (T := TM) (N := 4) hx hb hww tqinM hown hK hP 0 rfl rfl 1 (by decide) (hww _ tqt_331) (fun _ h9 => h9) rfl dM_zero_9 ?_
        refine lv_bipush (v := 40) hx hb dM_zero_12 (by decide) ?_
        refine lv_iload_n hx hb dM_zero_14 rfl (lv_at hl 1 rfl) ?_
        refine lv_imul hx hb dM_zero_15 ?_
        refine lv_iload_n hx hb dM_zero_16 rfl (lv_at hl 2 rfl) ?_
        refine lv_iadd hx hb dM_zero_17 ?_
        refine lv_iconst (v := 0) hx hb dM_zero_18 (by decide) ?_
        by_cases h2 : ((((40 : Int32) * rg) + v2) < 0 ∨ 200 ≤ (((40 : Int32) * rg) + v2).toNatClampNeg)
        · rw [if_pos h2] at hf
          cases hf
        · rw [if_neg h2] at hf
          refine va_iast hx hb hK hP hD hS 1 0 rfl rfl h2 dM_zero_19 (fun H locs hP hD hS => ?_)
          have hP : va_P (dC, dI) tqCl [(mo, .inr (3, [.int nz, .ref la, .int sq, .ref sa])), (la, .inl (cI, 200, .inl (upd lf (((40 : Int32) * rg) + v2).toNatClampNeg (0 : Int32))))] H := hP
          have hD : va_D A [(mo, .inr (3, [.int nz, .ref la, .int sq, .ref sa])), (la, .inl (cI, 200, .inl (upd lf (((40 : Int32) * rg) + v2).toNatClampNeg (0 : Int32))))] := hD
          refine lv_iinc (v := v2 + (1 : Int32)) (lv' := [(2, .int (v2 + (1 : Int32))), (0, .ref mo), (1, .int rg)]) hx hb dM_zero_20 hl (k := 2) rfl rfl (by decide) rfl (fun ls hl => ?_)
          refine lv_goto hx hb dM_zero_23 rfl ?_
          exact ih2 ls _ _ (v2 + (1 : Int32)) (upd lf (((40 : Int32) * rg) + v2).toNatClampNeg (0 : Int32)) hf (lv_sub hl [1, 2, 0] rfl) hP hD hS
  unfold m_zero at hf
  refine lv_iconst (v := 0) hx hb dM_zero_0 (by decide) ?_
  refine lv_istore_n (lv' := [(2, .int (0 : Int32)), (0, .ref mo), (1, .int rg)]) hx hb dM_zero_1 rfl hl (by decide) rfl (fun ls hl => ?_)
  exact B2 41 ls _ _ (0 : Int32) lf hf (lv_sub hl [1, 2, 0] rfl) hP hD hS
set_option maxHeartbeats 4000000 in
set_option maxRecDepth 100000 in
theorem c_m_move (l : Launch) (dC : Nat → ClassId) (dI : Nat → Nat → Nat) (mo : Nat) (la : Nat) (sa : Nat) (cI : ClassId) (sz : Nat) (fr : Int32) (to : Int32) (nz : Int32) (sq : Int32) (lf : Nat → Int32) (r : (Nat → Int32)) (hf : m_move lf fr to = some r) : Met l yM_move tqw_M_move ({ frames := 0, cells := 0, slots := 0, locals := 0 }) (va_Pc [.ref mo, .int fr, .int to] (fun U => U.heap.size = sz ∧ va_P (dC, dI) tqCl [(mo, .inr (3, [.int nz, .ref la, .int sq, .ref sa])), (la, .inl (cI, 200, .inl lf))] U.heap ∧ va_K (dC, dI) tqCl [(cI, .int)] U ∧ va_D (fun _ => True) [(mo, .inr (3, [.int nz, .ref la, .int sq, .ref sa])), (la, .inl (cI, 200, .inl lf))] ∧ tqN U)) (va_Qv (fun (_ : Unit) => True) (fun (_ : Unit) (t : State) => va_P (dC, dI) tqCl [(mo, .inr (3, [.int nz, .ref la, .int sq, .ref sa])), (la, .inl (cI, 200, .inl r))] t.heap ∧ va_K (dC, dI) tqCl [(cI, .int)] t ∧ va_D (va_A [(mo, .inr (3, [.int nz, .ref la, .int sq, .ref sa])), (la, .inl (cI, 200, .inl lf))] sz) [(mo, .inr (3, [.int nz, .ref la, .int sq, .ref sa])), (la, .inl (cI, 200, .inl r))]) (va_A [(mo, .inr (3, [.int nz, .ref la, .int sq, .ref sa])), (la, .inl (cI, 200, .inl lf))] sz)) 0 0 (va_A [(mo, .inr (3, [.int nz, .ref la, .int sq, .ref sa])), (la, .inl (cI, 200, .inl lf))] sz) := by
  refine Met.ofW (cc := cM_move) (maxL := 4) (ret := none) (by decide) rfl ?_
  intro p e s m args below meth c s₁ B hml hv
  obtain ⟨rfl, hsz, hP, hK, hD0, hN⟩ := hv
  have hx := B.exec
  have hb := B.bytes
  have hr := B.returns
  have hts := atoms_spec (ws := tqw_M_move) B.pre
  have hww : ∀ w ∈ tqW, w.before _ s = true := fun w h => hts w (List.mem_cons_of_mem _ h)
  have hown : s.vm.findClass RM = some m.cls := findClass_of_methodNamed B.named
  have hlocks := B.notSynchronized
  subst hsz
  have hD := hD0.self (sz := s.heap.size)
  generalize hAe : va_A [(mo, .inr (3, [.int nz, .ref la, .int sq, .ref sa])), (la, .inl (cI, 200, .inl lf))] s.heap.size = A at hD ⊢
  have hA : ∀ q : Nat, s.heap.size ≤ q → A q := fun q h => by rw [← hAe]; exact Or.inr h
  have hS : va_S A s.heap s.heap [] := va_S.rf
  have hP : va_P (dC, dI) tqCl [(mo, .inr (3, [.int nz, .ref la, .int sq, .ref sa])), (la, .inl (cI, 200, .inl lf))] s.heap := hP
  have hl := lv_entry ([.ref mo, .int fr, .int to]) (n := 4) (Nat.le_of_ble_eq_true rfl)
  rw [lg_entry_eq]
  generalize (lg_sl ([.ref mo, .int fr, .int to]) ++ List.replicate (4 - (lg_sl ([.ref mo, .int fr, .int to])).length) Slot.unset).toArray = ls at hl ⊢
  have hl : lv_has ls 4 [(0, .ref mo), (1, .int fr), (2, .int to)] := hl
  have B2 : ∀ (n2 : Nat) (ls : Array Slot) (H : Heap) (locs : List Loc) (v3 : Int32) (lf : Nat → Int32), m_move_b2 fr to n2 v3 lf = some r → lv_has ls 4 [(0, .ref mo), (1, .int fr), (2, .int to), (3, .int v3)] → va_P (dC, dI) tqCl [(mo, .inr (3, [.int nz, .ref la, .int sq, .ref sa])), (la, .inl (cI, 200, .inl lf))] H → va_D A [(mo, .inr (3, [.int nz, .ref la, .int sq, .ref sa])), (la, .inl (cI, 200, .inl lf))] → va_S A s.heap H locs → W p l e ({ frames := 0, cells := 0, slots := 0, locals := 0 }) s m ([.ref mo, .int fr, .int to] : List Value).toArray below meth c H locs 0 0 (MQ below (va_Qv (fun (_ : Unit) => True) (fun (_ : Unit) (t : State) => va_P (dC, dI) tqCl [(mo, .inr (3, [.int nz, .ref la, .int sq, .ref sa])), (la, .inl (cI, 200, .inl r))] t.heap ∧ va_K (dC, dI) tqCl [(cI, .int)] t ∧ va_D (A) [(mo, .inr (3, [.int nz, .ref la, .int sq, .ref sa])), (la, .inl (cI, 200, .inl r))]) (A)) ([.ref mo, .int fr, .int to] : List Value).toArray s 0 0 A) (F0 m 2 ls []) := by
    try clear hf
    intro n2
    induction n2 with
    | zero =>
      intro ls H locs v3 lf hf hl hP hD hS
      have hf : (none : Option ((Nat → Int32))) = some r := hf
      cases hf
    | succ n2 ih2 =>
      intro ls H locs v3 lf hf hl hP hD hS
      unfold m_move_b2 at hf
      refine lv_iload_n hx hb dM_move_2 rfl (lv_at hl 3 rfl) ?_
      refine lv_bipush (v := 40) hx hb dM_move_3 (by decide) ?_
      refine lv_icmp_ge hx hb dM_move_5 rfl (fun h1 => ?_) (fun h1 => ?_)
      · rw [if_pos h1] at hf
        have hf := Option.some.inj hf
        subst hf
        exact W.vret hx hb hr (fun t ht hW => ⟨⟨(), rfl, trivial, by rw [ht]; exact hP, va_K.moved hW.alike hK, hD⟩, hS.F ht⟩) hS.2.2 dM_move_36
      · rw [if_neg h1] at hf
        refine lv_aload_n hx hb dM_move_8 rfl (lv_at hl 0 rfl) ?_
        refine va_get (D := (dC, dI)) (ci := 3) (v := .ref la) (C := RM) (T := TM) (N := 4) hx hb hww tqinM hown hK hP 0 rfl rfl 1 (by decide) (hww _ tqt_331) (fun _ h9 => h9) rfl dM_move_9 ?_
        refine lv_bipush (v := 40) hx hb dM_move_12 (by decide) ?_
        refine lv_iload_n hx hb dM_move_14 rfl (lv_at hl 2 rfl) ?_
        refine lv_imul hx hb dM_move_15 ?_
        refine lv_iload_n hx hb dM_move_16 rfl (lv_at hl 3 rfl) ?_
        refine lv_iadd hx hb dM_move_17 ?_
        refine lv_aload_n hx hb dM_move_18 rfl (lv_at hl 0 rfl) ?_
        refine va_get (D := (dC, dI)) (ci := 3) (v := .ref la) (C := RM) (T := TM) (N := 4) hx hb hww tqinM hown hK hP 0 rfl rfl 1 (by decide) (hww _ tqt_331) (fun _ h9 => h9) rfl dM_move_19 ?_
        refine lv_bipush (v := 40) hx hb dM_move_22 (by decide) ?_
        refine lv_iload_n hx hb dM_move_24 rfl (lv_at hl 1 rfl) ?_
        refine lv_imul hx hb dM_move_25 ?_
        refine lv_iload_n hx hb dM_move_26 rfl (lv_at hl 3 rfl) ?_
        refine lv_iadd hx hb dM_move_27 ?_
        by_cases h2 : ((((40 : Int32) * fr) + v3) < 0 ∨ 200 ≤ (((40 : Int32) * fr) + v3).toNatClampNeg)
        · rw [if_pos h2] at hf
          cases hf
        · rw [if_neg h2] at hf
          refine va_iald hx hb hK hP 1 0 rfl rfl h2 dM_move_28 ?_
          by_cases h3 : ((((40 : Int32) * to) + v3) < 0 ∨ 200 ≤ (((40 : Int32) * to) + v3).toNatClampNeg)
          · rw [if_pos h3] at hf
            cases hf
          · rw [if_neg h3] at hf
            refine va_iast hx hb hK hP hD hS 1 0 rfl rfl h3 dM_move_29 (fun H locs hP hD hS => ?_)
            have hP : va_P (dC, dI) tqCl [(mo, .inr (3, [.int nz, .ref la, .int sq, .ref sa])), (la, .inl (cI, 200, .inl (upd lf (((40 : Int32) * to) + v3).toNatClampNeg (lf (((40 : Int32) * fr) + v3).toNatClampNeg))))] H := hP
            have hD : va_D A [(mo, .inr (3, [.int nz, .ref la, .int sq, .ref sa])), (la, .inl (cI, 200, .inl (upd lf (((40 : Int32) * to) + v3).toNatClampNeg (lf (((40 : Int32) * fr) + v3).toNatClampNeg))))] := hD
            refine lv_iinc (v := v3 + (1 : Int32)) (lv' := [(3, .int (v3 + (1 : Int32))), (0, .ref mo), (1, .int fr), (2, .int to)]) hx hb dM_move_30 hl (k := 3) rfl rfl (by decide) rfl (fun ls hl => ?_)
            refine lv_goto hx hb dM_move_33 rfl ?_
            exact ih2 ls _ _ (v3 + (1 : Int32)) (upd lf (((40 : Int32) * to) + v3).toNatClampNeg (lf (((40 : Int32) * fr) + v3).toNatClampNeg)) hf (lv_sub hl [1, 2, 3, 0] rfl) hP hD hS
  unfold m_move at hf
  refine lv_iconst (v := 0) hx hb dM_move_0 (by decide) ?_
  refine lv_istore_n (lv' := [(3, .int (0 : Int32)), (0, .ref mo), (1, .int fr), (2, .int to)]) hx hb dM_move_1 rfl hl (by decide) rfl (fun ls hl => ?_)
  exact B2 41 ls _ _ (0 : Int32) lf hf (lv_sub hl [1, 2, 3, 0] rfl) hP hD hS
set_option maxHeartbeats 4000000 in
set_option maxRecDepth 100000 in
theorem c_m_order (l : Launch) (dC : Nat → ClassId) (dI : Nat → Nat → Nat) (mo : Nat) (la : Nat) (sa : Nat) (cI : ClassId) (sz : Nat) (ga : Int32) (gb : Int32) (nz : Int32) (sq : Int32) (lf : Nat → Int32) (r : Int32) (hf : m_order lf ga gb = some r) : Met l yM_order tqw_M_order ({ frames := 0, cells := 0, slots := 0, locals := 0 }) (va_Pc [.ref mo, .int ga, .int gb] (fun U => U.heap.size = sz ∧ va_P (dC, dI) tqCl [(mo, .inr (3, [.int nz, .ref la, .int sq, .ref sa])), (la, .inl (cI, 200, .inl lf))] U.heap ∧ va_K (dC, dI) tqCl [(cI, .int)] U ∧ va_D (fun _ => True) [(mo, .inr (3, [.int nz, .ref la, .int sq, .ref sa])), (la, .inl (cI, 200, .inl lf))] ∧ tqN U)) (va_Qi (fun (a : Int32) (_ : Unit) => a = r) (fun (_ : Unit) (t : State) => va_P (dC, dI) tqCl [(mo, .inr (3, [.int nz, .ref la, .int sq, .ref sa])), (la, .inl (cI, 200, .inl lf))] t.heap ∧ va_K (dC, dI) tqCl [(cI, .int)] t ∧ va_D (va_A [(mo, .inr (3, [.int nz, .ref la, .int sq, .ref sa])), (la, .inl (cI, 200, .inl lf))] sz) [(mo, .inr (3, [.int nz, .ref la, .int sq, .ref sa])), (la, .inl (cI, 200, .inl lf))]) (va_A [(mo, .inr (3, [.int nz, .ref la, .int sq, .ref sa])), (la, .inl (cI, 200, .inl lf))] sz)) 0 0 (va_A [(mo, .inr (3, [.int nz, .ref la, .int sq, .ref sa])), (la, .inl (cI, 200, .inl lf))] sz) := by
  refine Met.ofW (cc := cM_order) (maxL := 6) (ret := (some .int)) (by decide) rfl ?_
  intro p e s m args below meth c s₁ B hml hv
  obtain ⟨rfl, hsz, hP, hK, hD0, hN⟩ := hv
  have hx := B.exec
  have hb := B.bytes
  have hr := B.returns
  have hts := atoms_spec (ws := tqw_M_order) B.pre
  have hww : ∀ w ∈ tqW, w.before _ s = true := fun w h => hts w (List.mem_cons_of_mem _ h)
  have hown : s.vm.findClass RM = some m.cls := findClass_of_methodNamed B.named
  have hlocks := B.notSynchronized
  subst hsz
  have hD := hD0.self (sz := s.heap.size)
  generalize hAe : va_A [(mo, .inr (3, [.int nz, .ref la, .int sq, .ref sa])), (la, .inl (cI, 200, .inl lf))] s.heap.size = A at hD ⊢
  have hA : ∀ q : Nat, s.heap.size ≤ q → A q := fun q h => by rw [← hAe]; exact Or.inr h
  have hS : va_S A s.heap s.heap [] := va_S.rf
  have hP : va_P (dC, dI) tqCl [(mo, .inr (3, [.int nz, .ref la, .int sq, .ref sa])), (la, .inl (cI, 200, .inl lf))] s.heap := hP
  have hl := lv_entry ([.ref mo, .int ga, .int gb]) (n := 6) (Nat.le_of_ble_eq_true rfl)
  rw [lg_entry_eq]
  generalize (lg_sl ([.ref mo, .int ga, .int gb]) ++ List.replicate (6 - (lg_sl ([.ref mo, .int ga, .int gb])).length) Slot.unset).toArray = ls at hl ⊢
  have hl : lv_has ls 6 [(0, .ref mo), (1, .int ga), (2, .int gb)] := hl
  have B3 : ∀ (n3 : Nat) (ls : Array Slot) (H : Heap) (locs : List Loc) (v3 : Int32), m_order_b3 lf ga gb n3 v3 = some r → lv_has ls 6 [(0, .ref mo), (1, .int ga), (2, .int gb), (3, .int v3)] → va_P (dC, dI) tqCl [(mo, .inr (3, [.int nz, .ref la, .int sq, .ref sa])), (la, .inl (cI, 200, .inl lf))] H → va_D A [(mo, .inr (3, [.int nz, .ref la, .int sq, .ref sa])), (la, .inl (cI, 200, .inl lf))] → va_S A s.heap H locs → W p l e ({ frames := 0, cells := 0, slots := 0, locals := 0 }) s m ([.ref mo, .int ga, .int gb] : List Value).toArray below meth c H locs 0 0 (MQ below (va_Qi (fun (a : Int32) (_ : Unit) => a = r) (fun (_ : Unit) (t : State) => va_P (dC, dI) tqCl [(mo, .inr (3, [.int nz, .ref la, .int sq, .ref sa])), (la, .inl (cI, 200, .inl lf))] t.heap ∧ va_K (dC, dI) tqCl [(cI, .int)] t ∧ va_D (A) [(mo, .inr (3, [.int nz, .ref la, .int sq, .ref sa])), (la, .inl (cI, 200, .inl lf))]) (A)) ([.ref mo, .int ga, .int gb] : List Value).toArray s 0 0 A) (F0 m 3 ls []) := by
    try clear hf
    intro n3
    induction n3 with
    | zero =>
      intro ls H locs v3 hf hl hP hD hS
      have hf : (none : Option (Int32)) = some r := hf
      cases hf
    | succ n3 ih3 =>
      intro ls H locs v3 hf hl hP hD hS
      unfold m_order_b3 at hf
      refine lv_iload_n hx hb dM_order_3 rfl (lv_at hl 3 rfl) ?_
      refine lv_if_lt hx hb dM_order_4 rfl (fun h1 => ?_) (fun h1 => ?_)
      · rw [if_pos h1] at hf
        refine lv_iconst (v := 0) hx hb dM_order_59 (by decide) ?_
        have hf := Option.some.inj hf
        subst hf
        exact W.iret (v := (0 : Int32)) hx hb hr (fun t ht hW => ⟨⟨(0 : Int32), (), rfl, rfl, by rw [ht]; exact hP, va_K.moved hW.alike hK, hD⟩, hS.F ht⟩) hS.2.2 dM_order_60
      · rw [if_neg h1] at hf
        refine lv_aload_n hx hb dM_order_7 rfl (lv_at hl 0 rfl) ?_
        refine va_get (D := (dC, dI)) (ci := 3) (v := .ref la) (C := RM) (T := TM) (N := 4) hx hb hww tqinM hown hK hP 0 rfl rfl 1 (by decide) (hww _ tqt_331) (fun _ h9 => h9) rfl dM_order_8 ?_
        refine lv_bipush (v := 40) hx hb dM_order_11 (by decide) ?_
        refine lv_iload_n hx hb dM_order_13 rfl (lv_at hl 1 rfl) ?_
        refine lv_imul hx hb dM_order_14 ?_
        refine lv_iload_n hx hb dM_order_15 rfl (lv_at hl 3 rfl) ?_
        refine lv_iadd hx hb dM_order_16 ?_
        by_cases h2 : ((((40 : Int32) * ga) + v3) < 0 ∨ 200 ≤ (((40 : Int32) * ga) + v3).toNatClampNeg)
        · rw [if_pos h2] at hf
          cases hf
        · rw [if_neg h2] at hf
          refine va_iald hx hb hK hP 1 0 rfl rfl h2 dM_order_17 ?_
          refine lv_topi (fun x3 e3 => ?_)
          have hf := tq_nm_at e3 hf
          refine lv_istore (lv' := [(4, .int x3), (0, .ref mo), (1, .int ga), (2, .int gb), (3, .int v3)]) hx hb dM_order_18 hl (by decide) rfl (fun ls hl => ?_)
          refine lv_aload_n hx hb dM_order_20 rfl (lv_at hl 1 rfl) ?_
          refine va_get (D := (dC, dI)) (ci := 3) (v := .ref la) (C := RM) (T := TM) (N := 4) hx hb hww tqinM hown hK hP 0 rfl rfl 1 (by decide) (hww _ tqt_331) (fun _ h9 => h9) rfl dM_order_21 ?_
          refine lv_bipush (v := 40) hx hb dM_order_24 (by decide) ?_
          refine lv_iload_n hx hb dM_order_26 rfl (lv_at hl 3 rfl) ?_
          refine lv_imul hx hb dM_order_27 ?_
          refine lv_iload_n hx hb dM_order_28 rfl (lv_at hl 4 rfl) ?_
          refine lv_iadd hx hb dM_order_29 ?_
          by_cases h4 : ((((40 : Int32) * gb) + v3) < 0 ∨ 200 ≤ (((40 : Int32) * gb) + v3).toNatClampNeg)
          · rw [if_pos h4] at hf
            cases hf
          · rw [if_neg h4] at hf
            refine va_iald hx hb hK hP 1 0 rfl rfl h4 dM_order_30 ?_
            refine lv_topi (fun x5 e5 => ?_)
            have hf := tq_nm_at e5 hf
            refine lv_istore (lv' := [(5, .int x5), (4, .int x3), (0, .ref mo), (1, .int ga), (2, .int gb), (3, .int v3)]) hx hb dM_order_31 hl (by decide) rfl (fun ls hl => ?_)
            refine lv_iload hx hb dM_order_33 (lv_at hl 1 rfl) ?_
            refine lv_iload hx hb dM_order_35 (lv_at hl 0 rfl) ?_
            refine lv_icmp_eq hx hb dM_order_37 rfl (fun h6 => ?_) (fun h6 => ?_)
            · rw [if_pos h6] at hf
              refine lv_iinc (v := v3 + (-1 : Int32)) (lv' := [(3, .int (v3 + (-1 : Int32))), (5, .int x5), (4, .int x3), (0, .ref mo), (1, .int ga), (2, .int gb)]) hx hb dM_order_53 hl (k := 5) rfl rfl (by decide) rfl (fun ls hl => ?_)
              refine lv_goto hx hb dM_order_56 rfl ?_
              exact ih3 ls _ _ (v3 + (-1 : Int32)) hf (lv_sub hl [3, 4, 5, 0] rfl) hP hD hS
            · rw [if_neg h6] at hf
              refine lv_iload hx hb dM_order_40 (lv_at hl 1 rfl) ?_
              refine lv_iload hx hb dM_order_42 (lv_at hl 0 rfl) ?_
              refine lv_icmp_ge hx hb dM_order_44 rfl (fun h7 => ?_) (fun h7 => ?_)
              · rw [if_pos h7] at hf
                refine lv_iconst (v := 1) hx hb dM_order_51 (by decide) ?_
                have hf := Option.some.inj hf
                subst hf
                exact W.iret (v := (1 : Int32)) hx hb hr (fun t ht hW => ⟨⟨(1 : Int32), (), rfl, rfl, by rw [ht]; exact hP, va_K.moved hW.alike hK, hD⟩, hS.F ht⟩) hS.2.2 dM_order_52
              · rw [if_neg h7] at hf
                refine lv_iconst (v := -1) hx hb dM_order_47 (by decide) ?_
                refine lv_goto hx hb dM_order_48 rfl ?_
                have hf := Option.some.inj hf
                subst hf
                exact W.iret (v := (-1 : Int32)) hx hb hr (fun t ht hW => ⟨⟨(-1 : Int32), (), rfl, rfl, by rw [ht]; exact hP, va_K.moved hW.alike hK, hD⟩, hS.F ht⟩) hS.2.2 dM_order_52
  unfold m_order at hf
  refine lv_bipush (v := 39) hx hb dM_order_0 (by decide) ?_
  refine lv_istore_n (lv' := [(3, .int (39 : Int32)), (0, .ref mo), (1, .int ga), (2, .int gb)]) hx hb dM_order_2 rfl hl (by decide) rfl (fun ls hl => ?_)
  exact B3 41 ls _ _ (39 : Int32) hf (lv_sub hl [1, 2, 3, 0] rfl) hP hD hS
set_option maxHeartbeats 4000000 in
set_option maxRecDepth 100000 in
theorem c_m_isZero (l : Launch) (dC : Nat → ClassId) (dI : Nat → Nat → Nat) (mo : Nat) (la : Nat) (sa : Nat) (cI : ClassId) (sz : Nat) (rg : Int32) (nz : Int32) (sq : Int32) (lf : Nat → Int32) (r : Int32) (hf : m_isZero lf rg = some r) : Met l yM_isZero tqw_M_isZero ({ frames := 0, cells := 0, slots := 0, locals := 0 }) (va_Pc [.ref mo, .int rg] (fun U => U.heap.size = sz ∧ va_P (dC, dI) tqCl [(mo, .inr (3, [.int nz, .ref la, .int sq, .ref sa])), (la, .inl (cI, 200, .inl lf))] U.heap ∧ va_K (dC, dI) tqCl [(cI, .int)] U ∧ va_D (fun _ => True) [(mo, .inr (3, [.int nz, .ref la, .int sq, .ref sa])), (la, .inl (cI, 200, .inl lf))] ∧ tqN U)) (va_Qi (fun (a : Int32) (_ : Unit) => a = r) (fun (_ : Unit) (t : State) => va_P (dC, dI) tqCl [(mo, .inr (3, [.int nz, .ref la, .int sq, .ref sa])), (la, .inl (cI, 200, .inl lf))] t.heap ∧ va_K (dC, dI) tqCl [(cI, .int)] t ∧ va_D (va_A [(mo, .inr (3, [.int nz, .ref la, .int sq, .ref sa])), (la, .inl (cI, 200, .inl lf))] sz) [(mo, .inr (3, [.int nz, .ref la, .int sq, .ref sa])), (la, .inl (cI, 200, .inl lf))]) (va_A [(mo, .inr (3, [.int nz, .ref la, .int sq, .ref sa])), (la, .inl (cI, 200, .inl lf))] sz)) 0 0 (va_A [(mo, .inr (3, [.int nz, .ref la, .int sq, .ref sa])), (la, .inl (cI, 200, .inl lf))] sz) := by
  refine Met.ofW (cc := cM_isZero) (maxL := 4) (ret := (some .boolean)) (by decide) rfl ?_
  intro p e s m args below meth c s₁ B hml hv
  obtain ⟨rfl, hsz, hP, hK, hD0, hN⟩ := hv
  have hx := B.exec
  have hb := B.bytes
  have hr := B.returns
  have hts := atoms_spec (ws := tqw_M_isZero) B.pre
  have hww : ∀ w ∈ tqW, w.before _ s = true := fun w h => hts w (List.mem_cons_of_mem _ h)
  have hown : s.vm.findClass RM = some m.cls := findClass_of_methodNamed B.named
  have hlocks := B.notSynchronized
  subst hsz
  have hD := hD0.self (sz := s.heap.size)
  generalize hAe : va_A [(mo, .inr (3, [.int nz, .ref la, .int sq, .ref sa])), (la, .inl (cI, 200, .inl lf))] s.heap.size = A at hD ⊢
  have hA : ∀ q : Nat, s.heap.size ≤ q → A q := fun q h => by rw [← hAe]; exact Or.inr h
  have hS : va_S A s.heap s.heap [] := va_S.rf
  have hP : va_P (dC, dI) tqCl [(mo, .inr (3, [.int nz, .ref la, .int sq, .ref sa])), (la, .inl (cI, 200, .inl lf))] s.heap := hP
  have hl := lv_entry ([.ref mo, .int rg]) (n := 4) (Nat.le_of_ble_eq_true rfl)
  rw [lg_entry_eq]
  generalize (lg_sl ([.ref mo, .int rg]) ++ List.replicate (4 - (lg_sl ([.ref mo, .int rg])).length) Slot.unset).toArray = ls at hl ⊢
  have hl : lv_has ls 4 [(0, .ref mo), (1, .int rg)] := hl
  have B4 : ∀ (n4 : Nat) (ls : Array Slot) (H : Heap) (locs : List Loc) (v2 : Int32) (v3 : Int32), m_isZero_b4 lf rg n4 v2 v3 = some r → lv_has ls 4 [(0, .ref mo), (1, .int rg), (2, .int v2), (3, .int v3)] → va_P (dC, dI) tqCl [(mo, .inr (3, [.int nz, .ref la, .int sq, .ref sa])), (la, .inl (cI, 200, .inl lf))] H → va_D A [(mo, .inr (3, [.int nz, .ref la, .int sq, .ref sa])), (la, .inl (cI, 200, .inl lf))] → va_S A s.heap H locs → (v2 = 0 ∨ v2 = 1) → W p l e ({ frames := 0, cells := 0, slots := 0, locals := 0 }) s m ([.ref mo, .int rg] : List Value).toArray below meth c H locs 0 0 (MQ below (va_Qi (fun (a : Int32) (_ : Unit) => a = r) (fun (_ : Unit) (t : State) => va_P (dC, dI) tqCl [(mo, .inr (3, [.int nz, .ref la, .int sq, .ref sa])), (la, .inl (cI, 200, .inl lf))] t.heap ∧ va_K (dC, dI) tqCl [(cI, .int)] t ∧ va_D (A) [(mo, .inr (3, [.int nz, .ref la, .int sq, .ref sa])), (la, .inl (cI, 200, .inl lf))]) (A)) ([.ref mo, .int rg] : List Value).toArray s 0 0 A) (F0 m 4 ls []) := by
    try clear hf
    intro n4
    induction n4 with
    | zero =>
      intro ls H locs v2 v3 hf hl hP hD hS hb_v2
      have hf : (none : Option (Int32)) = some r := hf
      cases hf
    | succ n4 ih4 =>
      have B33 : ∀ (ls : Array Slot) (H : Heap) (locs : List Loc) (v3 : Int32) (t0 : Int32), m_isZero_b33 (m_isZero_b4 lf rg n4) v3 t0 = some r → lv_has ls 4 [(0, .ref mo), (1, .int rg), (3, .int v3)] → va_P (dC, dI) tqCl [(mo, .inr (3, [.int nz, .ref la, .int sq, .ref sa])), (la, .inl (cI, 200, .inl lf))] H → va_D A [(mo, .inr (3, [.int nz, .ref la, .int sq, .ref sa])), (la, .inl (cI, 200, .inl lf))] → va_S A s.heap H locs → (t0 = 0 ∨ t0 = 1) → W p l e ({ frames := 0, cells := 0, slots := 0, locals := 0 }) s m ([.ref mo, .int rg] : List Value).toArray below meth c H locs 0 0 (MQ below (va_Qi (fun (a : Int32) (_ : Unit) => a = r) (fun (_ : Unit) (t : State) => va_P (dC, dI) tqCl [(mo, .inr (3, [.int nz, .ref la, .int sq, .ref sa])), (la, .inl (cI, 200, .inl lf))] t.heap ∧ va_K (dC, dI) tqCl [(cI, .int)] t ∧ va_D (A) [(mo, .inr (3, [.int nz, .ref la, .int sq, .ref sa])), (la, .inl (cI, 200, .inl lf))]) (A)) ([.ref mo, .int rg] : List Value).toArray s 0 0 A) (F0 m 33 ls [.int t0]) := by
        try clear hf
        intro ls H locs v3 t0 hf hl hP hD hS hb_t0
        unfold m_isZero_b33 at hf
        refine lv_istore_n (lv' := [(2, .int t0), (0, .ref mo), (1, .int rg), (3, .int v3)]) hx hb dM_isZero_33 rfl hl (by decide) rfl (fun ls hl => ?_)
        refine lv_iinc (v := v3 + (1 : Int32)) (lv' := [(3, .int (v3 + (1 : Int32))), (2, .int t0), (0, .ref mo), (1, .int rg)]) hx hb dM_isZero_34 hl (k := 3) rfl rfl (by decide) rfl (fun ls hl => ?_)
        refine lv_goto hx hb dM_isZero_37 rfl ?_
        exact ih4 ls _ _ t0 (v3 + (1 : Int32)) hf (lv_sub hl [2, 3, 1, 0] rfl) hP hD hS hb_t0
      intro ls H locs v2 v3 hf hl hP hD hS hb_v2
      unfold m_isZero_b4 at hf
      refine lv_iload_n hx hb dM_isZero_4 rfl (lv_at hl 3 rfl) ?_
      refine lv_bipush (v := 40) hx hb dM_isZero_5 (by decide) ?_
      refine lv_icmp_ge hx hb dM_isZero_7 rfl (fun h5 => ?_) (fun h5 => ?_)
      · rw [if_pos h5] at hf
        refine lv_iload_n hx hb dM_isZero_40 rfl (lv_at hl 2 rfl) ?_
        have hf := Option.some.inj hf
        subst hf
        exact W.zret (v := v2) hx hb hr (tq_nb_bool hb_v2) (fun t ht hW => ⟨⟨v2, (), rfl, rfl, by rw [ht]; exact hP, va_K.moved hW.alike hK, hD⟩, hS.F ht⟩) hS.2.2 dM_isZero_41
      · rw [if_neg h5] at hf
        refine lv_iload_n hx hb dM_isZero_10 rfl (lv_at hl 2 rfl) ?_
        refine lv_if_eq hx hb dM_isZero_11 rfl (fun h6 => ?_) (fun h6 => ?_)
        · rw [if_pos h6] at hf
          refine lv_iconst (v := 0) hx hb dM_isZero_32 (by decide) ?_
          exact B33 ls _ _ v3 (0 : Int32) hf (lv_sub hl [0, 1, 3] rfl) hP hD hS (by decide)
        · rw [if_neg h6] at hf
          refine lv_aload_n hx hb dM_isZero_14 rfl (lv_at hl 0 rfl) ?_
          refine va_get (D := (dC, dI)) (ci := 3) (v := .ref la) (C := RM) (T := TM) (N := 4) hx hb hww tqinM hown hK hP 0 rfl rfl 1 (by decide) (hww _ tqt_331) (fun _ h9 => h9) rfl dM_isZero_15 ?_
          refine lv_bipush (v := 40) hx hb dM_isZero_18 (by decide) ?_
          refine lv_iload_n hx hb dM_isZero_20 rfl (lv_at hl 1 rfl) ?_
          refine lv_imul hx hb dM_isZero_21 ?_
          refine lv_iload_n hx hb dM_isZero_22 rfl (lv_at hl 3 rfl) ?_
          refine lv_iadd hx hb dM_isZero_23 ?_
          by_cases h7 : ((((40 : Int32) * rg) + v3) < 0 ∨ 200 ≤ (((40 : Int32) * rg) + v3).toNatClampNeg)
          · rw [if_pos h7] at hf
            cases hf
          · rw [if_neg h7] at hf
            refine va_iald hx hb hK hP 1 0 rfl rfl h7 dM_isZero_24 ?_
            refine lv_if_ne hx hb dM_isZero_25 rfl (fun h8 => ?_) (fun h8 => ?_)
            · rw [if_pos h8] at hf
              refine lv_iconst (v := 0) hx hb dM_isZero_32 (by decide) ?_
              exact B33 ls _ _ v3 (0 : Int32) hf (lv_sub hl [0, 1, 3] rfl) hP hD hS (by decide)
            · rw [if_neg (fun q : ¬ (lf (((40 : Int32) * rg) + v3).toNatClampNeg) = 0 => q h8)] at hf
              refine lv_iconst (v := 1) hx hb dM_isZero_28 (by decide) ?_
              refine lv_goto hx hb dM_isZero_29 rfl ?_
              exact B33 ls _ _ v3 (1 : Int32) hf (lv_sub hl [0, 1, 3] rfl) hP hD hS (by decide)
  unfold m_isZero at hf
  refine lv_iconst (v := 1) hx hb dM_isZero_0 (by decide) ?_
  refine lv_istore_n (lv' := [(2, .int (1 : Int32)), (0, .ref mo), (1, .int rg)]) hx hb dM_isZero_1 rfl hl (by decide) rfl (fun ls hl => ?_)
  refine lv_iconst (v := 0) hx hb dM_isZero_2 (by decide) ?_
  refine lv_istore_n (lv' := [(3, .int (0 : Int32)), (2, .int (1 : Int32)), (0, .ref mo), (1, .int rg)]) hx hb dM_isZero_3 rfl hl (by decide) rfl (fun ls hl => ?_)
  exact B4 41 ls _ _ (1 : Int32) (0 : Int32) hf (lv_sub hl [2, 3, 1, 0] rfl) hP hD hS (by decide)
set_option maxHeartbeats 4000000 in
set_option maxRecDepth 100000 in
theorem c_m_plus (l : Launch) (dC : Nat → ClassId) (dI : Nat → Nat → Nat) (mo : Nat) (la : Nat) (sa : Nat) (cI : ClassId) (sz : Nat) (ga : Int32) (gb : Int32) (nz : Int32) (sq : Int32) (lf : Nat → Int32) (r : (Nat → Int32)) (hf : m_plus lf ga gb = some r) : Met l yM_plus tqw_M_plus ({ frames := 0, cells := 0, slots := 0, locals := 0 }) (va_Pc [.ref mo, .int ga, .int gb] (fun U => U.heap.size = sz ∧ va_P (dC, dI) tqCl [(mo, .inr (3, [.int nz, .ref la, .int sq, .ref sa])), (la, .inl (cI, 200, .inl lf))] U.heap ∧ va_K (dC, dI) tqCl [(cI, .int)] U ∧ va_D (fun _ => True) [(mo, .inr (3, [.int nz, .ref la, .int sq, .ref sa])), (la, .inl (cI, 200, .inl lf))] ∧ tqN U)) (va_Qv (fun (_ : Unit) => True) (fun (_ : Unit) (t : State) => va_P (dC, dI) tqCl [(mo, .inr (3, [.int nz, .ref la, .int sq, .ref sa])), (la, .inl (cI, 200, .inl r))] t.heap ∧ va_K (dC, dI) tqCl [(cI, .int)] t ∧ va_D (va_A [(mo, .inr (3, [.int nz, .ref la, .int sq, .ref sa])), (la, .inl (cI, 200, .inl lf))] sz) [(mo, .inr (3, [.int nz, .ref la, .int sq, .ref sa])), (la, .inl (cI, 200, .inl r))]) (va_A [(mo, .inr (3, [.int nz, .ref la, .int sq, .ref sa])), (la, .inl (cI, 200, .inl lf))] sz)) 0 0 (va_A [(mo, .inr (3, [.int nz, .ref la, .int sq, .ref sa])), (la, .inl (cI, 200, .inl lf))] sz) := by
  refine Met.ofW (cc := cM_plus) (maxL := 6) (ret := none) (by decide) rfl ?_
  intro p e s m args below meth c s₁ B hml hv
  obtain ⟨rfl, hsz, hP, hK, hD0, hN⟩ := hv
  have hx := B.exec
  have hb := B.bytes
  have hr := B.returns
  have hts := atoms_spec (ws := tqw_M_plus) B.pre
  have hww : ∀ w ∈ tqW, w.before _ s = true := fun w h => hts w (List.mem_cons_of_mem _ h)
  have hown : s.vm.findClass RM = some m.cls := findClass_of_methodNamed B.named
  have hlocks := B.notSynchronized
  subst hsz
  have hD := hD0.self (sz := s.heap.size)
  generalize hAe : va_A [(mo, .inr (3, [.int nz, .ref la, .int sq, .ref sa])), (la, .inl (cI, 200, .inl lf))] s.heap.size = A at hD ⊢
  have hA : ∀ q : Nat, s.heap.size ≤ q → A q := fun q h => by rw [← hAe]; exact Or.inr h
  have hS : va_S A s.heap s.heap [] := va_S.rf
  have hP : va_P (dC, dI) tqCl [(mo, .inr (3, [.int nz, .ref la, .int sq, .ref sa])), (la, .inl (cI, 200, .inl lf))] s.heap := hP
  have hl := lv_entry ([.ref mo, .int ga, .int gb]) (n := 6) (Nat.le_of_ble_eq_true rfl)
  rw [lg_entry_eq]
  generalize (lg_sl ([.ref mo, .int ga, .int gb]) ++ List.replicate (6 - (lg_sl ([.ref mo, .int ga, .int gb])).length) Slot.unset).toArray = ls at hl ⊢
  have hl : lv_has ls 6 [(0, .ref mo), (1, .int ga), (2, .int gb)] := hl
  have B5 : ∀ (n5 : Nat) (ls : Array Slot) (H : Heap) (locs : List Loc) (v3 : Int32) (v4 : Int32) (lf : Nat → Int32), m_plus_b5 ga gb n5 v3 v4 lf = some r → lv_has ls 6 [(0, .ref mo), (1, .int ga), (2, .int gb), (3, .int v3), (4, .int v4)] → va_P (dC, dI) tqCl [(mo, .inr (3, [.int nz, .ref la, .int sq, .ref sa])), (la, .inl (cI, 200, .inl lf))] H → va_D A [(mo, .inr (3, [.int nz, .ref la, .int sq, .ref sa])), (la, .inl (cI, 200, .inl lf))] → va_S A s.heap H locs → W p l e ({ frames := 0, cells := 0, slots := 0, locals := 0 }) s m ([.ref mo, .int ga, .int gb] : List Value).toArray below meth c H locs 0 0 (MQ below (va_Qv (fun (_ : Unit) => True) (fun (_ : Unit) (t : State) => va_P (dC, dI) tqCl [(mo, .inr (3, [.int nz, .ref la, .int sq, .ref sa])), (la, .inl (cI, 200, .inl r))] t.heap ∧ va_K (dC, dI) tqCl [(cI, .int)] t ∧ va_D (A) [(mo, .inr (3, [.int nz, .ref la, .int sq, .ref sa])), (la, .inl (cI, 200, .inl r))]) (A)) ([.ref mo, .int ga, .int gb] : List Value).toArray s 0 0 A) (F0 m 5 ls []) := by
    try clear hf
    intro n5
    induction n5 with
    | zero =>
      intro ls H locs v3 v4 lf hf hl hP hD hS
      have hf : (none : Option ((Nat → Int32))) = some r := hf
      cases hf
    | succ n5 ih5 =>
      intro ls H locs v3 v4 lf hf hl hP hD hS
      unfold m_plus_b5 at hf
      refine lv_iload hx hb dM_plus_5 (lv_at hl 4 rfl) ?_
      refine lv_bipush (v := 40) hx hb dM_plus_7 (by decide) ?_
      refine lv_icmp_ge hx hb dM_plus_9 rfl (fun h1 => ?_) (fun h1 => ?_)
      · rw [if_pos h1] at hf
        have hf := Option.some.inj hf
        subst hf
        exact W.vret hx hb hr (fun t ht hW => ⟨⟨(), rfl, trivial, by rw [ht]; exact hP, va_K.moved hW.alike hK, hD⟩, hS.F ht⟩) hS.2.2 dM_plus_70
      · rw [if_neg h1] at hf
        refine lv_aload_n hx hb dM_plus_12 rfl (lv_at hl 0 rfl) ?_
        refine va_get (D := (dC, dI)) (ci := 3) (v := .ref la) (C := RM) (T := TM) (N := 4) hx hb hww tqinM hown hK hP 0 rfl rfl 1 (by decide) (hww _ tqt_331) (fun _ h9 => h9) rfl dM_plus_13 ?_
        refine lv_bipush (v := 40) hx hb dM_plus_16 (by decide) ?_
        refine lv_iload_n hx hb dM_plus_18 rfl (lv_at hl 1 rfl) ?_
        refine lv_imul hx hb dM_plus_19 ?_
        refine lv_iload hx hb dM_plus_20 (lv_at hl 4 rfl) ?_
        refine lv_iadd hx hb dM_plus_22 ?_
        by_cases h2 : ((((40 : Int32) * ga) + v4) < 0 ∨ 200 ≤ (((40 : Int32) * ga) + v4).toNatClampNeg)
        · rw [if_pos h2] at hf
          cases hf
        · rw [if_neg h2] at hf
          refine va_iald hx hb hK hP 1 0 rfl rfl h2 dM_plus_23 ?_
          refine lv_aload_n hx hb dM_plus_24 rfl (lv_at hl 0 rfl) ?_
          refine va_get (D := (dC, dI)) (ci := 3) (v := .ref la) (C := RM) (T := TM) (N := 4) hx hb hww tqinM hown hK hP 0 rfl rfl 1 (by decide) (hww _ tqt_331) (fun _ h9 => h9) rfl dM_plus_25 ?_
          refine lv_bipush (v := 40) hx hb dM_plus_28 (by decide) ?_
          refine lv_iload_n hx hb dM_plus_30 rfl (lv_at hl 2 rfl) ?_
          refine lv_imul hx hb dM_plus_31 ?_
          refine lv_iload hx hb dM_plus_32 (lv_at hl 4 rfl) ?_
          refine lv_iadd hx hb dM_plus_34 ?_
          by_cases h3 : ((((40 : Int32) * gb) + v4) < 0 ∨ 200 ≤ (((40 : Int32) * gb) + v4).toNatClampNeg)
          · rw [if_pos h3] at hf
            cases hf
          · rw [if_neg h3] at hf
            refine va_iald hx hb hK hP 1 0 rfl rfl h3 dM_plus_35 ?_
            refine lv_iadd hx hb dM_plus_36 ?_
            refine lv_iload_n hx hb dM_plus_37 rfl (lv_at hl 3 rfl) ?_
            refine lv_iadd hx hb dM_plus_38 ?_
            refine lv_topi (fun x4 e4 => ?_)
            have hf := tq_nm_at e4 hf
            refine lv_istore (lv' := [(5, .int x4), (0, .ref mo), (1, .int ga), (2, .int gb), (3, .int v3), (4, .int v4)]) hx hb dM_plus_39 hl (by decide) rfl (fun ls hl => ?_)
            refine lv_aload_n hx hb dM_plus_41 rfl (lv_at hl 1 rfl) ?_
            refine va_get (D := (dC, dI)) (ci := 3) (v := .ref la) (C := RM) (T := TM) (N := 4) hx hb hww tqinM hown hK hP 0 rfl rfl 1 (by decide) (hww _ tqt_331) (fun _ h9 => h9) rfl dM_plus_42 ?_
            refine lv_bipush (v := 40) hx hb dM_plus_45 (by decide) ?_
            refine lv_iload_n hx hb dM_plus_47 rfl (lv_at hl 2 rfl) ?_
            refine lv_imul hx hb dM_plus_48 ?_
            refine lv_iload hx hb dM_plus_49 (lv_at hl 5 rfl) ?_
            refine lv_iadd hx hb dM_plus_51 ?_
            refine lv_iload hx hb dM_plus_52 (lv_at hl 0 rfl) ?_
            refine lv_ldc (v := 65535) hx hb hown (hww _ tqt_388) dM_plus_54 ?_
            refine lv_iand hx hb dM_plus_56 ?_
            by_cases h5 : ((((40 : Int32) * ga) + v4) < 0 ∨ 200 ≤ (((40 : Int32) * ga) + v4).toNatClampNeg)
            · rw [if_pos h5] at hf
              cases hf
            · rw [if_neg h5] at hf
              refine va_iast hx hb hK hP hD hS 1 0 rfl rfl h5 dM_plus_57 (fun H locs hP hD hS => ?_)
              have hP : va_P (dC, dI) tqCl [(mo, .inr (3, [.int nz, .ref la, .int sq, .ref sa])), (la, .inl (cI, 200, .inl (upd lf (((40 : Int32) * ga) + v4).toNatClampNeg (x4 &&& (65535 : Int32)))))] H := hP
              have hD : va_D A [(mo, .inr (3, [.int nz, .ref la, .int sq, .ref sa])), (la, .inl (cI, 200, .inl (upd lf (((40 : Int32) * ga) + v4).toNatClampNeg (x4 &&& (65535 : Int32)))))] := hD
              refine lv_iload hx hb dM_plus_58 (lv_at hl 0 rfl) ?_
              refine lv_bipush (v := 16) hx hb dM_plus_60 (by decide) ?_
              refine lv_ishr hx hb dM_plus_62 ?_
              refine lv_topi (fun x6 e6 => ?_)
              have hf := tq_nm_at e6 hf
              refine lv_istore_n (lv' := [(3, .int x6), (5, .int x4), (0, .ref mo), (1, .int ga), (2, .int gb), (4, .int v4)]) hx hb dM_plus_63 rfl hl (by decide) rfl (fun ls hl => ?_)
              refine lv_iinc (v := v4 + (1 : Int32)) (lv' := [(4, .int (v4 + (1 : Int32))), (3, .int x6), (5, .int x4), (0, .ref mo), (1, .int ga), (2, .int gb)]) hx hb dM_plus_64 hl (k := 5) rfl rfl (by decide) rfl (fun ls hl => ?_)
              refine lv_goto hx hb dM_plus_67 rfl ?_
              exact ih5 ls _ _ x6 (v4 + (1 : Int32)) (upd lf (((40 : Int32) * ga) + v4).toNatClampNeg (x4 &&& (65535 : Int32))) hf (lv_sub hl [3, 4, 5, 1, 0] rfl) hP hD hS
  unfold m_plus at hf
  refine lv_iconst (v := 0) hx hb dM_plus_0 (by decide) ?_
  refine lv_istore_n (lv' := [(3, .int (0 : Int32)), (0, .ref mo), (1, .int ga), (2, .int gb)]) hx hb dM_plus_1 rfl hl (by decide) rfl (fun ls hl => ?_)
  refine lv_iconst (v := 0) hx hb dM_plus_2 (by decide) ?_
  refine lv_istore (lv' := [(4, .int (0 : Int32)), (3, .int (0 : Int32)), (0, .ref mo), (1, .int ga), (2, .int gb)]) hx hb dM_plus_3 hl (by decide) rfl (fun ls hl => ?_)
  exact B5 41 ls _ _ (0 : Int32) (0 : Int32) lf hf (lv_sub hl [2, 3, 4, 1, 0] rfl) hP hD hS
set_option maxHeartbeats 4000000 in
set_option maxRecDepth 100000 in
theorem c_m_apart (l : Launch) (dC : Nat → ClassId) (dI : Nat → Nat → Nat) (mo : Nat) (la : Nat) (sa : Nat) (cI : ClassId) (sz : Nat) (ga : Int32) (gb : Int32) (gt : Int32) (nz : Int32) (sq : Int32) (lf : Nat → Int32) (r : (Nat → Int32)) (hf : m_apart lf ga gb gt = some r) : Met l yM_apart tqw_M_apart ({ frames := 0, cells := 0, slots := 0, locals := 0 }) (va_Pc [.ref mo, .int ga, .int gb, .int gt] (fun U => U.heap.size = sz ∧ va_P (dC, dI) tqCl [(mo, .inr (3, [.int nz, .ref la, .int sq, .ref sa])), (la, .inl (cI, 200, .inl lf))] U.heap ∧ va_K (dC, dI) tqCl [(cI, .int)] U ∧ va_D (fun _ => True) [(mo, .inr (3, [.int nz, .ref la, .int sq, .ref sa])), (la, .inl (cI, 200, .inl lf))] ∧ tqN U)) (va_Qv (fun (_ : Unit) => True) (fun (_ : Unit) (t : State) => va_P (dC, dI) tqCl [(mo, .inr (3, [.int nz, .ref la, .int sq, .ref sa])), (la, .inl (cI, 200, .inl r))] t.heap ∧ va_K (dC, dI) tqCl [(cI, .int)] t ∧ va_D (va_A [(mo, .inr (3, [.int nz, .ref la, .int sq, .ref sa])), (la, .inl (cI, 200, .inl lf))] sz) [(mo, .inr (3, [.int nz, .ref la, .int sq, .ref sa])), (la, .inl (cI, 200, .inl r))]) (va_A [(mo, .inr (3, [.int nz, .ref la, .int sq, .ref sa])), (la, .inl (cI, 200, .inl lf))] sz)) 0 0 (va_A [(mo, .inr (3, [.int nz, .ref la, .int sq, .ref sa])), (la, .inl (cI, 200, .inl lf))] sz) := by
  refine Met.ofW (cc := cM_apart) (maxL := 7) (ret := none) (by decide) rfl ?_
  intro p e s m args below meth c s₁ B hml hv
  obtain ⟨rfl, hsz, hP, hK, hD0, hN⟩ := hv
  have hx := B.exec
  have hb := B.bytes
  have hr := B.returns
  have hts := atoms_spec (ws := tqw_M_apart) B.pre
  have hww : ∀ w ∈ tqW, w.before _ s = true := fun w h => hts w (List.mem_cons_of_mem _ h)
  have hown : s.vm.findClass RM = some m.cls := findClass_of_methodNamed B.named
  have hlocks := B.notSynchronized
  subst hsz
  have hD := hD0.self (sz := s.heap.size)
  generalize hAe : va_A [(mo, .inr (3, [.int nz, .ref la, .int sq, .ref sa])), (la, .inl (cI, 200, .inl lf))] s.heap.size = A at hD ⊢
  have hA : ∀ q : Nat, s.heap.size ≤ q → A q := fun q h => by rw [← hAe]; exact Or.inr h
  have hS : va_S A s.heap s.heap [] := va_S.rf
  have hP : va_P (dC, dI) tqCl [(mo, .inr (3, [.int nz, .ref la, .int sq, .ref sa])), (la, .inl (cI, 200, .inl lf))] s.heap := hP
  have hl := lv_entry ([.ref mo, .int ga, .int gb, .int gt]) (n := 7) (Nat.le_of_ble_eq_true rfl)
  rw [lg_entry_eq]
  generalize (lg_sl ([.ref mo, .int ga, .int gb, .int gt]) ++ List.replicate (7 - (lg_sl ([.ref mo, .int ga, .int gb, .int gt])).length) Slot.unset).toArray = ls at hl ⊢
  have hl : lv_has ls 7 [(0, .ref mo), (1, .int ga), (2, .int gb), (3, .int gt)] := hl
  have B6 : ∀ (n6 : Nat) (ls : Array Slot) (H : Heap) (locs : List Loc) (v4 : Int32) (v5 : Int32) (lf : Nat → Int32), m_apart_b6 ga gb gt n6 v4 v5 lf = some r → lv_has ls 7 [(0, .ref mo), (1, .int ga), (2, .int gb), (3, .int gt), (4, .int v4), (5, .int v5)] → va_P (dC, dI) tqCl [(mo, .inr (3, [.int nz, .ref la, .int sq, .ref sa])), (la, .inl (cI, 200, .inl lf))] H → va_D A [(mo, .inr (3, [.int nz, .ref la, .int sq, .ref sa])), (la, .inl (cI, 200, .inl lf))] → va_S A s.heap H locs → W p l e ({ frames := 0, cells := 0, slots := 0, locals := 0 }) s m ([.ref mo, .int ga, .int gb, .int gt] : List Value).toArray below meth c H locs 0 0 (MQ below (va_Qv (fun (_ : Unit) => True) (fun (_ : Unit) (t : State) => va_P (dC, dI) tqCl [(mo, .inr (3, [.int nz, .ref la, .int sq, .ref sa])), (la, .inl (cI, 200, .inl r))] t.heap ∧ va_K (dC, dI) tqCl [(cI, .int)] t ∧ va_D (A) [(mo, .inr (3, [.int nz, .ref la, .int sq, .ref sa])), (la, .inl (cI, 200, .inl r))]) (A)) ([.ref mo, .int ga, .int gb, .int gt] : List Value).toArray s 0 0 A) (F0 m 6 ls []) := by
    try clear hf
    intro n6
    induction n6 with
    | zero =>
      intro ls H locs v4 v5 lf hf hl hP hD hS
      have hf : (none : Option ((Nat → Int32))) = some r := hf
      cases hf
    | succ n6 ih6 =>
      have B70 : ∀ (ls : Array Slot) (H : Heap) (locs : List Loc) (v5 : Int32) (t0 : Int32) (lf : Nat → Int32), m_apart_b70 (m_apart_b6 ga gb gt n6) v5 t0 lf = some r → lv_has ls 7 [(0, .ref mo), (1, .int ga), (2, .int gb), (3, .int gt), (5, .int v5)] → va_P (dC, dI) tqCl [(mo, .inr (3, [.int nz, .ref la, .int sq, .ref sa])), (la, .inl (cI, 200, .inl lf))] H → va_D A [(mo, .inr (3, [.int nz, .ref la, .int sq, .ref sa])), (la, .inl (cI, 200, .inl lf))] → va_S A s.heap H locs → W p l e ({ frames := 0, cells := 0, slots := 0, locals := 0 }) s m ([.ref mo, .int ga, .int gb, .int gt] : List Value).toArray below meth c H locs 0 0 (MQ below (va_Qv (fun (_ : Unit) => True) (fun (_ : Unit) (t : State) => va_P (dC, dI) tqCl [(mo, .inr (3, [.int nz, .ref la, .int sq, .ref sa])), (la, .inl (cI, 200, .inl r))] t.heap ∧ va_K (dC, dI) tqCl [(cI, .int)] t ∧ va_D (A) [(mo, .inr (3, [.int nz, .ref la, .int sq, .ref sa])), (la, .inl (cI, 200, .inl r))]) (A)) ([.ref mo, .int ga, .int gb, .int gt] : List Value).toArray s 0 0 A) (F0 m 70 ls [.int t0]) := by
        try clear hf
        intro ls H locs v5 t0 lf hf hl hP hD hS
        unfold m_apart_b70 at hf
        refine lv_istore (lv' := [(4, .int t0), (0, .ref mo), (1, .int ga), (2, .int gb), (3, .int gt), (5, .int v5)]) hx hb dM_apart_70 hl (by decide) rfl (fun ls hl => ?_)
        refine lv_iinc (v := v5 + (1 : Int32)) (lv' := [(5, .int (v5 + (1 : Int32))), (4, .int t0), (0, .ref mo), (1, .int ga), (2, .int gb), (3, .int gt)]) hx hb dM_apart_72 hl (k := 5) rfl rfl (by decide) rfl (fun ls hl => ?_)
        refine lv_goto hx hb dM_apart_75 rfl ?_
        exact ih6 ls _ _ t0 (v5 + (1 : Int32)) lf hf (lv_sub hl [2, 3, 4, 5, 1, 0] rfl) hP hD hS
      intro ls H locs v4 v5 lf hf hl hP hD hS
      unfold m_apart_b6 at hf
      refine lv_iload hx hb dM_apart_6 (lv_at hl 5 rfl) ?_
      refine lv_bipush (v := 40) hx hb dM_apart_8 (by decide) ?_
      refine lv_icmp_ge hx hb dM_apart_10 rfl (fun h1 => ?_) (fun h1 => ?_)
      · rw [if_pos h1] at hf
        have hf := Option.some.inj hf
        subst hf
        exact W.vret hx hb hr (fun t ht hW => ⟨⟨(), rfl, trivial, by rw [ht]; exact hP, va_K.moved hW.alike hK, hD⟩, hS.F ht⟩) hS.2.2 dM_apart_78
      · rw [if_neg h1] at hf
        refine lv_aload_n hx hb dM_apart_13 rfl (lv_at hl 0 rfl) ?_
        refine va_get (D := (dC, dI)) (ci := 3) (v := .ref la) (C := RM) (T := TM) (N := 4) hx hb hww tqinM hown hK hP 0 rfl rfl 1 (by decide) (hww _ tqt_331) (fun _ h9 => h9) rfl dM_apart_14 ?_
        refine lv_bipush (v := 40) hx hb dM_apart_17 (by decide) ?_
        refine lv_iload_n hx hb dM_apart_19 rfl (lv_at hl 1 rfl) ?_
        refine lv_imul hx hb dM_apart_20 ?_
        refine lv_iload hx hb dM_apart_21 (lv_at hl 5 rfl) ?_
        refine lv_iadd hx hb dM_apart_23 ?_
        by_cases h2 : ((((40 : Int32) * ga) + v5) < 0 ∨ 200 ≤ (((40 : Int32) * ga) + v5).toNatClampNeg)
        · rw [if_pos h2] at hf
          cases hf
        · rw [if_neg h2] at hf
          refine va_iald hx hb hK hP 1 0 rfl rfl h2 dM_apart_24 ?_
          refine lv_aload_n hx hb dM_apart_25 rfl (lv_at hl 0 rfl) ?_
          refine va_get (D := (dC, dI)) (ci := 3) (v := .ref la) (C := RM) (T := TM) (N := 4) hx hb hww tqinM hown hK hP 0 rfl rfl 1 (by decide) (hww _ tqt_331) (fun _ h9 => h9) rfl dM_apart_26 ?_
          refine lv_bipush (v := 40) hx hb dM_apart_29 (by decide) ?_
          refine lv_iload_n hx hb dM_apart_31 rfl (lv_at hl 2 rfl) ?_
          refine lv_imul hx hb dM_apart_32 ?_
          refine lv_iload hx hb dM_apart_33 (lv_at hl 5 rfl) ?_
          refine lv_iadd hx hb dM_apart_35 ?_
          by_cases h3 : ((((40 : Int32) * gb) + v5) < 0 ∨ 200 ≤ (((40 : Int32) * gb) + v5).toNatClampNeg)
          · rw [if_pos h3] at hf
            cases hf
          · rw [if_neg h3] at hf
            refine va_iald hx hb hK hP 1 0 rfl rfl h3 dM_apart_36 ?_
            refine lv_isub hx hb dM_apart_37 ?_
            refine lv_iload hx hb dM_apart_38 (lv_at hl 4 rfl) ?_
            refine lv_isub hx hb dM_apart_40 ?_
            refine lv_topi (fun x4 e4 => ?_)
            have hf := tq_nm_at e4 hf
            refine lv_istore (lv' := [(6, .int x4), (0, .ref mo), (1, .int ga), (2, .int gb), (3, .int gt), (4, .int v4), (5, .int v5)]) hx hb dM_apart_41 hl (by decide) rfl (fun ls hl => ?_)
            refine lv_aload_n hx hb dM_apart_43 rfl (lv_at hl 1 rfl) ?_
            refine va_get (D := (dC, dI)) (ci := 3) (v := .ref la) (C := RM) (T := TM) (N := 4) hx hb hww tqinM hown hK hP 0 rfl rfl 1 (by decide) (hww _ tqt_331) (fun _ h9 => h9) rfl dM_apart_44 ?_
            refine lv_bipush (v := 40) hx hb dM_apart_47 (by decide) ?_
            refine lv_iload_n hx hb dM_apart_49 rfl (lv_at hl 4 rfl) ?_
            refine lv_imul hx hb dM_apart_50 ?_
            refine lv_iload hx hb dM_apart_51 (lv_at hl 6 rfl) ?_
            refine lv_iadd hx hb dM_apart_53 ?_
            refine lv_iload hx hb dM_apart_54 (lv_at hl 0 rfl) ?_
            refine lv_ldc (v := 65535) hx hb hown (hww _ tqt_388) dM_apart_56 ?_
            refine lv_iand hx hb dM_apart_58 ?_
            by_cases h5 : ((((40 : Int32) * gt) + v5) < 0 ∨ 200 ≤ (((40 : Int32) * gt) + v5).toNatClampNeg)
            · rw [if_pos h5] at hf
              cases hf
            · rw [if_neg h5] at hf
              refine va_iast hx hb hK hP hD hS 1 0 rfl rfl h5 dM_apart_59 (fun H locs hP hD hS => ?_)
              have hP : va_P (dC, dI) tqCl [(mo, .inr (3, [.int nz, .ref la, .int sq, .ref sa])), (la, .inl (cI, 200, .inl (upd lf (((40 : Int32) * gt) + v5).toNatClampNeg (x4 &&& (65535 : Int32)))))] H := hP
              have hD : va_D A [(mo, .inr (3, [.int nz, .ref la, .int sq, .ref sa])), (la, .inl (cI, 200, .inl (upd lf (((40 : Int32) * gt) + v5).toNatClampNeg (x4 &&& (65535 : Int32)))))] := hD
              refine lv_iload hx hb dM_apart_60 (lv_at hl 0 rfl) ?_
              refine lv_if_ge hx hb dM_apart_62 rfl (fun h6 => ?_) (fun h6 => ?_)
              · rw [if_pos h6] at hf
                refine lv_iconst (v := 0) hx hb dM_apart_69 (by decide) ?_
                exact B70 ls _ _ v5 (0 : Int32) (upd lf (((40 : Int32) * gt) + v5).toNatClampNeg (x4 &&& (65535 : Int32))) hf (lv_sub hl [1, 2, 3, 4, 6] rfl) hP hD hS
              · rw [if_neg h6] at hf
                refine lv_iconst (v := 1) hx hb dM_apart_65 (by decide) ?_
                refine lv_goto hx hb dM_apart_66 rfl ?_
                exact B70 ls _ _ v5 (1 : Int32) (upd lf (((40 : Int32) * gt) + v5).toNatClampNeg (x4 &&& (65535 : Int32))) hf (lv_sub hl [1, 2, 3, 4, 6] rfl) hP hD hS
  unfold m_apart at hf
  refine lv_iconst (v := 0) hx hb dM_apart_0 (by decide) ?_
  refine lv_istore (lv' := [(4, .int (0 : Int32)), (0, .ref mo), (1, .int ga), (2, .int gb), (3, .int gt)]) hx hb dM_apart_1 hl (by decide) rfl (fun ls hl => ?_)
  refine lv_iconst (v := 0) hx hb dM_apart_3 (by decide) ?_
  refine lv_istore (lv' := [(5, .int (0 : Int32)), (4, .int (0 : Int32)), (0, .ref mo), (1, .int ga), (2, .int gb), (3, .int gt)]) hx hb dM_apart_4 hl (by decide) rfl (fun ls hl => ?_)
  exact B6 41 ls _ _ (0 : Int32) (0 : Int32) lf hf (lv_sub hl [2, 3, 4, 5, 1, 0] rfl) hP hD hS
