set_option maxHeartbeats 4000000 in
set_option maxRecDepth 100000 in
theorem c_m_pattern (l : Launch) (dC : Nat → ClassId) (dI : Nat → Nat → Nat) (mo : Nat) (la : Nat) (sa : Nat) (sz : Nat) (x : Int32) (nz : Int32) (sq : Int32) (r : Int32) (hf : m_pattern nz x = r) : Met l yM_pattern tqw_M_pattern ({ frames := 0, cells := 0, slots := 0, locals := 0 }) (va_Pc [.ref mo, .int x] (fun U => U.heap.size = sz ∧ va_P (dC, dI) tqCl [(mo, .inr (3, [.int nz, .ref la, .int sq, .ref sa]))] U.heap ∧ va_K (dC, dI) tqCl [] U ∧ va_D (fun _ => True) [(mo, .inr (3, [.int nz, .ref la, .int sq, .ref sa]))] ∧ tqN U)) (va_Qi (fun (a : Int32) (_ : Unit) => a = r) (fun (_ : Unit) (t : State) => va_P (dC, dI) tqCl [(mo, .inr (3, [.int nz, .ref la, .int sq, .ref sa]))] t.heap ∧ va_K (dC, dI) tqCl [] t ∧ va_D (va_A [(mo, .inr (3, [.int nz, .ref la, .int sq, .ref sa]))] sz) [(mo, .inr (3, [.int nz, .ref la, .int sq, .ref sa]))]) (va_A [(mo, .inr (3, [.int nz, .ref la, .int sq, .ref sa]))] sz)) 0 0 (va_A [(mo, .inr (3, [.int nz, .ref la, .int sq, .ref sa]))] sz) := by
  refine Met.ofW (cc := cM_pattern) (maxL := 2) (ret := (some .int)) (by decide) rfl ?_
  intro p e s m args below meth c s₁ B hml hv
  obtain ⟨rfl, hsz, hP, hK, hD0, hN⟩ := hv
  have hx := B.exec
  have hb := B.bytes
  have hr := B.returns
  have hts := atoms_spec (ws := tqw_M_pattern) B.pre
  have hww : ∀ w ∈ tqW, w.before _ s = true := fun w h => hts w (List.mem_cons_of_mem _ h)
  have hown : s.vm.findClass RM = some m.cls := findClass_of_methodNamed B.named
  have hlocks := B.notSynchronized
  subst hsz
  have hD := hD0.self (sz := s.heap.size)
  generalize hAe : va_A [(mo, .inr (3, [.int nz, .ref la, .int sq, .ref sa]))] s.heap.size = A at hD ⊢
  have hA : ∀ q : Nat, s.heap.size ≤ q → A q := fun q h => by rw [← hAe]; exact Or.inr h
  have hS : va_S A s.heap s.heap [] := va_S.rf
  have hP : va_P (dC, dI) tqCl [(mo, .inr (3, [.int nz, .ref la, .int sq, .ref sa]))] s.heap := hP
  have hl := lv_entry ([.ref mo, .int x]) (n := 2) (Nat.le_of_ble_eq_true rfl)
  rw [lg_entry_eq]
  generalize (lg_sl ([.ref mo, .int x]) ++ List.replicate (2 - (lg_sl ([.ref mo, .int x])).length) Slot.unset).toArray = ls at hl ⊢
  have hl : lv_has ls 2 [(0, .ref mo), (1, .int x)] := hl
  unfold m_pattern at hf
  refine lv_aload_n hx hb dM_pattern_0 rfl (lv_at hl 0 rfl) ?_
  refine va_get (D := (dC, dI)) (ci := 3) (v := .int nz) (C := RM) (T := TM) (N := 4) hx hb hww tqinM hown hK hP 0 rfl rfl 0 (by decide) (hww _ tqt_330) (fun _ h9 => h9) rfl dM_pattern_1 ?_
  refine lv_bipush (v := 32) hx hb dM_pattern_4 (by decide) ?_
  refine lv_icmp_ne hx hb dM_pattern_6 rfl (fun h1 => ?_) (fun h1 => ?_)
  · rw [if_pos h1] at hf
    refine lv_aload_n hx hb dM_pattern_13 rfl (lv_at hl 0 rfl) ?_
    refine va_get (D := (dC, dI)) (ci := 3) (v := .int nz) (C := RM) (T := TM) (N := 4) hx hb hww tqinM hown hK hP 0 rfl rfl 0 (by decide) (hww _ tqt_330) (fun _ h9 => h9) rfl dM_pattern_14 ?_
    refine lv_bipush (v := 16) hx hb dM_pattern_17 (by decide) ?_
    refine lv_icmp_ne hx hb dM_pattern_19 rfl (fun h2 => ?_) (fun h2 => ?_)
    · rw [if_pos h2] at hf
      refine lv_iload_n hx hb dM_pattern_27 rfl (lv_at hl 1 rfl) ?_
      refine lv_i2b hx hb dM_pattern_28 rfl ?_
      subst hf
      exact W.iret (v := x.toInt8.toInt32) hx hb hr (fun t ht hW => ⟨⟨x.toInt8.toInt32, (), rfl, rfl, by rw [ht]; exact hP, va_K.moved hW.alike hK, hD⟩, hS.F ht⟩) hS.2.2 dM_pattern_29
    · rw [if_neg (fun q : ¬ nz = (16 : Int32) => q h2)] at hf
      refine lv_iload_n hx hb dM_pattern_22 rfl (lv_at hl 1 rfl) ?_
      refine lv_i2s hx hb dM_pattern_23 rfl ?_
      refine lv_goto hx hb dM_pattern_24 rfl ?_
      subst hf
      exact W.iret (v := x.toInt16.toInt32) hx hb hr (fun t ht hW => ⟨⟨x.toInt16.toInt32, (), rfl, rfl, by rw [ht]; exact hP, va_K.moved hW.alike hK, hD⟩, hS.F ht⟩) hS.2.2 dM_pattern_29
  · rw [if_neg (fun q : ¬ nz = (32 : Int32) => q h1)] at hf
    refine lv_iload_n hx hb dM_pattern_9 rfl (lv_at hl 1 rfl) ?_
    refine lv_goto hx hb dM_pattern_10 rfl ?_
    subst hf
    exact W.iret (v := x) hx hb hr (fun t ht hW => ⟨⟨x, (), rfl, rfl, by rw [ht]; exact hP, va_K.moved hW.alike hK, hD⟩, hS.F ht⟩) hS.2.2 dM_pattern_29
set_option maxHeartbeats 4000000 in
set_option maxRecDepth 100000 in
theorem c_m_isNot (l : Launch) (dC : Nat → ClassId) (dI : Nat → Nat → Nat) (mo : Nat) (la : Nat) (sa : Nat) (sz : Nat) (x : Int32) (nz : Int32) (sq : Int32) (r : Int32) (hf : m_isNot nz x = r) : Met l yM_isNot tqw_M_isNot ({ frames := 1, cells := 0, slots := 0, locals := 21 }) (va_Pc [.ref mo, .int x] (fun U => U.heap.size = sz ∧ va_P (dC, dI) tqCl [(mo, .inr (3, [.int nz, .ref la, .int sq, .ref sa]))] U.heap ∧ va_K (dC, dI) tqCl [] U ∧ va_D (fun _ => True) [(mo, .inr (3, [.int nz, .ref la, .int sq, .ref sa]))] ∧ tqN U)) (va_Qi (fun (a : Int32) (_ : Unit) => a = r) (fun (_ : Unit) (t : State) => va_P (dC, dI) tqCl [(mo, .inr (3, [.int nz, .ref la, .int sq, .ref sa]))] t.heap ∧ va_K (dC, dI) tqCl [] t ∧ va_D (va_A [(mo, .inr (3, [.int nz, .ref la, .int sq, .ref sa]))] sz) [(mo, .inr (3, [.int nz, .ref la, .int sq, .ref sa]))]) (va_A [(mo, .inr (3, [.int nz, .ref la, .int sq, .ref sa]))] sz)) 0 0 (va_A [(mo, .inr (3, [.int nz, .ref la, .int sq, .ref sa]))] sz) := by
  refine Met.ofW (cc := cM_isNot) (maxL := 2) (ret := (some .boolean)) (by decide) rfl ?_
  intro p e s m args below meth c s₁ B hml hv
  obtain ⟨rfl, hsz, hP, hK, hD0, hN⟩ := hv
  have hx := B.exec
  have hb := B.bytes
  have hr := B.returns
  have hts := atoms_spec (ws := tqw_M_isNot) B.pre
  have hww : ∀ w ∈ tqW, w.before _ s = true := fun w h => hts w (List.mem_cons_of_mem _ h)
  have hown : s.vm.findClass RM = some m.cls := findClass_of_methodNamed B.named
  have hlocks := B.notSynchronized
  subst hsz
  have hD := hD0.self (sz := s.heap.size)
  generalize hAe : va_A [(mo, .inr (3, [.int nz, .ref la, .int sq, .ref sa]))] s.heap.size = A at hD ⊢
  have hA : ∀ q : Nat, s.heap.size ≤ q → A q := fun q h => by rw [← hAe]; exact Or.inr h
  have hS : va_S A s.heap s.heap [] := va_S.rf
  have hP : va_P (dC, dI) tqCl [(mo, .inr (3, [.int nz, .ref la, .int sq, .ref sa]))] s.heap := hP
  have hl := lv_entry ([.ref mo, .int x]) (n := 2) (Nat.le_of_ble_eq_true rfl)
  rw [lg_entry_eq]
  generalize (lg_sl ([.ref mo, .int x]) ++ List.replicate (2 - (lg_sl ([.ref mo, .int x])).length) Slot.unset).toArray = ls at hl ⊢
  have hl : lv_has ls 2 [(0, .ref mo), (1, .int x)] := hl
  unfold m_isNot at hf
  refine lv_aload_n hx hb dM_isNot_0 rfl (lv_at hl 0 rfl) ?_
  refine lv_iload_n hx hb dM_isNot_1 rfl (lv_at hl 1 rfl) ?_
  have hPc := hP.sub (ws' := [(mo, .inr (3, [.int nz, .ref la, .int sq, .ref sa]))]) [0] rfl
  have hDc := hD.sub (ws' := [(mo, .inr (3, [.int nz, .ref la, .int sq, .ref sa]))]) [0] (by decide) rfl
  have hKc := hK.sub (tys' := []) [] rfl
  have hFc := va_free (wc := [(mo, .inr (3, [.int nz, .ref la, .int sq, .ref sa]))]) hD hS hA [0] rfl
  refine va_calli (va_runV (As := [.int x]) (rest := []) ⟨hx, hb, hml, hown, hww⟩ (c_m_pattern l dC dI mo la sa s.heap.size x nz sq (m_pattern nz x) rfl) (cwV 1 hww (tq_gV tqt_360 tqt_362 tqt_7 tqt_35 tqt_363) rfl rfl rfl (by decide +kernel) ⟨Nat.le_of_ble_eq_true rfl, Nat.le_of_ble_eq_true rfl⟩) ⟨fun a U g mk q => by obtain ⟨q0, q1, qP, qK, qD, qN⟩ := q; exact ⟨q0, q1, qP, va_K.moved (u := U) (U := U.calling g mk a) (Vm.Alike.refl U.vm) qK, qD, tqN_same (u := U) (U := U.calling g mk a) rfl qN⟩, va_recv hK hP (ci := 3) rfl (q0 := 0) rfl, fun U hU hW => ⟨rfl, by rw [hU], by rw [hU]; exact hPc, va_K.moved hW.alike hKc, hDc.weaken (fun _ _ _ _ => trivial), tqN_warm hW hN⟩⟩ rfl rfl hl.1 rfl (lv_room (Nat.le_of_ble_eq_true rfl)) dM_isNot_2 ⟨Nat.zero_le _, Nat.zero_le _⟩) hS (fun q _ h => hFc q h) hFc (fun ra u0 t H1 locs ht hvm hpost hB hz1 hk1 hS => ?_)
  have hpost : (m_pattern nz x) = ra := (show ra = (m_pattern nz x) from hpost).symm
  subst hpost
  obtain ⟨hP1, hK1, hD1⟩ := hB
  rw [ht] at hP1
  obtain ⟨hP, hD⟩ := va_join (wr := []) (w1 := [(mo, .inr (3, [.int nz, .ref la, .int sq, .ref sa]))]) hP hD [0] [] rfl rfl (by decide) (by decide) hk1 hFc hP1 hD1
  generalize H1 = H at hP hS ⊢
  have hP := hP.sub (ws' := [(mo, .inr (3, [.int nz, .ref la, .int sq, .ref sa]))]) [0] rfl
  have hD := hD.sub (ws' := [(mo, .inr (3, [.int nz, .ref la, .int sq, .ref sa]))]) [0] (by decide) rfl
  refine lv_aload_n hx hb dM_isNot_5 rfl (lv_at hl 0 rfl) ?_
  refine va_get (D := (dC, dI)) (ci := 3) (v := .int nz) (C := RM) (T := TM) (N := 4) hx hb hww tqinM hown hK hP 0 rfl rfl 0 (by decide) (hww _ tqt_330) (fun _ h9 => h9) rfl dM_isNot_6 ?_
  have hPc := hP.sub (ws' := []) [] rfl
  have hDc := hD.sub (ws' := []) [] (by decide) rfl
  have hKc := hK.sub (tys' := []) [] rfl
  have hFc := va_free (wc := []) hD hS hA [] rfl
  refine va_calli (va_runS (As := [.int nz]) (rest := [.int (m_pattern nz x)]) ⟨hx, hb, hml, hown, hww⟩ (c_m_not l dC dI H.size nz (m_not nz) rfl) (va_cwS 1 hww (tq_gS tqt_364 tqt_365 tqt_35 tqt_366) rfl rfl rfl (by decide +kernel) ⟨Nat.le_of_ble_eq_true rfl, Nat.le_of_ble_eq_true rfl⟩) ⟨fun a U g mk q => by obtain ⟨q0, q1, qP, qK, qD, qN⟩ := q; exact ⟨q0, q1, qP, va_K.moved (u := U) (U := U.calling g mk a) (Vm.Alike.refl U.vm) qK, qD, tqN_same (u := U) (U := U.calling g mk a) rfl qN⟩, fun U hU hW => ⟨rfl, by rw [hU], by rw [hU]; exact hPc, va_K.moved hW.alike hKc, hDc.weaken (fun _ _ _ _ => trivial), tqN_warm hW hN⟩⟩ rfl rfl hl.1 rfl (lv_room (Nat.le_of_ble_eq_true rfl)) dM_isNot_9 ⟨Nat.zero_le _, Nat.zero_le _⟩) hS (fun q _ h => hFc q h) hFc (fun ra u0 t H1 locs ht hvm hpost hB hz1 hk1 hS => ?_)
  have hpost : (m_not nz) = ra := (show ra = (m_not nz) from hpost).symm
  subst hpost
  obtain ⟨hP1, hK1, hD1⟩ := hB
  rw [ht] at hP1
  obtain ⟨hP, hD⟩ := va_join (wr := [(mo, .inr (3, [.int nz, .ref la, .int sq, .ref sa]))]) (w1 := []) hP hD [] [0] rfl rfl (by decide) (by decide) hk1 hFc hP1 hD1
  generalize H1 = H at hP hS ⊢
  have hP := hP.sub (ws' := [(mo, .inr (3, [.int nz, .ref la, .int sq, .ref sa]))]) [0] rfl
  have hD := hD.sub (ws' := [(mo, .inr (3, [.int nz, .ref la, .int sq, .ref sa]))]) [0] (by decide) rfl
  refine lv_icmp_ne hx hb dM_isNot_12 rfl (fun h3 => ?_) (fun h3 => ?_)
  · rw [if_pos h3] at hf
    refine lv_iconst (v := 0) hx hb dM_isNot_19 (by decide) ?_
    subst hf
    exact W.zret (v := (0 : Int32)) hx hb hr (tq_nb_bool (by decide)) (fun t ht hW => ⟨⟨(0 : Int32), (), rfl, rfl, by rw [ht]; exact hP, va_K.moved hW.alike hK, hD⟩, hS.F ht⟩) hS.2.2 dM_isNot_20
  · rw [if_neg (fun q : ¬ (m_pattern nz x) = (m_not nz) => q h3)] at hf
    refine lv_iconst (v := 1) hx hb dM_isNot_15 (by decide) ?_
    refine lv_goto hx hb dM_isNot_16 rfl ?_
    subst hf
    exact W.zret (v := (1 : Int32)) hx hb hr (tq_nb_bool (by decide)) (fun t ht hW => ⟨⟨(1 : Int32), (), rfl, rfl, by rw [ht]; exact hP, va_K.moved hW.alike hK, hD⟩, hS.F ht⟩) hS.2.2 dM_isNot_20
set_option maxHeartbeats 4000000 in
set_option maxRecDepth 100000 in
theorem c_m_negative (l : Launch) (dC : Nat → ClassId) (dI : Nat → Nat → Nat) (mo : Nat) (la : Nat) (sa : Nat) (sz : Nat) (x : Int32) (nz : Int32) (sq : Int32) (r : Int32) (hf : m_negative nz x = r) : Met l yM_negative tqw_M_negative ({ frames := 1, cells := 0, slots := 0, locals := 21 }) (va_Pc [.ref mo, .int x] (fun U => U.heap.size = sz ∧ va_P (dC, dI) tqCl [(mo, .inr (3, [.int nz, .ref la, .int sq, .ref sa]))] U.heap ∧ va_K (dC, dI) tqCl [] U ∧ va_D (fun _ => True) [(mo, .inr (3, [.int nz, .ref la, .int sq, .ref sa]))] ∧ tqN U)) (va_Qi (fun (a : Int32) (_ : Unit) => a = r) (fun (_ : Unit) (t : State) => va_P (dC, dI) tqCl [(mo, .inr (3, [.int nz, .ref la, .int sq, .ref sa]))] t.heap ∧ va_K (dC, dI) tqCl [] t ∧ va_D (va_A [(mo, .inr (3, [.int nz, .ref la, .int sq, .ref sa]))] sz) [(mo, .inr (3, [.int nz, .ref la, .int sq, .ref sa]))]) (va_A [(mo, .inr (3, [.int nz, .ref la, .int sq, .ref sa]))] sz)) 0 0 (va_A [(mo, .inr (3, [.int nz, .ref la, .int sq, .ref sa]))] sz) := by
  refine Met.ofW (cc := cM_negative) (maxL := 2) (ret := (some .boolean)) (by decide) rfl ?_
  intro p e s m args below meth c s₁ B hml hv
  obtain ⟨rfl, hsz, hP, hK, hD0, hN⟩ := hv
  have hx := B.exec
  have hb := B.bytes
  have hr := B.returns
  have hts := atoms_spec (ws := tqw_M_negative) B.pre
  have hww : ∀ w ∈ tqW, w.before _ s = true := fun w h => hts w (List.mem_cons_of_mem _ h)
  have hown : s.vm.findClass RM = some m.cls := findClass_of_methodNamed B.named
  have hlocks := B.notSynchronized
  subst hsz
  have hD := hD0.self (sz := s.heap.size)
  generalize hAe : va_A [(mo, .inr (3, [.int nz, .ref la, .int sq, .ref sa]))] s.heap.size = A at hD ⊢
  have hA : ∀ q : Nat, s.heap.size ≤ q → A q := fun q h => by rw [← hAe]; exact Or.inr h
  have hS : va_S A s.heap s.heap [] := va_S.rf
  have hP : va_P (dC, dI) tqCl [(mo, .inr (3, [.int nz, .ref la, .int sq, .ref sa]))] s.heap := hP
  have hl := lv_entry ([.ref mo, .int x]) (n := 2) (Nat.le_of_ble_eq_true rfl)
  rw [lg_entry_eq]
  generalize (lg_sl ([.ref mo, .int x]) ++ List.replicate (2 - (lg_sl ([.ref mo, .int x])).length) Slot.unset).toArray = ls at hl ⊢
  have hl : lv_has ls 2 [(0, .ref mo), (1, .int x)] := hl
  unfold m_negative at hf
  refine lv_aload_n hx hb dM_negative_0 rfl (lv_at hl 0 rfl) ?_
  refine lv_iload_n hx hb dM_negative_1 rfl (lv_at hl 1 rfl) ?_
  have hPc := hP.sub (ws' := [(mo, .inr (3, [.int nz, .ref la, .int sq, .ref sa]))]) [0] rfl
  have hDc := hD.sub (ws' := [(mo, .inr (3, [.int nz, .ref la, .int sq, .ref sa]))]) [0] (by decide) rfl
  have hKc := hK.sub (tys' := []) [] rfl
  have hFc := va_free (wc := [(mo, .inr (3, [.int nz, .ref la, .int sq, .ref sa]))]) hD hS hA [0] rfl
  refine va_calli (va_runV (As := [.int x]) (rest := []) ⟨hx, hb, hml, hown, hww⟩ (c_m_pattern l dC dI mo la sa s.heap.size x nz sq (m_pattern nz x) rfl) (cwV 1 hww (tq_gV tqt_360 tqt_362 tqt_7 tqt_35 tqt_363) rfl rfl rfl (by decide +kernel) ⟨Nat.le_of_ble_eq_true rfl, Nat.le_of_ble_eq_true rfl⟩) ⟨fun a U g mk q => by obtain ⟨q0, q1, qP, qK, qD, qN⟩ := q; exact ⟨q0, q1, qP, va_K.moved (u := U) (U := U.calling g mk a) (Vm.Alike.refl U.vm) qK, qD, tqN_same (u := U) (U := U.calling g mk a) rfl qN⟩, va_recv hK hP (ci := 3) rfl (q0 := 0) rfl, fun U hU hW => ⟨rfl, by rw [hU], by rw [hU]; exact hPc, va_K.moved hW.alike hKc, hDc.weaken (fun _ _ _ _ => trivial), tqN_warm hW hN⟩⟩ rfl rfl hl.1 rfl (lv_room (Nat.le_of_ble_eq_true rfl)) dM_negative_2 ⟨Nat.zero_le _, Nat.zero_le _⟩) hS (fun q _ h => hFc q h) hFc (fun ra u0 t H1 locs ht hvm hpost hB hz1 hk1 hS => ?_)
  have hpost : (m_pattern nz x) = ra := (show ra = (m_pattern nz x) from hpost).symm
  subst hpost
  obtain ⟨hP1, hK1, hD1⟩ := hB
  rw [ht] at hP1
  obtain ⟨hP, hD⟩ := va_join (wr := []) (w1 := [(mo, .inr (3, [.int nz, .ref la, .int sq, .ref sa]))]) hP hD [0] [] rfl rfl (by decide) (by decide) hk1 hFc hP1 hD1
  generalize H1 = H at hP hS ⊢
  have hP := hP.sub (ws' := [(mo, .inr (3, [.int nz, .ref la, .int sq, .ref sa]))]) [0] rfl
  have hD := hD.sub (ws' := [(mo, .inr (3, [.int nz, .ref la, .int sq, .ref sa]))]) [0] (by decide) rfl
  refine lv_if_ge hx hb dM_negative_5 rfl (fun h2 => ?_) (fun h2 => ?_)
  · rw [if_pos h2] at hf
    refine lv_iconst (v := 0) hx hb dM_negative_12 (by decide) ?_
    subst hf
    exact W.zret (v := (0 : Int32)) hx hb hr (tq_nb_bool (by decide)) (fun t ht hW => ⟨⟨(0 : Int32), (), rfl, rfl, by rw [ht]; exact hP, va_K.moved hW.alike hK, hD⟩, hS.F ht⟩) hS.2.2 dM_negative_13
  · rw [if_neg h2] at hf
    refine lv_iconst (v := 1) hx hb dM_negative_8 (by decide) ?_
    refine lv_goto hx hb dM_negative_9 rfl ?_
    subst hf
    exact W.zret (v := (1 : Int32)) hx hb hr (tq_nb_bool (by decide)) (fun t ht hW => ⟨⟨(1 : Int32), (), rfl, rfl, by rw [ht]; exact hP, va_K.moved hW.alike hK, hD⟩, hS.F ht⟩) hS.2.2 dM_negative_13
set_option maxHeartbeats 4000000 in
set_option maxRecDepth 100000 in
theorem c_m_load (l : Launch) (dC : Nat → ClassId) (dI : Nat → Nat → Nat) (mo : Nat) (la : Nat) (sa : Nat) (cI : ClassId) (sz : Nat) (rg : Int32) (x : Int32) (un : Int32) (nz : Int32) (sq : Int32) (lf : Nat → Int32) (r : (Nat → Int32)) (hf : m_load nz lf rg x un = some r) : Met l yM_load tqw_M_load ({ frames := 3, cells := 0, slots := 0, locals := 79 }) (va_Pc [.ref mo, .int rg, .int x, .int un] (fun U => U.heap.size = sz ∧ va_P (dC, dI) tqCl [(mo, .inr (3, [.int nz, .ref la, .int sq, .ref sa])), (la, .inl (cI, 200, .inl lf))] U.heap ∧ va_K (dC, dI) tqCl [(cI, .int)] U ∧ va_D (fun _ => True) [(mo, .inr (3, [.int nz, .ref la, .int sq, .ref sa])), (la, .inl (cI, 200, .inl lf))] ∧ tqN U)) (va_Qv (fun (_ : Unit) => True) (fun (_ : Unit) (t : State) => va_P (dC, dI) tqCl [(mo, .inr (3, [.int nz, .ref la, .int sq, .ref sa])), (la, .inl (cI, 200, .inl r))] t.heap ∧ va_K (dC, dI) tqCl [(cI, .int)] t ∧ va_D (va_A [(mo, .inr (3, [.int nz, .ref la, .int sq, .ref sa])), (la, .inl (cI, 200, .inl lf))] sz) [(mo, .inr (3, [.int nz, .ref la, .int sq, .ref sa])), (la, .inl (cI, 200, .inl r))]) (va_A [(mo, .inr (3, [.int nz, .ref la, .int sq, .ref sa])), (la, .inl (cI, 200, .inl lf))] sz)) 0 0 (va_A [(mo, .inr (3, [.int nz, .ref la, .int sq, .ref sa])), (la, .inl (cI, 200, .inl lf))] sz) := by
  refine Met.ofW (cc := cM_load) (maxL := 6) (ret := none) (by decide) rfl ?_
  intro p e s m args below meth c s₁ B hml hv
  obtain ⟨rfl, hsz, hP, hK, hD0, hN⟩ := hv
  have hx := B.exec
  have hb := B.bytes
  have hr := B.returns
  have hts := atoms_spec (ws := tqw_M_load) B.pre
  have hww : ∀ w ∈ tqW, w.before _ s = true := fun w h => hts w (List.mem_cons_of_mem _ h)
  have hown : s.vm.findClass RM = some m.cls := findClass_of_methodNamed B.named
  have hlocks := B.notSynchronized
  subst hsz
  have hD := hD0.self (sz := s.heap.size)
  generalize hAe : va_A [(mo, .inr (3, [.int nz, .ref la, .int sq, .ref sa])), (la, .inl (cI, 200, .inl lf))] s.heap.size = A at hD ⊢
  have hA : ∀ q : Nat, s.heap.size ≤ q → A q := fun q h => by rw [← hAe]; exact Or.inr h
  have hS : va_S A s.heap s.heap [] := va_S.rf
  have hP : va_P (dC, dI) tqCl [(mo, .inr (3, [.int nz, .ref la, .int sq, .ref sa])), (la, .inl (cI, 200, .inl lf))] s.heap := hP
  have hl := lv_entry ([.ref mo, .int rg, .int x, .int un]) (n := 6) (Nat.le_of_ble_eq_true rfl)
  rw [lg_entry_eq]
  generalize (lg_sl ([.ref mo, .int rg, .int x, .int un]) ++ List.replicate (6 - (lg_sl ([.ref mo, .int rg, .int x, .int un])).length) Slot.unset).toArray = ls at hl ⊢
  have hl : lv_has ls 6 [(0, .ref mo), (1, .int rg), (2, .int x), (3, .int un)] := hl
  have B40 : ∀ (ls : Array Slot) (H : Heap) (locs : List Loc) (t0 : Int64) (t1 : Int32) (lf : Nat → Int32), m_load_b40 nz un t0 t1 lf = some r → lv_has ls 6 [(0, .ref mo), (3, .int un)] → va_P (dC, dI) tqCl [(mo, .inr (3, [.int nz, .ref la, .int sq, .ref sa])), (la, .inl (cI, 200, .inl lf))] H → va_D A [(mo, .inr (3, [.int nz, .ref la, .int sq, .ref sa])), (la, .inl (cI, 200, .inl lf))] → va_S A s.heap H locs → W p l e ({ frames := 3, cells := 0, slots := 0, locals := 79 }) s m ([.ref mo, .int rg, .int x, .int un] : List Value).toArray below meth c H locs 0 0 (MQ below (va_Qv (fun (_ : Unit) => True) (fun (_ : Unit) (t : State) => va_P (dC, dI) tqCl [(mo, .inr (3, [.int nz, .ref la, .int sq, .ref sa])), (la, .inl (cI, 200, .inl r))] t.heap ∧ va_K (dC, dI) tqCl [(cI, .int)] t ∧ va_D (A) [(mo, .inr (3, [.int nz, .ref la, .int sq, .ref sa])), (la, .inl (cI, 200, .inl r))]) (A)) ([.ref mo, .int rg, .int x, .int un] : List Value).toArray s 0 0 A) (F0 m 40 ls [.long t0, .int t1, .ref mo]) := by
    try clear hf
    intro ls H locs t0 t1 lf hf hl hP hD hS
    unfold m_load_b40 at hf
    refine lv_aload_n hx hb dM_load_40 rfl (lv_at hl 0 rfl) ?_
    refine va_get (D := (dC, dI)) (ci := 3) (v := .int nz) (C := RM) (T := TM) (N := 4) hx hb hww tqinM hown hK hP 0 rfl rfl 0 (by decide) (hww _ tqt_330) (fun _ h9 => h9) rfl dM_load_41 ?_
    refine lv_iload_n hx hb dM_load_44 rfl (lv_at hl 1 rfl) ?_
    obtain ⟨lf5, hu, hf⟩ := tq_bd_some hf
    have hPc := hP.sub (ws' := [(mo, .inr (3, [.int nz, .ref la, .int sq, .ref sa])), (la, .inl (cI, 200, .inl lf))]) [0, 1] rfl
    have hDc := hD.sub (ws' := [(mo, .inr (3, [.int nz, .ref la, .int sq, .ref sa])), (la, .inl (cI, 200, .inl lf))]) [0, 1] (by decide) rfl
    have hKc := hK.sub (tys' := [(cI, .int)]) [0] rfl
    have hFc := va_free (wc := [(mo, .inr (3, [.int nz, .ref la, .int sq, .ref sa])), (la, .inl (cI, 200, .inl lf))]) hD hS hA [0, 1] rfl
    refine va_callv (va_runV (As := [.int t1, .long t0, .int nz, .int un]) (rest := []) ⟨hx, hb, hml, hown, hww⟩ (c_m_value l dC dI mo la sa cI H.size t1 t0 nz un nz sq lf lf5 hu) (cwV 4 hww (tq_gV tqt_375 tqt_377 tqt_10 tqt_35 tqt_378) rfl rfl rfl (by decide +kernel) ⟨Nat.le_of_ble_eq_true rfl, Nat.le_of_ble_eq_true rfl⟩) ⟨fun a U g mk q => by obtain ⟨q0, q1, qP, qK, qD, qN⟩ := q; exact ⟨q0, q1, qP, va_K.moved (u := U) (U := U.calling g mk a) (Vm.Alike.refl U.vm) qK, qD, tqN_same (u := U) (U := U.calling g mk a) rfl qN⟩, va_recv hK hP (ci := 3) rfl (q0 := 0) rfl, fun U hU hW => ⟨rfl, by rw [hU], by rw [hU]; exact hPc, va_K.moved hW.alike hKc, hDc.weaken (fun _ _ _ _ => trivial), tqN_warm hW hN⟩⟩ rfl rfl hl.1 rfl (lv_room (Nat.le_of_ble_eq_true rfl)) dM_load_45 ⟨Nat.zero_le _, Nat.zero_le _⟩) hS (fun q _ h => hFc q h) hFc (fun u0 t H1 locs ht hvm hpost hB hz1 hk1 hS => ?_)
    obtain ⟨hP1, hK1, hD1⟩ := hB
    rw [ht] at hP1
    obtain ⟨hP, hD⟩ := va_join (wr := []) (w1 := [(mo, .inr (3, [.int nz, .ref la, .int sq, .ref sa])), (la, .inl (cI, 200, .inl lf5))]) hP hD [0, 1] [] rfl rfl (by decide) (by decide) hk1 hFc hP1 hD1
    generalize H1 = H at hP hS ⊢
    have hP := hP.sub (ws' := [(mo, .inr (3, [.int nz, .ref la, .int sq, .ref sa])), (la, .inl (cI, 200, .inl lf5))]) [0, 1] rfl
    have hD := hD.sub (ws' := [(mo, .inr (3, [.int nz, .ref la, .int sq, .ref sa])), (la, .inl (cI, 200, .inl lf5))]) [0, 1] (by decide) rfl
    have hf := Option.some.inj hf
    subst hf
    exact W.vret hx hb hr (fun t ht hW => ⟨⟨(), rfl, trivial, by rw [ht]; exact hP, va_K.moved hW.alike hK, hD⟩, hS.F ht⟩) hS.2.2 dM_load_48
  unfold m_load at hf
  refine lv_aload_n hx hb dM_load_0 rfl (lv_at hl 0 rfl) ?_
  refine lv_iload_n hx hb dM_load_1 rfl (lv_at hl 2 rfl) ?_
  have hPc := hP.sub (ws' := [(mo, .inr (3, [.int nz, .ref la, .int sq, .ref sa]))]) [0] rfl
  have hDc := hD.sub (ws' := [(mo, .inr (3, [.int nz, .ref la, .int sq, .ref sa]))]) [0] (by decide) rfl
  have hKc := hK.sub (tys' := []) [] rfl
  have hFc := va_free (wc := [(mo, .inr (3, [.int nz, .ref la, .int sq, .ref sa]))]) hD hS hA [0] rfl
  refine va_calli (va_runV (As := [.int x]) (rest := []) ⟨hx, hb, hml, hown, hww⟩ (c_m_pattern l dC dI mo la sa s.heap.size x nz sq (m_pattern nz x) rfl) (cwV 1 hww (tq_gV tqt_360 tqt_362 tqt_7 tqt_35 tqt_363) rfl rfl rfl (by decide +kernel) ⟨Nat.le_of_ble_eq_true rfl, Nat.le_of_ble_eq_true rfl⟩) ⟨fun a U g mk q => by obtain ⟨q0, q1, qP, qK, qD, qN⟩ := q; exact ⟨q0, q1, qP, va_K.moved (u := U) (U := U.calling g mk a) (Vm.Alike.refl U.vm) qK, qD, tqN_same (u := U) (U := U.calling g mk a) rfl qN⟩, va_recv hK hP (ci := 3) rfl (q0 := 0) rfl, fun U hU hW => ⟨rfl, by rw [hU], by rw [hU]; exact hPc, va_K.moved hW.alike hKc, hDc.weaken (fun _ _ _ _ => trivial), tqN_warm hW hN⟩⟩ rfl rfl hl.1 rfl (lv_room (Nat.le_of_ble_eq_true rfl)) dM_load_2 ⟨Nat.zero_le _, Nat.zero_le _⟩) hS (fun q _ h => hFc q h) hFc (fun ra u0 t H1 locs ht hvm hpost hB hz1 hk1 hS => ?_)
  have hpost : (m_pattern nz x) = ra := (show ra = (m_pattern nz x) from hpost).symm
  subst hpost
  obtain ⟨hP1, hK1, hD1⟩ := hB
  rw [ht] at hP1
  obtain ⟨hP, hD⟩ := va_join (wr := [(la, .inl (cI, 200, .inl lf))]) (w1 := [(mo, .inr (3, [.int nz, .ref la, .int sq, .ref sa]))]) hP hD [0] [1] rfl rfl (by decide) (by decide) hk1 hFc hP1 hD1
  generalize H1 = H at hP hS ⊢
  have hP := hP.sub (ws' := [(mo, .inr (3, [.int nz, .ref la, .int sq, .ref sa])), (la, .inl (cI, 200, .inl lf))]) [1, 0] rfl
  have hD := hD.sub (ws' := [(mo, .inr (3, [.int nz, .ref la, .int sq, .ref sa])), (la, .inl (cI, 200, .inl lf))]) [1, 0] (by decide) rfl
  refine lv_i2l hx hb dM_load_5 rfl ?_
  refine lv_topl (fun x2 e2 => ?_)
  have hf := tq_nm_at e2 hf
  refine lv_lstore (lv' := [(4, .long x2), (0, .ref mo), (1, .int rg), (2, .int x), (3, .int un)]) hx hb dM_load_6 hl (by decide) rfl (fun ls hl => ?_)
  refine lv_lload hx hb dM_load_8 (lv_at hl 0 rfl) ?_
  refine lv_lconst (v := 0) hx hb dM_load_10 (by decide) ?_
  refine W.lcmp hx hb dM_load_11 ?_
  refine lv_if_ne hx hb dM_load_12 rfl (fun h3 => ?_) (fun h3 => ?_)
  · rw [if_pos h3] at hf
    refine lv_aload_n hx hb dM_load_23 rfl (lv_at hl 1 rfl) ?_
    refine lv_iload_n hx hb dM_load_24 rfl (lv_at hl 2 rfl) ?_
    refine lv_lload hx hb dM_load_25 (lv_at hl 0 rfl) ?_
    refine lv_lconst (v := 0) hx hb dM_load_27 (by decide) ?_
    refine W.lcmp hx hb dM_load_28 ?_
    refine lv_if_ge hx hb dM_load_29 rfl (fun h4 => ?_) (fun h4 => ?_)
    · rw [if_pos h4] at hf
      refine lv_lload hx hb dM_load_38 (lv_at hl 0 rfl) ?_
      exact B40 ls _ _ x2 rg lf hf (lv_sub hl [1, 4] rfl) hP hD hS
    · rw [if_neg h4] at hf
      refine lv_lload hx hb dM_load_32 (lv_at hl 0 rfl) ?_
      refine lv_lneg hx hb dM_load_34 ?_
      refine lv_goto hx hb dM_load_35 rfl ?_
      exact B40 ls _ _ (-x2) rg lf hf (lv_sub hl [1, 4] rfl) hP hD hS
  · rw [if_neg (fun q : ¬ (lg_cmp x2 (0 : Int64)) = 0 => q h3)] at hf
    refine lv_aload_n hx hb dM_load_15 rfl (lv_at hl 1 rfl) ?_
    refine lv_iload_n hx hb dM_load_16 rfl (lv_at hl 2 rfl) ?_
    obtain ⟨lf6, hu, hf⟩ := tq_bd_some hf
    have hPc := hP.sub (ws' := [(mo, .inr (3, [.int nz, .ref la, .int sq, .ref sa])), (la, .inl (cI, 200, .inl lf))]) [0, 1] rfl
    have hDc := hD.sub (ws' := [(mo, .inr (3, [.int nz, .ref la, .int sq, .ref sa])), (la, .inl (cI, 200, .inl lf))]) [0, 1] (by decide) rfl
    have hKc := hK.sub (tys' := [(cI, .int)]) [0] rfl
    have hFc := va_free (wc := [(mo, .inr (3, [.int nz, .ref la, .int sq, .ref sa])), (la, .inl (cI, 200, .inl lf))]) hD hS hA [0, 1] rfl
    refine va_callv (va_runV (As := [.int rg]) (rest := []) ⟨hx, hb, hml, hown, hww⟩ (c_m_zero l dC dI mo la sa cI H.size rg nz sq lf lf6 hu) (cwV 1 hww (tq_gV tqt_371 tqt_373 tqt_9 tqt_35 tqt_374) rfl rfl rfl (by decide +kernel) ⟨Nat.le_of_ble_eq_true rfl, Nat.le_of_ble_eq_true rfl⟩) ⟨fun a U g mk q => by obtain ⟨q0, q1, qP, qK, qD, qN⟩ := q; exact ⟨q0, q1, qP, va_K.moved (u := U) (U := U.calling g mk a) (Vm.Alike.refl U.vm) qK, qD, tqN_same (u := U) (U := U.calling g mk a) rfl qN⟩, va_recv hK hP (ci := 3) rfl (q0 := 0) rfl, fun U hU hW => ⟨rfl, by rw [hU], by rw [hU]; exact hPc, va_K.moved hW.alike hKc, hDc.weaken (fun _ _ _ _ => trivial), tqN_warm hW hN⟩⟩ rfl rfl hl.1 rfl (lv_room (Nat.le_of_ble_eq_true rfl)) dM_load_17 ⟨Nat.zero_le _, Nat.zero_le _⟩) hS (fun q _ h => hFc q h) hFc (fun u0 t H1 locs ht hvm hpost hB hz1 hk1 hS => ?_)
    obtain ⟨hP1, hK1, hD1⟩ := hB
    rw [ht] at hP1
    obtain ⟨hP, hD⟩ := va_join (wr := []) (w1 := [(mo, .inr (3, [.int nz, .ref la, .int sq, .ref sa])), (la, .inl (cI, 200, .inl lf6))]) hP hD [0, 1] [] rfl rfl (by decide) (by decide) hk1 hFc hP1 hD1
    generalize H1 = H at hP hS ⊢
    have hP := hP.sub (ws' := [(mo, .inr (3, [.int nz, .ref la, .int sq, .ref sa])), (la, .inl (cI, 200, .inl lf6))]) [0, 1] rfl
    have hD := hD.sub (ws' := [(mo, .inr (3, [.int nz, .ref la, .int sq, .ref sa])), (la, .inl (cI, 200, .inl lf6))]) [0, 1] (by decide) rfl
    refine lv_goto hx hb dM_load_20 rfl ?_
    have hf := Option.some.inj hf
    subst hf
    exact W.vret hx hb hr (fun t ht hW => ⟨⟨(), rfl, trivial, by rw [ht]; exact hP, va_K.moved hW.alike hK, hD⟩, hS.F ht⟩) hS.2.2 dM_load_48
set_option maxHeartbeats 4000000 in
set_option maxRecDepth 100000 in
theorem c_m_factor (l : Launch) (dC : Nat → ClassId) (dI : Nat → Nat → Nat) (mo : Nat) (la : Nat) (sa : Nat) (cI : ClassId) (sz : Nat) (pw : Int32) (nz : Int32) (sq : Int32) (lf : Nat → Int32) (r : Int32 × (Nat → Int32)) (hf : m_factor sq lf pw = some r) : Met l yM_factor tqw_M_factor ({ frames := 2, cells := 0, slots := 0, locals := 46 }) (va_Pc [.ref mo, .int pw] (fun U => U.heap.size = sz ∧ va_P (dC, dI) tqCl [(mo, .inr (3, [.int nz, .ref la, .int sq, .ref sa])), (la, .inl (cI, 200, .inl lf))] U.heap ∧ va_K (dC, dI) tqCl [(cI, .int)] U ∧ va_D (fun _ => True) [(mo, .inr (3, [.int nz, .ref la, .int sq, .ref sa])), (la, .inl (cI, 200, .inl lf))] ∧ tqN U)) (va_Qv (fun (_ : Unit) => True) (fun (_ : Unit) (t : State) => va_P (dC, dI) tqCl [(mo, .inr (3, [.int nz, .ref la, .int r.1, .ref sa])), (la, .inl (cI, 200, .inl r.2))] t.heap ∧ va_K (dC, dI) tqCl [(cI, .int)] t ∧ va_D (va_A [(mo, .inr (3, [.int nz, .ref la, .int sq, .ref sa])), (la, .inl (cI, 200, .inl lf))] sz) [(mo, .inr (3, [.int nz, .ref la, .int r.1, .ref sa])), (la, .inl (cI, 200, .inl r.2))]) (va_A [(mo, .inr (3, [.int nz, .ref la, .int sq, .ref sa])), (la, .inl (cI, 200, .inl lf))] sz)) 0 0 (va_A [(mo, .inr (3, [.int nz, .ref la, .int sq, .ref sa])), (la, .inl (cI, 200, .inl lf))] sz) := by
  refine Met.ofW (cc := cM_factor) (maxL := 2) (ret := none) (by decide) rfl ?_
  intro p e s m args below meth c s₁ B hml hv
  obtain ⟨rfl, hsz, hP, hK, hD0, hN⟩ := hv
  have hx := B.exec
  have hb := B.bytes
  have hr := B.returns
  have hts := atoms_spec (ws := tqw_M_factor) B.pre
  have hww : ∀ w ∈ tqW, w.before _ s = true := fun w h => hts w (List.mem_cons_of_mem _ h)
  have hown : s.vm.findClass RM = some m.cls := findClass_of_methodNamed B.named
  have hlocks := B.notSynchronized
  subst hsz
  have hD := hD0.self (sz := s.heap.size)
  generalize hAe : va_A [(mo, .inr (3, [.int nz, .ref la, .int sq, .ref sa])), (la, .inl (cI, 200, .inl lf))] s.heap.size = A at hD ⊢
  have hA : ∀ q : Nat, s.heap.size ≤ q → A q := fun q h => by rw [← hAe]; exact Or.inr h
  have hS : va_S A s.heap s.heap [] := va_S.rf
  have hP : va_P (dC, dI) tqCl [(mo, .inr (3, [.int nz, .ref la, .int sq, .ref sa])), (la, .inl (cI, 200, .inl lf))] s.heap := hP
  have hl := lv_entry ([.ref mo, .int pw]) (n := 2) (Nat.le_of_ble_eq_true rfl)
  rw [lg_entry_eq]
  generalize (lg_sl ([.ref mo, .int pw]) ++ List.replicate (2 - (lg_sl ([.ref mo, .int pw])).length) Slot.unset).toArray = ls at hl ⊢
  have hl : lv_has ls 2 [(0, .ref mo), (1, .int pw)] := hl
  unfold m_factor at hf
  refine lv_aload_n hx hb dM_factor_0 rfl (lv_at hl 0 rfl) ?_
  refine lv_iconst (v := 0) hx hb dM_factor_1 (by decide) ?_
  refine va_put (D := (dC, dI)) (ci := 3) (v := .int (0 : Int32)) (ty := .boolean) (C := RM) (T := TM) (N := 4) hx hb hww tqinM tyM tyM_ok nmM hown hK hP hD hS 0 rfl rfl 2 (by decide) (hww _ tqt_332) (fun _ h9 => h9) rfl (by decide +kernel) (tq_nb_bool (by decide)) (tq_ft_bool (by decide)) (Nat.le_of_ble_eq_true rfl) dM_factor_2 (fun H locs hP hD hS => ?_)
  have hP : va_P (dC, dI) tqCl [(mo, .inr (3, [.int nz, .ref la, .int (0 : Int32), .ref sa])), (la, .inl (cI, 200, .inl lf))] H := hP
  have hD : va_D A [(mo, .inr (3, [.int nz, .ref la, .int (0 : Int32), .ref sa])), (la, .inl (cI, 200, .inl lf))] := hD
  refine lv_aload_n hx hb dM_factor_5 rfl (lv_at hl 0 rfl) ?_
  refine lv_iconst (v := 4) hx hb dM_factor_6 (by decide) ?_
  refine lv_lconst (v := 1) hx hb dM_factor_7 (by decide) ?_
  obtain ⟨lf1, hu, hf⟩ := tq_bd_some hf
  have hPc := hP.sub (ws' := [(mo, .inr (3, [.int nz, .ref la, .int (0 : Int32), .ref sa])), (la, .inl (cI, 200, .inl lf))]) [0, 1] rfl
  have hDc := hD.sub (ws' := [(mo, .inr (3, [.int nz, .ref la, .int (0 : Int32), .ref sa])), (la, .inl (cI, 200, .inl lf))]) [0, 1] (by decide) rfl
  have hKc := hK.sub (tys' := [(cI, .int)]) [0] rfl
  have hFc := va_free (wc := [(mo, .inr (3, [.int nz, .ref la, .int (0 : Int32), .ref sa])), (la, .inl (cI, 200, .inl lf))]) hD hS hA [0, 1] rfl
  refine va_callv (va_runV (As := [.int (4 : Int32), .long (1 : Int64)]) (rest := []) ⟨hx, hb, hml, hown, hww⟩ (c_m_setLong l dC dI mo la sa cI H.size (4 : Int32) (1 : Int64) nz (0 : Int32) lf lf1 hu) (cwV 2 hww (tq_gV tqt_379 tqt_381 tqt_11 tqt_35 tqt_382) rfl rfl rfl (by decide +kernel) ⟨Nat.le_of_ble_eq_true rfl, Nat.le_of_ble_eq_true rfl⟩) ⟨fun a U g mk q => by obtain ⟨q0, q1, qP, qK, qD, qN⟩ := q; exact ⟨q0, q1, qP, va_K.moved (u := U) (U := U.calling g mk a) (Vm.Alike.refl U.vm) qK, qD, tqN_same (u := U) (U := U.calling g mk a) rfl qN⟩, va_recv hK hP (ci := 3) rfl (q0 := 0) rfl, fun U hU hW => ⟨rfl, by rw [hU], by rw [hU]; exact hPc, va_K.moved hW.alike hKc, hDc.weaken (fun _ _ _ _ => trivial), tqN_warm hW hN⟩⟩ rfl rfl hl.1 rfl (lv_room (Nat.le_of_ble_eq_true rfl)) dM_factor_8 ⟨Nat.zero_le _, Nat.zero_le _⟩) hS (fun q _ h => hFc q h) hFc (fun u0 t H1 locs ht hvm hpost hB hz1 hk1 hS => ?_)
  obtain ⟨hP1, hK1, hD1⟩ := hB
  rw [ht] at hP1
  obtain ⟨hP, hD⟩ := va_join (wr := []) (w1 := [(mo, .inr (3, [.int nz, .ref la, .int (0 : Int32), .ref sa])), (la, .inl (cI, 200, .inl lf1))]) hP hD [0, 1] [] rfl rfl (by decide) (by decide) hk1 hFc hP1 hD1
  generalize H1 = H at hP hS ⊢
  have hP := hP.sub (ws' := [(mo, .inr (3, [.int nz, .ref la, .int (0 : Int32), .ref sa])), (la, .inl (cI, 200, .inl lf1))]) [0, 1] rfl
  have hD := hD.sub (ws' := [(mo, .inr (3, [.int nz, .ref la, .int (0 : Int32), .ref sa])), (la, .inl (cI, 200, .inl lf1))]) [0, 1] (by decide) rfl
  refine lv_aload_n hx hb dM_factor_11 rfl (lv_at hl 0 rfl) ?_
  refine lv_iconst (v := 4) hx hb dM_factor_12 (by decide) ?_
  refine lv_iload_n hx hb dM_factor_13 rfl (lv_at hl 1 rfl) ?_
  obtain ⟨lf2, hu, hf⟩ := tq_bd_some hf
  have hPc := hP.sub (ws' := [(mo, .inr (3, [.int nz, .ref la, .int (0 : Int32), .ref sa])), (la, .inl (cI, 200, .inl lf1))]) [0, 1] rfl
  have hDc := hD.sub (ws' := [(mo, .inr (3, [.int nz, .ref la, .int (0 : Int32), .ref sa])), (la, .inl (cI, 200, .inl lf1))]) [0, 1] (by decide) rfl
  have hKc := hK.sub (tys' := [(cI, .int)]) [0] rfl
  have hFc := va_free (wc := [(mo, .inr (3, [.int nz, .ref la, .int (0 : Int32), .ref sa])), (la, .inl (cI, 200, .inl lf1))]) hD hS hA [0, 1] rfl
  refine va_callv (va_runV (As := [.int (4 : Int32), .int pw]) (rest := []) ⟨hx, hb, hml, hown, hww⟩ (c_m_raise l dC dI mo la sa cI H.size (4 : Int32) pw nz (0 : Int32) lf1 lf2 hu) (cwV 2 hww (tq_gV tqt_384 tqt_386 tqt_12 tqt_35 tqt_387) rfl rfl rfl (by decide +kernel) ⟨Nat.le_of_ble_eq_true rfl, Nat.le_of_ble_eq_true rfl⟩) ⟨fun a U g mk q => by obtain ⟨q0, q1, qP, qK, qD, qN⟩ := q; exact ⟨q0, q1, qP, va_K.moved (u := U) (U := U.calling g mk a) (Vm.Alike.refl U.vm) qK, qD, tqN_same (u := U) (U := U.calling g mk a) rfl qN⟩, va_recv hK hP (ci := 3) rfl (q0 := 0) rfl, fun U hU hW => ⟨rfl, by rw [hU], by rw [hU]; exact hPc, va_K.moved hW.alike hKc, hDc.weaken (fun _ _ _ _ => trivial), tqN_warm hW hN⟩⟩ rfl rfl hl.1 rfl (lv_room (Nat.le_of_ble_eq_true rfl)) dM_factor_14 ⟨Nat.zero_le _, Nat.zero_le _⟩) hS (fun q _ h => hFc q h) hFc (fun u0 t H1 locs ht hvm hpost hB hz1 hk1 hS => ?_)
  obtain ⟨hP1, hK1, hD1⟩ := hB
  rw [ht] at hP1
  obtain ⟨hP, hD⟩ := va_join (wr := []) (w1 := [(mo, .inr (3, [.int nz, .ref la, .int (0 : Int32), .ref sa])), (la, .inl (cI, 200, .inl lf2))]) hP hD [0, 1] [] rfl rfl (by decide) (by decide) hk1 hFc hP1 hD1
  generalize H1 = H at hP hS ⊢
  have hP := hP.sub (ws' := [(mo, .inr (3, [.int nz, .ref la, .int (0 : Int32), .ref sa])), (la, .inl (cI, 200, .inl lf2))]) [0, 1] rfl
  have hD := hD.sub (ws' := [(mo, .inr (3, [.int nz, .ref la, .int (0 : Int32), .ref sa])), (la, .inl (cI, 200, .inl lf2))]) [0, 1] (by decide) rfl
  have hf := Option.some.inj hf
  subst hf
  exact W.vret hx hb hr (fun t ht hW => ⟨⟨(), rfl, trivial, by rw [ht]; exact hP, va_K.moved hW.alike hK, hD⟩, hS.F ht⟩) hS.2.2 dM_factor_17
set_option maxHeartbeats 4000000 in
set_option maxRecDepth 100000 in
theorem c_m_against (l : Launch) (dC : Nat → ClassId) (dI : Nat → Nat → Nat) (mo : Nat) (la : Nat) (sa : Nat) (cI : ClassId) (sz : Nat) (pv : Int64) (size : Int32) (nz : Int32) (sq : Int32) (lf : Nat → Int32) (r : Int32 × (Nat → Int32)) (hf : m_against sq lf pv size = some r) : Met l yM_against tqw_M_against ({ frames := 3, cells := 0, slots := 0, locals := 79 }) (va_Pc [.ref mo, .long pv, .int size] (fun U => U.heap.size = sz ∧ va_P (dC, dI) tqCl [(mo, .inr (3, [.int nz, .ref la, .int sq, .ref sa])), (la, .inl (cI, 200, .inl lf))] U.heap ∧ va_K (dC, dI) tqCl [(cI, .int)] U ∧ va_D (fun _ => True) [(mo, .inr (3, [.int nz, .ref la, .int sq, .ref sa])), (la, .inl (cI, 200, .inl lf))] ∧ tqN U)) (va_Qi (fun (a : Int32) (_ : Unit) => a = r.1) (fun (_ : Unit) (t : State) => va_P (dC, dI) tqCl [(mo, .inr (3, [.int nz, .ref la, .int sq, .ref sa])), (la, .inl (cI, 200, .inl r.2))] t.heap ∧ va_K (dC, dI) tqCl [(cI, .int)] t ∧ va_D (va_A [(mo, .inr (3, [.int nz, .ref la, .int sq, .ref sa])), (la, .inl (cI, 200, .inl lf))] sz) [(mo, .inr (3, [.int nz, .ref la, .int sq, .ref sa])), (la, .inl (cI, 200, .inl r.2))]) (va_A [(mo, .inr (3, [.int nz, .ref la, .int sq, .ref sa])), (la, .inl (cI, 200, .inl lf))] sz)) 0 0 (va_A [(mo, .inr (3, [.int nz, .ref la, .int sq, .ref sa])), (la, .inl (cI, 200, .inl lf))] sz) := by
  refine Met.ofW (cc := cM_against) (maxL := 4) (ret := (some .int)) (by decide) rfl ?_
  intro p e s m args below meth c s₁ B hml hv
  obtain ⟨rfl, hsz, hP, hK, hD0, hN⟩ := hv
  have hx := B.exec
  have hb := B.bytes
  have hr := B.returns
  have hts := atoms_spec (ws := tqw_M_against) B.pre
  have hww : ∀ w ∈ tqW, w.before _ s = true := fun w h => hts w (List.mem_cons_of_mem _ h)
  have hown : s.vm.findClass RM = some m.cls := findClass_of_methodNamed B.named
  have hlocks := B.notSynchronized
  subst hsz
  have hD := hD0.self (sz := s.heap.size)
  generalize hAe : va_A [(mo, .inr (3, [.int nz, .ref la, .int sq, .ref sa])), (la, .inl (cI, 200, .inl lf))] s.heap.size = A at hD ⊢
  have hA : ∀ q : Nat, s.heap.size ≤ q → A q := fun q h => by rw [← hAe]; exact Or.inr h
  have hS : va_S A s.heap s.heap [] := va_S.rf
  have hP : va_P (dC, dI) tqCl [(mo, .inr (3, [.int nz, .ref la, .int sq, .ref sa])), (la, .inl (cI, 200, .inl lf))] s.heap := hP
  have hl := lv_entry ([.ref mo, .long pv, .int size]) (n := 4) (Nat.le_of_ble_eq_true rfl)
  rw [lg_entry_eq]
  generalize (lg_sl ([.ref mo, .long pv, .int size]) ++ List.replicate (4 - (lg_sl ([.ref mo, .long pv, .int size])).length) Slot.unset).toArray = ls at hl ⊢
  have hl : lv_has ls 4 [(0, .ref mo), (1, .long pv), (3, .int size)] := hl
  have B23 : ∀ (ls : Array Slot) (H : Heap) (locs : List Loc) (t0 : Int32) (t1 : Int32) (lf : Nat → Int32), m_against_b23 t0 t1 lf = some r → lv_has ls 4 [(0, .ref mo)] → va_P (dC, dI) tqCl [(mo, .inr (3, [.int nz, .ref la, .int sq, .ref sa])), (la, .inl (cI, 200, .inl lf))] H → va_D A [(mo, .inr (3, [.int nz, .ref la, .int sq, .ref sa])), (la, .inl (cI, 200, .inl lf))] → va_S A s.heap H locs → W p l e ({ frames := 3, cells := 0, slots := 0, locals := 79 }) s m ([.ref mo, .long pv, .int size] : List Value).toArray below meth c H locs 0 0 (MQ below (va_Qi (fun (a : Int32) (_ : Unit) => a = r.1) (fun (_ : Unit) (t : State) => va_P (dC, dI) tqCl [(mo, .inr (3, [.int nz, .ref la, .int sq, .ref sa])), (la, .inl (cI, 200, .inl r.2))] t.heap ∧ va_K (dC, dI) tqCl [(cI, .int)] t ∧ va_D (A) [(mo, .inr (3, [.int nz, .ref la, .int sq, .ref sa])), (la, .inl (cI, 200, .inl r.2))]) (A)) ([.ref mo, .long pv, .int size] : List Value).toArray s 0 0 A) (F0 m 23 ls [.int t0, .int t1, .ref mo]) := by
    try clear hf
    intro ls H locs t0 t1 lf hf hl hP hD hS
    unfold m_against_b23 at hf
    refine lv_iconst (v := 3) hx hb dM_against_23 (by decide) ?_
    obtain ⟨lf3, hu, hf⟩ := tq_bd_some hf
    have hPc := hP.sub (ws' := [(mo, .inr (3, [.int nz, .ref la, .int sq, .ref sa])), (la, .inl (cI, 200, .inl lf))]) [0, 1] rfl
    have hDc := hD.sub (ws' := [(mo, .inr (3, [.int nz, .ref la, .int sq, .ref sa])), (la, .inl (cI, 200, .inl lf))]) [0, 1] (by decide) rfl
    have hKc := hK.sub (tys' := [(cI, .int)]) [0] rfl
    have hFc := va_free (wc := [(mo, .inr (3, [.int nz, .ref la, .int sq, .ref sa])), (la, .inl (cI, 200, .inl lf))]) hD hS hA [0, 1] rfl
    refine va_callv (va_runV (As := [.int t1, .int t0, .int (3 : Int32)]) (rest := []) ⟨hx, hb, hml, hown, hww⟩ (c_m_times l dC dI mo la sa cI H.size t1 t0 (3 : Int32) nz sq lf lf3 hu) (cwV 3 hww (tq_gV tqt_429 tqt_431 tqt_23 tqt_35 tqt_432) rfl rfl rfl (by decide +kernel) ⟨Nat.le_of_ble_eq_true rfl, Nat.le_of_ble_eq_true rfl⟩) ⟨fun a U g mk q => by obtain ⟨q0, q1, qP, qK, qD, qN⟩ := q; exact ⟨q0, q1, qP, va_K.moved (u := U) (U := U.calling g mk a) (Vm.Alike.refl U.vm) qK, qD, tqN_same (u := U) (U := U.calling g mk a) rfl qN⟩, va_recv hK hP (ci := 3) rfl (q0 := 0) rfl, fun U hU hW => ⟨rfl, by rw [hU], by rw [hU]; exact hPc, va_K.moved hW.alike hKc, hDc.weaken (fun _ _ _ _ => trivial), tqN_warm hW hN⟩⟩ rfl rfl hl.1 rfl (lv_room (Nat.le_of_ble_eq_true rfl)) dM_against_24 ⟨Nat.zero_le _, Nat.zero_le _⟩) hS (fun q _ h => hFc q h) hFc (fun u0 t H1 locs ht hvm hpost hB hz1 hk1 hS => ?_)
    obtain ⟨hP1, hK1, hD1⟩ := hB
    rw [ht] at hP1
    obtain ⟨hP, hD⟩ := va_join (wr := []) (w1 := [(mo, .inr (3, [.int nz, .ref la, .int sq, .ref sa])), (la, .inl (cI, 200, .inl lf3))]) hP hD [0, 1] [] rfl rfl (by decide) (by decide) hk1 hFc hP1 hD1
    generalize H1 = H at hP hS ⊢
    have hP := hP.sub (ws' := [(mo, .inr (3, [.int nz, .ref la, .int sq, .ref sa])), (la, .inl (cI, 200, .inl lf3))]) [0, 1] rfl
    have hD := hD.sub (ws' := [(mo, .inr (3, [.int nz, .ref la, .int sq, .ref sa])), (la, .inl (cI, 200, .inl lf3))]) [0, 1] (by decide) rfl
    refine lv_aload_n hx hb dM_against_27 rfl (lv_at hl 0 rfl) ?_
    refine lv_iconst (v := 0) hx hb dM_against_28 (by decide) ?_
    refine lv_iconst (v := 3) hx hb dM_against_29 (by decide) ?_
    obtain ⟨r4, hu, hf⟩ := tq_bd_some hf
    have hPc := hP.sub (ws' := [(mo, .inr (3, [.int nz, .ref la, .int sq, .ref sa])), (la, .inl (cI, 200, .inl lf3))]) [0, 1] rfl
    have hDc := hD.sub (ws' := [(mo, .inr (3, [.int nz, .ref la, .int sq, .ref sa])), (la, .inl (cI, 200, .inl lf3))]) [0, 1] (by decide) rfl
    have hKc := hK.sub (tys' := [(cI, .int)]) [0] rfl
    have hFc := va_free (wc := [(mo, .inr (3, [.int nz, .ref la, .int sq, .ref sa])), (la, .inl (cI, 200, .inl lf3))]) hD hS hA [0, 1] rfl
    refine va_calli (va_runV (As := [.int (0 : Int32), .int (3 : Int32)]) (rest := []) ⟨hx, hb, hml, hown, hww⟩ (c_m_order l dC dI mo la sa cI H.size (0 : Int32) (3 : Int32) nz sq lf3 r4 hu) (cwV 2 hww (tq_gV tqt_405 tqt_407 tqt_17 tqt_35 tqt_408) rfl rfl rfl (by decide +kernel) ⟨Nat.le_of_ble_eq_true rfl, Nat.le_of_ble_eq_true rfl⟩) ⟨fun a U g mk q => by obtain ⟨q0, q1, qP, qK, qD, qN⟩ := q; exact ⟨q0, q1, qP, va_K.moved (u := U) (U := U.calling g mk a) (Vm.Alike.refl U.vm) qK, qD, tqN_same (u := U) (U := U.calling g mk a) rfl qN⟩, va_recv hK hP (ci := 3) rfl (q0 := 0) rfl, fun U hU hW => ⟨rfl, by rw [hU], by rw [hU]; exact hPc, va_K.moved hW.alike hKc, hDc.weaken (fun _ _ _ _ => trivial), tqN_warm hW hN⟩⟩ rfl rfl hl.1 rfl (lv_room (Nat.le_of_ble_eq_true rfl)) dM_against_30 ⟨Nat.zero_le _, Nat.zero_le _⟩) hS (fun q _ h => hFc q h) hFc (fun ra u0 t H1 locs ht hvm hpost hB hz1 hk1 hS => ?_)
    have hpost : r4 = ra := (show ra = r4 from hpost).symm
    subst hpost
    obtain ⟨hP1, hK1, hD1⟩ := hB
    rw [ht] at hP1
    obtain ⟨hP, hD⟩ := va_join (wr := []) (w1 := [(mo, .inr (3, [.int nz, .ref la, .int sq, .ref sa])), (la, .inl (cI, 200, .inl lf3))]) hP hD [0, 1] [] rfl rfl (by decide) (by decide) hk1 hFc hP1 hD1
    generalize H1 = H at hP hS ⊢
    have hP := hP.sub (ws' := [(mo, .inr (3, [.int nz, .ref la, .int sq, .ref sa])), (la, .inl (cI, 200, .inl lf3))]) [0, 1] rfl
    have hD := hD.sub (ws' := [(mo, .inr (3, [.int nz, .ref la, .int sq, .ref sa])), (la, .inl (cI, 200, .inl lf3))]) [0, 1] (by decide) rfl
    have hf := Option.some.inj hf
    subst hf
    exact W.iret (v := r4) hx hb hr (fun t ht hW => ⟨⟨r4, (), rfl, rfl, by rw [ht]; exact hP, va_K.moved hW.alike hK, hD⟩, hS.F ht⟩) hS.2.2 dM_against_33
  unfold m_against at hf
  refine lv_aload_n hx hb dM_against_0 rfl (lv_at hl 0 rfl) ?_
  refine lv_iconst (v := 2) hx hb dM_against_1 (by decide) ?_
  refine lv_lload_n hx hb dM_against_2 rfl (lv_at hl 1 rfl) ?_
  refine lv_iload_n hx hb dM_against_3 rfl (lv_at hl 2 rfl) ?_
  refine lv_bipush (v := 124) hx hb dM_against_4 (by decide) ?_
  obtain ⟨lf1, hu, hf⟩ := tq_bd_some hf
  have hPc := hP.sub (ws' := [(mo, .inr (3, [.int nz, .ref la, .int sq, .ref sa])), (la, .inl (cI, 200, .inl lf))]) [0, 1] rfl
  have hDc := hD.sub (ws' := [(mo, .inr (3, [.int nz, .ref la, .int sq, .ref sa])), (la, .inl (cI, 200, .inl lf))]) [0, 1] (by decide) rfl
  have hKc := hK.sub (tys' := [(cI, .int)]) [0] rfl
  have hFc := va_free (wc := [(mo, .inr (3, [.int nz, .ref la, .int sq, .ref sa])), (la, .inl (cI, 200, .inl lf))]) hD hS hA [0, 1] rfl
  refine va_callv (va_runV (As := [.int (2 : Int32), .long pv, .int size, .int (124 : Int32)]) (rest := []) ⟨hx, hb, hml, hown, hww⟩ (c_m_value l dC dI mo la sa cI s.heap.size (2 : Int32) pv size (124 : Int32) nz sq lf lf1 hu) (cwV 4 hww (tq_gV tqt_375 tqt_377 tqt_10 tqt_35 tqt_378) rfl rfl rfl (by decide +kernel) ⟨Nat.le_of_ble_eq_true rfl, Nat.le_of_ble_eq_true rfl⟩) ⟨fun a U g mk q => by obtain ⟨q0, q1, qP, qK, qD, qN⟩ := q; exact ⟨q0, q1, qP, va_K.moved (u := U) (U := U.calling g mk a) (Vm.Alike.refl U.vm) qK, qD, tqN_same (u := U) (U := U.calling g mk a) rfl qN⟩, va_recv hK hP (ci := 3) rfl (q0 := 0) rfl, fun U hU hW => ⟨rfl, by rw [hU], by rw [hU]; exact hPc, va_K.moved hW.alike hKc, hDc.weaken (fun _ _ _ _ => trivial), tqN_warm hW hN⟩⟩ rfl rfl hl.1 rfl (lv_room (Nat.le_of_ble_eq_true rfl)) dM_against_6 ⟨Nat.zero_le _, Nat.zero_le _⟩) hS (fun q _ h => hFc q h) hFc (fun u0 t H1 locs ht hvm hpost hB hz1 hk1 hS => ?_)
  obtain ⟨hP1, hK1, hD1⟩ := hB
  rw [ht] at hP1
  obtain ⟨hP, hD⟩ := va_join (wr := []) (w1 := [(mo, .inr (3, [.int nz, .ref la, .int sq, .ref sa])), (la, .inl (cI, 200, .inl lf1))]) hP hD [0, 1] [] rfl rfl (by decide) (by decide) hk1 hFc hP1 hD1
  generalize H1 = H at hP hS ⊢
  have hP := hP.sub (ws' := [(mo, .inr (3, [.int nz, .ref la, .int sq, .ref sa])), (la, .inl (cI, 200, .inl lf1))]) [0, 1] rfl
  have hD := hD.sub (ws' := [(mo, .inr (3, [.int nz, .ref la, .int sq, .ref sa])), (la, .inl (cI, 200, .inl lf1))]) [0, 1] (by decide) rfl
  refine lv_aload_n hx hb dM_against_9 rfl (lv_at hl 0 rfl) ?_
  refine lv_iconst (v := 2) hx hb dM_against_10 (by decide) ?_
  refine lv_aload_n hx hb dM_against_11 rfl (lv_at hl 0 rfl) ?_
  refine va_get (D := (dC, dI)) (ci := 3) (v := .int sq) (C := RM) (T := TM) (N := 4) hx hb hww tqinM hown hK hP 0 rfl rfl 2 (by decide) (hww _ tqt_332) (fun _ h9 => h9) rfl dM_against_12 ?_
  refine lv_if_eq hx hb dM_against_15 rfl (fun h2 => ?_) (fun h2 => ?_)
  · rw [if_pos h2] at hf
    refine lv_iconst (v := 4) hx hb dM_against_22 (by decide) ?_
    exact B23 ls _ _ (4 : Int32) (2 : Int32) lf1 hf (lv_sub hl [0] rfl) hP hD hS
  · rw [if_neg h2] at hf
    refine lv_iconst (v := 2) hx hb dM_against_18 (by decide) ?_
    refine lv_goto hx hb dM_against_19 rfl ?_
    exact B23 ls _ _ (2 : Int32) (2 : Int32) lf1 hf (lv_sub hl [0] rfl) hP hD hS
set_option maxHeartbeats 4000000 in
set_option maxRecDepth 100000 in
theorem c_m_rounded (l : Launch) (dC : Nat → ClassId) (dI : Nat → Nat → Nat) (mo : Nat) (la : Nat) (sa : Nat) (cI : ClassId) (sz : Nat) (mi : Int32) (size : Int32) (nz : Int32) (sq : Int32) (lf : Nat → Int32) (r : Int32 × (Nat → Int32)) (hf : m_rounded sq lf mi size = some r) : Met l yM_rounded tqw_M_rounded ({ frames := 4, cells := 0, slots := 0, locals := 102 }) (va_Pc [.ref mo, .int mi, .int size] (fun U => U.heap.size = sz ∧ va_P (dC, dI) tqCl [(mo, .inr (3, [.int nz, .ref la, .int sq, .ref sa])), (la, .inl (cI, 200, .inl lf))] U.heap ∧ va_K (dC, dI) tqCl [(cI, .int)] U ∧ va_D (fun _ => True) [(mo, .inr (3, [.int nz, .ref la, .int sq, .ref sa])), (la, .inl (cI, 200, .inl lf))] ∧ tqN U)) (va_Qi (fun (a : Int32) (_ : Unit) => a = r.1) (fun (_ : Unit) (t : State) => va_P (dC, dI) tqCl [(mo, .inr (3, [.int nz, .ref la, .int sq, .ref sa])), (la, .inl (cI, 200, .inl r.2))] t.heap ∧ va_K (dC, dI) tqCl [(cI, .int)] t ∧ va_D (va_A [(mo, .inr (3, [.int nz, .ref la, .int sq, .ref sa])), (la, .inl (cI, 200, .inl lf))] sz) [(mo, .inr (3, [.int nz, .ref la, .int sq, .ref sa])), (la, .inl (cI, 200, .inl r.2))]) (va_A [(mo, .inr (3, [.int nz, .ref la, .int sq, .ref sa])), (la, .inl (cI, 200, .inl lf))] sz)) 0 0 (va_A [(mo, .inr (3, [.int nz, .ref la, .int sq, .ref sa])), (la, .inl (cI, 200, .inl lf))] sz) := by
  refine Met.ofW (cc := cM_rounded) (maxL := 11) (ret := (some .int)) (by decide) rfl ?_
  intro p e s m args below meth c s₁ B hml hv
  obtain ⟨rfl, hsz, hP, hK, hD0, hN⟩ := hv
  have hx := B.exec
  have hb := B.bytes
  have hr := B.returns
  have hts := atoms_spec (ws := tqw_M_rounded) B.pre
  have hww : ∀ w ∈ tqW, w.before _ s = true := fun w h => hts w (List.mem_cons_of_mem _ h)
  have hown : s.vm.findClass RM = some m.cls := findClass_of_methodNamed B.named
  have hlocks := B.notSynchronized
  subst hsz
  have hD := hD0.self (sz := s.heap.size)
  generalize hAe : va_A [(mo, .inr (3, [.int nz, .ref la, .int sq, .ref sa])), (la, .inl (cI, 200, .inl lf))] s.heap.size = A at hD ⊢
  have hA : ∀ q : Nat, s.heap.size ≤ q → A q := fun q h => by rw [← hAe]; exact Or.inr h
  have hS : va_S A s.heap s.heap [] := va_S.rf
  have hP : va_P (dC, dI) tqCl [(mo, .inr (3, [.int nz, .ref la, .int sq, .ref sa])), (la, .inl (cI, 200, .inl lf))] s.heap := hP
  have hl := lv_entry ([.ref mo, .int mi, .int size]) (n := 11) (Nat.le_of_ble_eq_true rfl)
  rw [lg_entry_eq]
  generalize (lg_sl ([.ref mo, .int mi, .int size]) ++ List.replicate (11 - (lg_sl ([.ref mo, .int mi, .int size])).length) Slot.unset).toArray = ls at hl ⊢
  have hl : lv_has ls 11 [(0, .ref mo), (1, .int mi), (2, .int size)] := hl
  have B156 : ∀ (ls : Array Slot) (H : Heap) (locs : List Loc) (v7 : Int64) (lf : Nat → Int32), m_rounded_b156 mi v7 lf = some r → lv_has ls 11 [(1, .int mi), (7, .long v7)] → va_P (dC, dI) tqCl [(mo, .inr (3, [.int nz, .ref la, .int sq, .ref sa])), (la, .inl (cI, 200, .inl lf))] H → va_D A [(mo, .inr (3, [.int nz, .ref la, .int sq, .ref sa])), (la, .inl (cI, 200, .inl lf))] → va_S A s.heap H locs → W p l e ({ frames := 4, cells := 0, slots := 0, locals := 102 }) s m ([.ref mo, .int mi, .int size] : List Value).toArray below meth c H locs 0 0 (MQ below (va_Qi (fun (a : Int32) (_ : Unit) => a = r.1) (fun (_ : Unit) (t : State) => va_P (dC, dI) tqCl [(mo, .inr (3, [.int nz, .ref la, .int sq, .ref sa])), (la, .inl (cI, 200, .inl r.2))] t.heap ∧ va_K (dC, dI) tqCl [(cI, .int)] t ∧ va_D (A) [(mo, .inr (3, [.int nz, .ref la, .int sq, .ref sa])), (la, .inl (cI, 200, .inl r.2))]) (A)) ([.ref mo, .int mi, .int size] : List Value).toArray s 0 0 A) (F0 m 156 ls []) := by
    try clear hf
    intro ls H locs v7 lf hf hl hP hD hS
    unfold m_rounded_b156 at hf
    refine lv_iload_n hx hb dM_rounded_156 rfl (lv_at hl 0 rfl) ?_
    refine lv_if_eq hx hb dM_rounded_157 rfl (fun h10 => ?_) (fun h10 => ?_)
    · rw [if_pos h10] at hf
      refine lv_lload hx hb dM_rounded_166 (lv_at hl 1 rfl) ?_
      refine lv_l2i hx hb dM_rounded_168 rfl ?_
      have hf := Option.some.inj hf
      subst hf
      exact W.iret (v := v7.toInt32) hx hb hr (fun t ht hW => ⟨⟨v7.toInt32, (), rfl, rfl, by rw [ht]; exact hP, va_K.moved hW.alike hK, hD⟩, hS.F ht⟩) hS.2.2 dM_rounded_169
    · rw [if_neg h10] at hf
      refine lv_lload hx hb dM_rounded_160 (lv_at hl 1 rfl) ?_
      refine lv_lneg hx hb dM_rounded_162 ?_
      refine lv_goto hx hb dM_rounded_163 rfl ?_
      refine lv_l2i hx hb dM_rounded_168 rfl ?_
      have hf := Option.some.inj hf
      subst hf
      exact W.iret (v := (-v7).toInt32) hx hb hr (fun t ht hW => ⟨⟨(-v7).toInt32, (), rfl, rfl, by rw [ht]; exact hP, va_K.moved hW.alike hK, hD⟩, hS.F ht⟩) hS.2.2 dM_rounded_169
  have B145 : ∀ (ls : Array Slot) (H : Heap) (locs : List Loc) (v7 : Int64) (lf : Nat → Int32), m_rounded_b145 mi v7 lf = some r → lv_has ls 11 [(1, .int mi), (7, .long v7)] → va_P (dC, dI) tqCl [(mo, .inr (3, [.int nz, .ref la, .int sq, .ref sa])), (la, .inl (cI, 200, .inl lf))] H → va_D A [(mo, .inr (3, [.int nz, .ref la, .int sq, .ref sa])), (la, .inl (cI, 200, .inl lf))] → va_S A s.heap H locs → W p l e ({ frames := 4, cells := 0, slots := 0, locals := 102 }) s m ([.ref mo, .int mi, .int size] : List Value).toArray below meth c H locs 0 0 (MQ below (va_Qi (fun (a : Int32) (_ : Unit) => a = r.1) (fun (_ : Unit) (t : State) => va_P (dC, dI) tqCl [(mo, .inr (3, [.int nz, .ref la, .int sq, .ref sa])), (la, .inl (cI, 200, .inl r.2))] t.heap ∧ va_K (dC, dI) tqCl [(cI, .int)] t ∧ va_D (A) [(mo, .inr (3, [.int nz, .ref la, .int sq, .ref sa])), (la, .inl (cI, 200, .inl r.2))]) (A)) ([.ref mo, .int mi, .int size] : List Value).toArray s 0 0 A) (F0 m 145 ls []) := by
    try clear hf
    intro ls H locs v7 lf hf hl hP hD hS
    unfold m_rounded_b145 at hf
    refine lv_lload hx hb dM_rounded_145 (lv_at hl 1 rfl) ?_
    refine lv_lconst (v := 1) hx hb dM_rounded_147 (by decide) ?_
    refine lv_ladd hx hb dM_rounded_148 ?_
    refine lv_goto hx hb dM_rounded_149 rfl ?_
    refine lv_topl (fun x18 e18 => ?_)
    have hf := tq_nm_at e18 hf
    refine lv_lstore (lv' := [(7, .long x18), (1, .int mi)]) hx hb dM_rounded_154 hl (by decide) rfl (fun ls hl => ?_)
    exact B156 ls _ _ x18 lf hf (lv_sub hl [1, 0] rfl) hP hD hS
  have B50 : ∀ (n50 : Nat) (ls : Array Slot) (H : Heap) (locs : List Loc) (v3 : Int64) (v5 : Int64) (lf : Nat → Int32), m_rounded_b50 sq mi size n50 v3 v5 lf = some r → lv_has ls 11 [(0, .ref mo), (1, .int mi), (2, .int size), (3, .long v3), (5, .long v5)] → va_P (dC, dI) tqCl [(mo, .inr (3, [.int nz, .ref la, .int sq, .ref sa])), (la, .inl (cI, 200, .inl lf))] H → va_D A [(mo, .inr (3, [.int nz, .ref la, .int sq, .ref sa])), (la, .inl (cI, 200, .inl lf))] → va_S A s.heap H locs → W p l e ({ frames := 4, cells := 0, slots := 0, locals := 102 }) s m ([.ref mo, .int mi, .int size] : List Value).toArray below meth c H locs 0 0 (MQ below (va_Qi (fun (a : Int32) (_ : Unit) => a = r.1) (fun (_ : Unit) (t : State) => va_P (dC, dI) tqCl [(mo, .inr (3, [.int nz, .ref la, .int sq, .ref sa])), (la, .inl (cI, 200, .inl r.2))] t.heap ∧ va_K (dC, dI) tqCl [(cI, .int)] t ∧ va_D (A) [(mo, .inr (3, [.int nz, .ref la, .int sq, .ref sa])), (la, .inl (cI, 200, .inl r.2))]) (A)) ([.ref mo, .int mi, .int size] : List Value).toArray s 0 0 A) (F0 m 50 ls []) := by
    try clear hf
    intro n50
    induction n50 with
    | zero =>
      intro ls H locs v3 v5 lf hf hl hP hD hS
      have hf : (none : Option (Int32 × (Nat → Int32))) = some r := hf
      cases hf
    | succ n50 ih50 =>
      intro ls H locs v3 v5 lf hf hl hP hD hS
      unfold m_rounded_b50 at hf
      refine lv_lload_n hx hb dM_rounded_50 rfl (lv_at hl 3 rfl) ?_
      refine lv_lload hx hb dM_rounded_51 (lv_at hl 4 rfl) ?_
      refine W.lcmp hx hb dM_rounded_53 ?_
      refine lv_if_ge hx hb dM_rounded_54 rfl (fun h11 => ?_) (fun h11 => ?_)
      · rw [if_pos h11] at hf
        refine lv_lload_n hx hb dM_rounded_94 rfl (lv_at hl 3 rfl) ?_
        refine lv_lstore (lv' := [(7, .long v3), (0, .ref mo), (1, .int mi), (2, .int size), (3, .long v3), (5, .long v5)]) hx hb dM_rounded_95 hl (by decide) rfl (fun ls hl => ?_)
        refine lv_aload_n hx hb dM_rounded_97 rfl (lv_at hl 1 rfl) ?_
        refine lv_lload hx hb dM_rounded_98 (lv_at hl 0 rfl) ?_
        refine lv_iload_n hx hb dM_rounded_100 rfl (lv_at hl 3 rfl) ?_
        obtain ⟨u, hu, hf⟩ := tq_bd_some hf
        obtain ⟨r12, lf13⟩ := u
        have hf := tq_nm_at (z := r12) rfl hf
        have hf := tq_nm_at (z := lf13) rfl hf
        have hPc := hP.sub (ws' := [(mo, .inr (3, [.int nz, .ref la, .int sq, .ref sa])), (la, .inl (cI, 200, .inl lf))]) [0, 1] rfl
        have hDc := hD.sub (ws' := [(mo, .inr (3, [.int nz, .ref la, .int sq, .ref sa])), (la, .inl (cI, 200, .inl lf))]) [0, 1] (by decide) rfl
        have hKc := hK.sub (tys' := [(cI, .int)]) [0] rfl
        have hFc := va_free (wc := [(mo, .inr (3, [.int nz, .ref la, .int sq, .ref sa])), (la, .inl (cI, 200, .inl lf))]) hD hS hA [0, 1] rfl
        refine va_calli (va_runV (As := [.long v3, .int size]) (rest := []) ⟨hx, hb, hml, hown, hww⟩ (c_m_against l dC dI mo la sa cI H.size v3 size nz sq lf (r12, lf13) hu) (cwV 2 hww (tq_gV tqt_425 tqt_427 tqt_22 tqt_35 tqt_428) rfl rfl rfl (by decide +kernel) ⟨Nat.le_of_ble_eq_true rfl, Nat.le_of_ble_eq_true rfl⟩) ⟨fun a U g mk q => by obtain ⟨q0, q1, qP, qK, qD, qN⟩ := q; exact ⟨q0, q1, qP, va_K.moved (u := U) (U := U.calling g mk a) (Vm.Alike.refl U.vm) qK, qD, tqN_same (u := U) (U := U.calling g mk a) rfl qN⟩, va_recv hK hP (ci := 3) rfl (q0 := 0) rfl, fun U hU hW => ⟨rfl, by rw [hU], by rw [hU]; exact hPc, va_K.moved hW.alike hKc, hDc.weaken (fun _ _ _ _ => trivial), tqN_warm hW hN⟩⟩ rfl rfl hl.1 rfl (lv_room (Nat.le_of_ble_eq_true rfl)) dM_rounded_101 ⟨Nat.zero_le _, Nat.zero_le _⟩) hS (fun q _ h => hFc q h) hFc (fun ra u0 t H1 locs ht hvm hpost hB hz1 hk1 hS => ?_)
        have hpost : r12 = ra := (show ra = r12 from hpost).symm
        subst hpost
        obtain ⟨hP1, hK1, hD1⟩ := hB
        rw [ht] at hP1
        obtain ⟨hP, hD⟩ := va_join (wr := []) (w1 := [(mo, .inr (3, [.int nz, .ref la, .int sq, .ref sa])), (la, .inl (cI, 200, .inl lf13))]) hP hD [0, 1] [] rfl rfl (by decide) (by decide) hk1 hFc hP1 hD1
        generalize H1 = H at hP hS ⊢
        have hP := hP.sub (ws' := [(mo, .inr (3, [.int nz, .ref la, .int sq, .ref sa])), (la, .inl (cI, 200, .inl lf13))]) [0, 1] rfl
        have hD := hD.sub (ws' := [(mo, .inr (3, [.int nz, .ref la, .int sq, .ref sa])), (la, .inl (cI, 200, .inl lf13))]) [0, 1] (by decide) rfl
        refine lv_if_eq hx hb dM_rounded_104 rfl (fun h14 => ?_) (fun h14 => ?_)
        · rw [if_pos h14] at hf
          exact B156 ls _ _ v3 lf13 hf (lv_sub hl [2, 0] rfl) hP hD hS
        · rw [if_neg h14] at hf
          refine lv_aload_n hx hb dM_rounded_107 rfl (lv_at hl 1 rfl) ?_
          refine lv_ldc2 (v := 2) hx hb hown (hww _ tqt_433) dM_rounded_108 ?_
          refine lv_lload hx hb dM_rounded_111 (lv_at hl 0 rfl) ?_
          refine lv_lmul hx hb dM_rounded_113 ?_
          refine lv_lconst (v := 1) hx hb dM_rounded_114 (by decide) ?_
          refine lv_ladd hx hb dM_rounded_115 ?_
          refine lv_iload_n hx hb dM_rounded_116 rfl (lv_at hl 3 rfl) ?_
          refine lv_iconst (v := 1) hx hb dM_rounded_117 (by decide) ?_
          refine lv_iadd hx hb dM_rounded_118 ?_
          obtain ⟨u, hu, hf⟩ := tq_bd_some hf
          obtain ⟨r15, lf16⟩ := u
          have hf := tq_nm_at (z := r15) rfl hf
          have hf := tq_nm_at (z := lf16) rfl hf
          have hPc := hP.sub (ws' := [(mo, .inr (3, [.int nz, .ref la, .int sq, .ref sa])), (la, .inl (cI, 200, .inl lf13))]) [0, 1] rfl
          have hDc := hD.sub (ws' := [(mo, .inr (3, [.int nz, .ref la, .int sq, .ref sa])), (la, .inl (cI, 200, .inl lf13))]) [0, 1] (by decide) rfl
          have hKc := hK.sub (tys' := [(cI, .int)]) [0] rfl
          have hFc := va_free (wc := [(mo, .inr (3, [.int nz, .ref la, .int sq, .ref sa])), (la, .inl (cI, 200, .inl lf13))]) hD hS hA [0, 1] rfl
          refine va_calli (va_runV (As := [.long (((2 : Int64) * v3) + (1 : Int64)), .int (size + (1 : Int32))]) (rest := []) ⟨hx, hb, hml, hown, hww⟩ (c_m_against l dC dI mo la sa cI H.size (((2 : Int64) * v3) + (1 : Int64)) (size + (1 : Int32)) nz sq lf13 (r15, lf16) hu) (cwV 2 hww (tq_gV tqt_425 tqt_427 tqt_22 tqt_35 tqt_428) rfl rfl rfl (by decide +kernel) ⟨Nat.le_of_ble_eq_true rfl, Nat.le_of_ble_eq_true rfl⟩) ⟨fun a U g mk q => by obtain ⟨q0, q1, qP, qK, qD, qN⟩ := q; exact ⟨q0, q1, qP, va_K.moved (u := U) (U := U.calling g mk a) (Vm.Alike.refl U.vm) qK, qD, tqN_same (u := U) (U := U.calling g mk a) rfl qN⟩, va_recv hK hP (ci := 3) rfl (q0 := 0) rfl, fun U hU hW => ⟨rfl, by rw [hU], by rw [hU]; exact hPc, va_K.moved hW.alike hKc, hDc.weaken (fun _ _ _ _ => trivial), tqN_warm hW hN⟩⟩ rfl rfl hl.1 rfl (lv_room (Nat.le_of_ble_eq_true rfl)) dM_rounded_119 ⟨Nat.zero_le _, Nat.zero_le _⟩) hS (fun q _ h => hFc q h) hFc (fun ra u0 t H1 locs ht hvm hpost hB hz1 hk1 hS => ?_)
          have hpost : r15 = ra := (show ra = r15 from hpost).symm
          subst hpost
          obtain ⟨hP1, hK1, hD1⟩ := hB
          rw [ht] at hP1
          obtain ⟨hP, hD⟩ := va_join (wr := []) (w1 := [(mo, .inr (3, [.int nz, .ref la, .int sq, .ref sa])), (la, .inl (cI, 200, .inl lf16))]) hP hD [0, 1] [] rfl rfl (by decide) (by decide) hk1 hFc hP1 hD1
          generalize H1 = H at hP hS ⊢
          have hP := hP.sub (ws' := [(mo, .inr (3, [.int nz, .ref la, .int sq, .ref sa])), (la, .inl (cI, 200, .inl lf16))]) [0, 1] rfl
          have hD := hD.sub (ws' := [(mo, .inr (3, [.int nz, .ref la, .int sq, .ref sa])), (la, .inl (cI, 200, .inl lf16))]) [0, 1] (by decide) rfl
          refine lv_istore (lv' := [(9, .int r15), (7, .long v3), (0, .ref mo), (1, .int mi), (2, .int size), (3, .long v3), (5, .long v5)]) hx hb dM_rounded_122 hl (by decide) rfl (fun ls hl => ?_)
          refine lv_iload hx hb dM_rounded_124 (lv_at hl 0 rfl) ?_
          refine lv_if_gt hx hb dM_rounded_126 rfl (fun h17 => ?_) (fun h17 => ?_)
          · rw [if_pos h17] at hf
            exact B145 ls _ _ v3 lf16 hf (lv_sub hl [3, 1] rfl) hP hD hS
          · rw [if_neg h17] at hf
            refine lv_iload hx hb dM_rounded_129 (lv_at hl 0 rfl) ?_
            refine lv_if_ne hx hb dM_rounded_131 rfl (fun h19 => ?_) (fun h19 => ?_)
            · rw [if_pos h19] at hf
              refine lv_lload hx hb dM_rounded_152 (lv_at hl 1 rfl) ?_
              refine lv_lstore (lv' := [(7, .long v3), (9, .int r15), (0, .ref mo), (1, .int mi), (2, .int size), (3, .long v3), (5, .long v5)]) hx hb dM_rounded_154 hl (by decide) rfl (fun ls hl => ?_)
              exact B156 ls _ _ v3 lf16 hf (lv_sub hl [3, 0] rfl) hP hD hS
            · rw [if_neg (fun q : ¬ r15 = 0 => q h19)] at hf
              refine lv_lload hx hb dM_rounded_134 (lv_at hl 1 rfl) ?_
              refine lv_ldc2 (v := 2) hx hb hown (hww _ tqt_433) dM_rounded_136 ?_
              refine lv_lrem hx hb dM_rounded_139 (by decide) ?_
              refine lv_lconst (v := 1) hx hb dM_rounded_140 (by decide) ?_
              refine W.lcmp hx hb dM_rounded_141 ?_
              refine lv_if_ne hx hb dM_rounded_142 rfl (fun h20 => ?_) (fun h20 => ?_)
              · rw [if_pos h20] at hf
                refine lv_lload hx hb dM_rounded_152 (lv_at hl 1 rfl) ?_
                refine lv_lstore (lv' := [(7, .long v3), (9, .int r15), (0, .ref mo), (1, .int mi), (2, .int size), (3, .long v3), (5, .long v5)]) hx hb dM_rounded_154 hl (by decide) rfl (fun ls hl => ?_)
                exact B156 ls _ _ v3 lf16 hf (lv_sub hl [3, 0] rfl) hP hD hS
              · rw [if_neg (fun q : ¬ (lg_cmp (v3 - v3 / (2 : Int64) * (2 : Int64)) (1 : Int64)) = 0 => q h20)] at hf
                exact B145 ls _ _ v3 lf16 hf (lv_sub hl [3, 1] rfl) hP hD hS
      · rw [if_neg h11] at hf
        refine lv_lload_n hx hb dM_rounded_57 rfl (lv_at hl 3 rfl) ?_
        refine lv_lload hx hb dM_rounded_58 (lv_at hl 4 rfl) ?_
        refine lv_ladd hx hb dM_rounded_60 ?_
        refine lv_lconst (v := 1) hx hb dM_rounded_61 (by decide) ?_
        refine lv_ladd hx hb dM_rounded_62 ?_
        refine lv_ldc2 (v := 2) hx hb hown (hww _ tqt_433) dM_rounded_63 ?_
        refine lv_ldiv hx hb dM_rounded_66 (by decide) ?_
        refine lv_topl (fun x21 e21 => ?_)
        have hf := tq_nm_at e21 hf
        refine lv_lstore (lv' := [(9, .long x21), (0, .ref mo), (1, .int mi), (2, .int size), (3, .long v3), (5, .long v5)]) hx hb dM_rounded_67 hl (by decide) rfl (fun ls hl => ?_)
        refine lv_aload_n hx hb dM_rounded_69 rfl (lv_at hl 1 rfl) ?_
        refine lv_lload hx hb dM_rounded_70 (lv_at hl 0 rfl) ?_
        refine lv_iload_n hx hb dM_rounded_72 rfl (lv_at hl 3 rfl) ?_
        obtain ⟨u, hu, hf⟩ := tq_bd_some hf
        obtain ⟨r22, lf23⟩ := u
        have hf := tq_nm_at (z := r22) rfl hf
        have hf := tq_nm_at (z := lf23) rfl hf
        have hPc := hP.sub (ws' := [(mo, .inr (3, [.int nz, .ref la, .int sq, .ref sa])), (la, .inl (cI, 200, .inl lf))]) [0, 1] rfl
        have hDc := hD.sub (ws' := [(mo, .inr (3, [.int nz, .ref la, .int sq, .ref sa])), (la, .inl (cI, 200, .inl lf))]) [0, 1] (by decide) rfl
        have hKc := hK.sub (tys' := [(cI, .int)]) [0] rfl
        have hFc := va_free (wc := [(mo, .inr (3, [.int nz, .ref la, .int sq, .ref sa])), (la, .inl (cI, 200, .inl lf))]) hD hS hA [0, 1] rfl
        refine va_calli (va_runV (As := [.long x21, .int size]) (rest := []) ⟨hx, hb, hml, hown, hww⟩ (c_m_against l dC dI mo la sa cI H.size x21 size nz sq lf (r22, lf23) hu) (cwV 2 hww (tq_gV tqt_425 tqt_427 tqt_22 tqt_35 tqt_428) rfl rfl rfl (by decide +kernel) ⟨Nat.le_of_ble_eq_true rfl, Nat.le_of_ble_eq_true rfl⟩) ⟨fun a U g mk q => by obtain ⟨q0, q1, qP, qK, qD, qN⟩ := q; exact ⟨q0, q1, qP, va_K.moved (u := U) (U := U.calling g mk a) (Vm.Alike.refl U.vm) qK, qD, tqN_same (u := U) (U := U.calling g mk a) rfl qN⟩, va_recv hK hP (ci := 3) rfl (q0 := 0) rfl, fun U hU hW => ⟨rfl, by rw [hU], by rw [hU]; exact hPc, va_K.moved hW.alike hKc, hDc.weaken (fun _ _ _ _ => trivial), tqN_warm hW hN⟩⟩ rfl rfl hl.1 rfl (lv_room (Nat.le_of_ble_eq_true rfl)) dM_rounded_73 ⟨Nat.zero_le _, Nat.zero_le _⟩) hS (fun q _ h => hFc q h) hFc (fun ra u0 t H1 locs ht hvm hpost hB hz1 hk1 hS => ?_)
        have hpost : r22 = ra := (show ra = r22 from hpost).symm
        subst hpost
        obtain ⟨hP1, hK1, hD1⟩ := hB
        rw [ht] at hP1
        obtain ⟨hP, hD⟩ := va_join (wr := []) (w1 := [(mo, .inr (3, [.int nz, .ref la, .int sq, .ref sa])), (la, .inl (cI, 200, .inl lf23))]) hP hD [0, 1] [] rfl rfl (by decide) (by decide) hk1 hFc hP1 hD1
        generalize H1 = H at hP hS ⊢
        have hP := hP.sub (ws' := [(mo, .inr (3, [.int nz, .ref la, .int sq, .ref sa])), (la, .inl (cI, 200, .inl lf23))]) [0, 1] rfl
        have hD := hD.sub (ws' := [(mo, .inr (3, [.int nz, .ref la, .int sq, .ref sa])), (la, .inl (cI, 200, .inl lf23))]) [0, 1] (by decide) rfl
        refine lv_if_lt hx hb dM_rounded_76 rfl (fun h24 => ?_) (fun h24 => ?_)
        · rw [if_pos h24] at hf
          refine lv_lload hx hb dM_rounded_85 (lv_at hl 0 rfl) ?_
          refine lv_lconst (v := 1) hx hb dM_rounded_87 (by decide) ?_
          refine lv_lsub hx hb dM_rounded_88 ?_
          refine lv_topl (fun x25 e25 => ?_)
          have hf := tq_nm_at e25 hf
          refine lv_lstore (lv' := [(5, .long x25), (9, .long x21), (0, .ref mo), (1, .int mi), (2, .int size), (3, .long v3)]) hx hb dM_rounded_89 hl (by decide) rfl (fun ls hl => ?_)
          refine lv_goto hx hb dM_rounded_91 rfl ?_
          exact ih50 ls _ _ v3 x25 lf23 hf (lv_sub hl [2, 3, 4, 5, 0] rfl) hP hD hS
        · rw [if_neg h24] at hf
          refine lv_lload hx hb dM_rounded_79 (lv_at hl 0 rfl) ?_
          refine lv_lstore_n (lv' := [(3, .long x21), (9, .long x21), (0, .ref mo), (1, .int mi), (2, .int size), (5, .long v5)]) hx hb dM_rounded_81 rfl hl (by decide) rfl (fun ls hl => ?_)
          refine lv_goto hx hb dM_rounded_82 rfl ?_
          refine lv_goto hx hb dM_rounded_91 rfl ?_
          exact ih50 ls _ _ x21 v5 lf23 hf (lv_sub hl [2, 3, 4, 0, 5] rfl) hP hD hS
  unfold m_rounded at hf
  refine lv_aload_n hx hb dM_rounded_0 rfl (lv_at hl 0 rfl) ?_
  refine lv_iconst (v := 0) hx hb dM_rounded_1 (by decide) ?_
  obtain ⟨r1, hu, hf⟩ := tq_bd_some hf
  have hPc := hP.sub (ws' := [(mo, .inr (3, [.int nz, .ref la, .int sq, .ref sa])), (la, .inl (cI, 200, .inl lf))]) [0, 1] rfl
  have hDc := hD.sub (ws' := [(mo, .inr (3, [.int nz, .ref la, .int sq, .ref sa])), (la, .inl (cI, 200, .inl lf))]) [0, 1] (by decide) rfl
  have hKc := hK.sub (tys' := [(cI, .int)]) [0] rfl
  have hFc := va_free (wc := [(mo, .inr (3, [.int nz, .ref la, .int sq, .ref sa])), (la, .inl (cI, 200, .inl lf))]) hD hS hA [0, 1] rfl
  refine va_calli (va_runV (As := [.int (0 : Int32)]) (rest := []) ⟨hx, hb, hml, hown, hww⟩ (c_m_isZero l dC dI mo la sa cI s.heap.size (0 : Int32) nz sq lf r1 hu) (cwV 1 hww (tq_gV tqt_421 tqt_423 tqt_21 tqt_35 tqt_424) rfl rfl rfl (by decide +kernel) ⟨Nat.le_of_ble_eq_true rfl, Nat.le_of_ble_eq_true rfl⟩) ⟨fun a U g mk q => by obtain ⟨q0, q1, qP, qK, qD, qN⟩ := q; exact ⟨q0, q1, qP, va_K.moved (u := U) (U := U.calling g mk a) (Vm.Alike.refl U.vm) qK, qD, tqN_same (u := U) (U := U.calling g mk a) rfl qN⟩, va_recv hK hP (ci := 3) rfl (q0 := 0) rfl, fun U hU hW => ⟨rfl, by rw [hU], by rw [hU]; exact hPc, va_K.moved hW.alike hKc, hDc.weaken (fun _ _ _ _ => trivial), tqN_warm hW hN⟩⟩ rfl rfl hl.1 rfl (lv_room (Nat.le_of_ble_eq_true rfl)) dM_rounded_2 ⟨Nat.zero_le _, Nat.zero_le _⟩) hS (fun q _ h => hFc q h) hFc (fun ra u0 t H1 locs ht hvm hpost hB hz1 hk1 hS => ?_)
  have hpost : r1 = ra := (show ra = r1 from hpost).symm
  subst hpost
  obtain ⟨hP1, hK1, hD1⟩ := hB
  rw [ht] at hP1
  obtain ⟨hP, hD⟩ := va_join (wr := []) (w1 := [(mo, .inr (3, [.int nz, .ref la, .int sq, .ref sa])), (la, .inl (cI, 200, .inl lf))]) hP hD [0, 1] [] rfl rfl (by decide) (by decide) hk1 hFc hP1 hD1
  generalize H1 = H at hP hS ⊢
  have hP := hP.sub (ws' := [(mo, .inr (3, [.int nz, .ref la, .int sq, .ref sa])), (la, .inl (cI, 200, .inl lf))]) [0, 1] rfl
  have hD := hD.sub (ws' := [(mo, .inr (3, [.int nz, .ref la, .int sq, .ref sa])), (la, .inl (cI, 200, .inl lf))]) [0, 1] (by decide) rfl
  refine lv_if_eq hx hb dM_rounded_5 rfl (fun h2 => ?_) (fun h2 => ?_)
  · rw [if_pos h2] at hf
    refine lv_lconst (v := 1) hx hb dM_rounded_10 (by decide) ?_
    refine lv_lstore_n (lv' := [(3, .long (1 : Int64)), (0, .ref mo), (1, .int mi), (2, .int size)]) hx hb dM_rounded_11 rfl hl (by decide) rfl (fun ls hl => ?_)
    refine lv_lconst (v := 1) hx hb dM_rounded_12 (by decide) ?_
    refine lv_iload_n hx hb dM_rounded_13 rfl (lv_at hl 3 rfl) ?_
    refine lv_iconst (v := 1) hx hb dM_rounded_14 (by decide) ?_
    refine lv_isub hx hb dM_rounded_15 ?_
    refine lv_lshl hx hb dM_rounded_16 rfl ?_
    refine lv_lconst (v := 1) hx hb dM_rounded_17 (by decide) ?_
    refine lv_lsub hx hb dM_rounded_18 ?_
    refine lv_topl (fun x3 e3 => ?_)
    have hf := tq_nm_at e3 hf
    refine lv_lstore (lv' := [(5, .long x3), (3, .long (1 : Int64)), (0, .ref mo), (1, .int mi), (2, .int size)]) hx hb dM_rounded_19 hl (by decide) rfl (fun ls hl => ?_)
    refine lv_lload_n hx hb dM_rounded_21 rfl (lv_at hl 1 rfl) ?_
    refine lv_lstore (lv' := [(7, .long (1 : Int64)), (5, .long x3), (3, .long (1 : Int64)), (0, .ref mo), (1, .int mi), (2, .int size)]) hx hb dM_rounded_22 hl (by decide) rfl (fun ls hl => ?_)
    refine lv_aload_n hx hb dM_rounded_24 rfl (lv_at hl 3 rfl) ?_
    refine lv_lload hx hb dM_rounded_25 (lv_at hl 1 rfl) ?_
    refine lv_iload_n hx hb dM_rounded_27 rfl (lv_at hl 5 rfl) ?_
    obtain ⟨u, hu, hf⟩ := tq_bd_some hf
    obtain ⟨r4, lf5⟩ := u
    have hf := tq_nm_at (z := r4) rfl hf
    have hf := tq_nm_at (z := lf5) rfl hf
    have hPc := hP.sub (ws' := [(mo, .inr (3, [.int nz, .ref la, .int sq, .ref sa])), (la, .inl (cI, 200, .inl lf))]) [0, 1] rfl
    have hDc := hD.sub (ws' := [(mo, .inr (3, [.int nz, .ref la, .int sq, .ref sa])), (la, .inl (cI, 200, .inl lf))]) [0, 1] (by decide) rfl
    have hKc := hK.sub (tys' := [(cI, .int)]) [0] rfl
    have hFc := va_free (wc := [(mo, .inr (3, [.int nz, .ref la, .int sq, .ref sa])), (la, .inl (cI, 200, .inl lf))]) hD hS hA [0, 1] rfl
    refine va_calli (va_runV (As := [.long x3, .int size]) (rest := []) ⟨hx, hb, hml, hown, hww⟩ (c_m_against l dC dI mo la sa cI H.size x3 size nz sq lf (r4, lf5) hu) (cwV 2 hww (tq_gV tqt_425 tqt_427 tqt_22 tqt_35 tqt_428) rfl rfl rfl (by decide +kernel) ⟨Nat.le_of_ble_eq_true rfl, Nat.le_of_ble_eq_true rfl⟩) ⟨fun a U g mk q => by obtain ⟨q0, q1, qP, qK, qD, qN⟩ := q; exact ⟨q0, q1, qP, va_K.moved (u := U) (U := U.calling g mk a) (Vm.Alike.refl U.vm) qK, qD, tqN_same (u := U) (U := U.calling g mk a) rfl qN⟩, va_recv hK hP (ci := 3) rfl (q0 := 0) rfl, fun U hU hW => ⟨rfl, by rw [hU], by rw [hU]; exact hPc, va_K.moved hW.alike hKc, hDc.weaken (fun _ _ _ _ => trivial), tqN_warm hW hN⟩⟩ rfl rfl hl.1 rfl (lv_room (Nat.le_of_ble_eq_true rfl)) dM_rounded_28 ⟨Nat.zero_le _, Nat.zero_le _⟩) hS (fun q _ h => hFc q h) hFc (fun ra u0 t H1 locs ht hvm hpost hB hz1 hk1 hS => ?_)
    have hpost : r4 = ra := (show ra = r4 from hpost).symm
    subst hpost
    obtain ⟨hP1, hK1, hD1⟩ := hB
    rw [ht] at hP1
    obtain ⟨hP, hD⟩ := va_join (wr := []) (w1 := [(mo, .inr (3, [.int nz, .ref la, .int sq, .ref sa])), (la, .inl (cI, 200, .inl lf5))]) hP hD [0, 1] [] rfl rfl (by decide) (by decide) hk1 hFc hP1 hD1
    generalize H1 = H at hP hS ⊢
    have hP := hP.sub (ws' := [(mo, .inr (3, [.int nz, .ref la, .int sq, .ref sa])), (la, .inl (cI, 200, .inl lf5))]) [0, 1] rfl
    have hD := hD.sub (ws' := [(mo, .inr (3, [.int nz, .ref la, .int sq, .ref sa])), (la, .inl (cI, 200, .inl lf5))]) [0, 1] (by decide) rfl
    refine lv_if_le hx hb dM_rounded_31 rfl (fun h6 => ?_) (fun h6 => ?_)
    · rw [if_pos h6] at hf
      refine lv_aload_n hx hb dM_rounded_41 rfl (lv_at hl 3 rfl) ?_
      refine lv_lload_n hx hb dM_rounded_42 rfl (lv_at hl 2 rfl) ?_
      refine lv_iload_n hx hb dM_rounded_43 rfl (lv_at hl 5 rfl) ?_
      obtain ⟨u, hu, hf⟩ := tq_bd_some hf
      obtain ⟨r7, lf8⟩ := u
      have hf := tq_nm_at (z := r7) rfl hf
      have hf := tq_nm_at (z := lf8) rfl hf
      have hPc := hP.sub (ws' := [(mo, .inr (3, [.int nz, .ref la, .int sq, .ref sa])), (la, .inl (cI, 200, .inl lf5))]) [0, 1] rfl
      have hDc := hD.sub (ws' := [(mo, .inr (3, [.int nz, .ref la, .int sq, .ref sa])), (la, .inl (cI, 200, .inl lf5))]) [0, 1] (by decide) rfl
      have hKc := hK.sub (tys' := [(cI, .int)]) [0] rfl
      have hFc := va_free (wc := [(mo, .inr (3, [.int nz, .ref la, .int sq, .ref sa])), (la, .inl (cI, 200, .inl lf5))]) hD hS hA [0, 1] rfl
      refine va_calli (va_runV (As := [.long (1 : Int64), .int size]) (rest := []) ⟨hx, hb, hml, hown, hww⟩ (c_m_against l dC dI mo la sa cI H.size (1 : Int64) size nz sq lf5 (r7, lf8) hu) (cwV 2 hww (tq_gV tqt_425 tqt_427 tqt_22 tqt_35 tqt_428) rfl rfl rfl (by decide +kernel) ⟨Nat.le_of_ble_eq_true rfl, Nat.le_of_ble_eq_true rfl⟩) ⟨fun a U g mk q => by obtain ⟨q0, q1, qP, qK, qD, qN⟩ := q; exact ⟨q0, q1, qP, va_K.moved (u := U) (U := U.calling g mk a) (Vm.Alike.refl U.vm) qK, qD, tqN_same (u := U) (U := U.calling g mk a) rfl qN⟩, va_recv hK hP (ci := 3) rfl (q0 := 0) rfl, fun U hU hW => ⟨rfl, by rw [hU], by rw [hU]; exact hPc, va_K.moved hW.alike hKc, hDc.weaken (fun _ _ _ _ => trivial), tqN_warm hW hN⟩⟩ rfl rfl hl.1 rfl (lv_room (Nat.le_of_ble_eq_true rfl)) dM_rounded_44 ⟨Nat.zero_le _, Nat.zero_le _⟩) hS (fun q _ h => hFc q h) hFc (fun ra u0 t H1 locs ht hvm hpost hB hz1 hk1 hS => ?_)
      have hpost : r7 = ra := (show ra = r7 from hpost).symm
      subst hpost
      obtain ⟨hP1, hK1, hD1⟩ := hB
      rw [ht] at hP1
      obtain ⟨hP, hD⟩ := va_join (wr := []) (w1 := [(mo, .inr (3, [.int nz, .ref la, .int sq, .ref sa])), (la, .inl (cI, 200, .inl lf8))]) hP hD [0, 1] [] rfl rfl (by decide) (by decide) hk1 hFc hP1 hD1
      generalize H1 = H at hP hS ⊢
      have hP := hP.sub (ws' := [(mo, .inr (3, [.int nz, .ref la, .int sq, .ref sa])), (la, .inl (cI, 200, .inl lf8))]) [0, 1] rfl
      have hD := hD.sub (ws' := [(mo, .inr (3, [.int nz, .ref la, .int sq, .ref sa])), (la, .inl (cI, 200, .inl lf8))]) [0, 1] (by decide) rfl
      refine lv_if_lt hx hb dM_rounded_47 rfl (fun h9 => ?_) (fun h9 => ?_)
      · rw [if_pos h9] at hf
        exact B156 ls _ _ (1 : Int64) lf8 hf (lv_sub hl [4, 0] rfl) hP hD hS
      · rw [if_neg h9] at hf
        exact B50 41 ls _ _ (1 : Int64) x3 lf8 hf (lv_sub hl [3, 4, 5, 2, 1] rfl) hP hD hS
    · rw [if_neg h6] at hf
      refine lv_lload hx hb dM_rounded_34 (lv_at hl 1 rfl) ?_
      refine lv_lstore (lv' := [(7, .long x3), (5, .long x3), (3, .long (1 : Int64)), (0, .ref mo), (1, .int mi), (2, .int size)]) hx hb dM_rounded_36 hl (by decide) rfl (fun ls hl => ?_)
      refine lv_goto hx hb dM_rounded_38 rfl ?_
      exact B156 ls _ _ x3 lf5 hf (lv_sub hl [4, 0] rfl) hP hD hS
  · rw [if_neg h2] at hf
    refine lv_iconst (v := 0) hx hb dM_rounded_8 (by decide) ?_
    have hf := Option.some.inj hf
    subst hf
    exact W.iret (v := (0 : Int32)) hx hb hr (fun t ht hW => ⟨⟨(0 : Int32), (), rfl, rfl, by rw [ht]; exact hP, va_K.moved hW.alike hK, hD⟩, hS.F ht⟩) hS.2.2 dM_rounded_9
set_option maxHeartbeats 4000000 in
set_option maxRecDepth 100000 in
theorem c_m_joined (l : Launch) (dC : Nat → ClassId) (dI : Nat → Nat → Nat) (mo : Nat) (la : Nat) (sa : Nat) (cI : ClassId) (sz : Nat) (mi : Int32) (om : Int32) (nz : Int32) (sq : Int32) (lf : Nat → Int32) (r : Int32 × (Nat → Int32)) (hf : m_joined lf mi om = some r) (hb_mi : mi = 0 ∨ mi = 1) (hb_om : om = 0 ∨ om = 1) : Met l yM_joined tqw_M_joined ({ frames := 1, cells := 0, slots := 0, locals := 26 }) (va_Pc [.ref mo, .int mi, .int om] (fun U => U.heap.size = sz ∧ va_P (dC, dI) tqCl [(mo, .inr (3, [.int nz, .ref la, .int sq, .ref sa])), (la, .inl (cI, 200, .inl lf))] U.heap ∧ va_K (dC, dI) tqCl [(cI, .int)] U ∧ va_D (fun _ => True) [(mo, .inr (3, [.int nz, .ref la, .int sq, .ref sa])), (la, .inl (cI, 200, .inl lf))] ∧ tqN U)) (va_Qi (fun (a : Int32) (_ : Unit) => a = r.1) (fun (_ : Unit) (t : State) => va_P (dC, dI) tqCl [(mo, .inr (3, [.int nz, .ref la, .int sq, .ref sa])), (la, .inl (cI, 200, .inl r.2))] t.heap ∧ va_K (dC, dI) tqCl [(cI, .int)] t ∧ va_D (va_A [(mo, .inr (3, [.int nz, .ref la, .int sq, .ref sa])), (la, .inl (cI, 200, .inl lf))] sz) [(mo, .inr (3, [.int nz, .ref la, .int sq, .ref sa])), (la, .inl (cI, 200, .inl r.2))]) (va_A [(mo, .inr (3, [.int nz, .ref la, .int sq, .ref sa])), (la, .inl (cI, 200, .inl lf))] sz)) 0 0 (va_A [(mo, .inr (3, [.int nz, .ref la, .int sq, .ref sa])), (la, .inl (cI, 200, .inl lf))] sz) := by
  refine Met.ofW (cc := cM_joined) (maxL := 3) (ret := (some .boolean)) (by decide) rfl ?_
  intro p e s m args below meth c s₁ B hml hv
  obtain ⟨rfl, hsz, hP, hK, hD0, hN⟩ := hv
  have hx := B.exec
  have hb := B.bytes
  have hr := B.returns
  have hts := atoms_spec (ws := tqw_M_joined) B.pre
  have hww : ∀ w ∈ tqW, w.before _ s = true := fun w h => hts w (List.mem_cons_of_mem _ h)
  have hown : s.vm.findClass RM = some m.cls := findClass_of_methodNamed B.named
  have hlocks := B.notSynchronized
  subst hsz
  have hD := hD0.self (sz := s.heap.size)
  generalize hAe : va_A [(mo, .inr (3, [.int nz, .ref la, .int sq, .ref sa])), (la, .inl (cI, 200, .inl lf))] s.heap.size = A at hD ⊢
  have hA : ∀ q : Nat, s.heap.size ≤ q → A q := fun q h => by rw [← hAe]; exact Or.inr h
  have hS : va_S A s.heap s.heap [] := va_S.rf
  have hP : va_P (dC, dI) tqCl [(mo, .inr (3, [.int nz, .ref la, .int sq, .ref sa])), (la, .inl (cI, 200, .inl lf))] s.heap := hP
  have hl := lv_entry ([.ref mo, .int mi, .int om]) (n := 3) (Nat.le_of_ble_eq_true rfl)
  rw [lg_entry_eq]
  generalize (lg_sl ([.ref mo, .int mi, .int om]) ++ List.replicate (3 - (lg_sl ([.ref mo, .int mi, .int om])).length) Slot.unset).toArray = ls at hl ⊢
  have hl : lv_has ls 3 [(0, .ref mo), (1, .int mi), (2, .int om)] := hl
  unfold m_joined at hf
  refine lv_iload_n hx hb dM_joined_0 rfl (lv_at hl 1 rfl) ?_
  refine lv_iload_n hx hb dM_joined_1 rfl (lv_at hl 2 rfl) ?_
  refine lv_icmp_ne hx hb dM_joined_2 rfl (fun h1 => ?_) (fun h1 => ?_)
  · rw [if_pos h1] at hf
    refine lv_aload_n hx hb dM_joined_13 rfl (lv_at hl 0 rfl) ?_
    refine lv_iconst (v := 0) hx hb dM_joined_14 (by decide) ?_
    refine lv_iconst (v := 1) hx hb dM_joined_15 (by decide) ?_
    obtain ⟨r2, hu, hf⟩ := tq_bd_some hf
    have hPc := hP.sub (ws' := [(mo, .inr (3, [.int nz, .ref la, .int sq, .ref sa])), (la, .inl (cI, 200, .inl lf))]) [0, 1] rfl
    have hDc := hD.sub (ws' := [(mo, .inr (3, [.int nz, .ref la, .int sq, .ref sa])), (la, .inl (cI, 200, .inl lf))]) [0, 1] (by decide) rfl
    have hKc := hK.sub (tys' := [(cI, .int)]) [0] rfl
    have hFc := va_free (wc := [(mo, .inr (3, [.int nz, .ref la, .int sq, .ref sa])), (la, .inl (cI, 200, .inl lf))]) hD hS hA [0, 1] rfl
    refine va_calli (va_runV (As := [.int (0 : Int32), .int (1 : Int32)]) (rest := []) ⟨hx, hb, hml, hown, hww⟩ (c_m_order l dC dI mo la sa cI s.heap.size (0 : Int32) (1 : Int32) nz sq lf r2 hu) (cwV 2 hww (tq_gV tqt_405 tqt_407 tqt_17 tqt_35 tqt_408) rfl rfl rfl (by decide +kernel) ⟨Nat.le_of_ble_eq_true rfl, Nat.le_of_ble_eq_true rfl⟩) ⟨fun a U g mk q => by obtain ⟨q0, q1, qP, qK, qD, qN⟩ := q; exact ⟨q0, q1, qP, va_K.moved (u := U) (U := U.calling g mk a) (Vm.Alike.refl U.vm) qK, qD, tqN_same (u := U) (U := U.calling g mk a) rfl qN⟩, va_recv hK hP (ci := 3) rfl (q0 := 0) rfl, fun U hU hW => ⟨rfl, by rw [hU], by rw [hU]; exact hPc, va_K.moved hW.alike hKc, hDc.weaken (fun _ _ _ _ => trivial), tqN_warm hW hN⟩⟩ rfl rfl hl.1 rfl (lv_room (Nat.le_of_ble_eq_true rfl)) dM_joined_16 ⟨Nat.zero_le _, Nat.zero_le _⟩) hS (fun q _ h => hFc q h) hFc (fun ra u0 t H1 locs ht hvm hpost hB hz1 hk1 hS => ?_)
    have hpost : r2 = ra := (show ra = r2 from hpost).symm
    subst hpost
    obtain ⟨hP1, hK1, hD1⟩ := hB
    rw [ht] at hP1
    obtain ⟨hP, hD⟩ := va_join (wr := []) (w1 := [(mo, .inr (3, [.int nz, .ref la, .int sq, .ref sa])), (la, .inl (cI, 200, .inl lf))]) hP hD [0, 1] [] rfl rfl (by decide) (by decide) hk1 hFc hP1 hD1
    generalize H1 = H at hP hS ⊢
    have hP := hP.sub (ws' := [(mo, .inr (3, [.int nz, .ref la, .int sq, .ref sa])), (la, .inl (cI, 200, .inl lf))]) [0, 1] rfl
    have hD := hD.sub (ws' := [(mo, .inr (3, [.int nz, .ref la, .int sq, .ref sa])), (la, .inl (cI, 200, .inl lf))]) [0, 1] (by decide) rfl
    refine lv_if_lt hx hb dM_joined_19 rfl (fun h3 => ?_) (fun h3 => ?_)
    · rw [if_pos h3] at hf
      refine lv_aload_n hx hb dM_joined_31 rfl (lv_at hl 0 rfl) ?_
      refine lv_iconst (v := 1) hx hb dM_joined_32 (by decide) ?_
      refine lv_iconst (v := 0) hx hb dM_joined_33 (by decide) ?_
      refine lv_iconst (v := 0) hx hb dM_joined_34 (by decide) ?_
      obtain ⟨lf4, hu, hf⟩ := tq_bd_some hf
      have hPc := hP.sub (ws' := [(mo, .inr (3, [.int nz, .ref la, .int sq, .ref sa])), (la, .inl (cI, 200, .inl lf))]) [0, 1] rfl
      have hDc := hD.sub (ws' := [(mo, .inr (3, [.int nz, .ref la, .int sq, .ref sa])), (la, .inl (cI, 200, .inl lf))]) [0, 1] (by decide) rfl
      have hKc := hK.sub (tys' := [(cI, .int)]) [0] rfl
      have hFc := va_free (wc := [(mo, .inr (3, [.int nz, .ref la, .int sq, .ref sa])), (la, .inl (cI, 200, .inl lf))]) hD hS hA [0, 1] rfl
      refine va_callv (va_runV (As := [.int (1 : Int32), .int (0 : Int32), .int (0 : Int32)]) (rest := []) ⟨hx, hb, hml, hown, hww⟩ (c_m_apart l dC dI mo la sa cI H.size (1 : Int32) (0 : Int32) (0 : Int32) nz sq lf lf4 hu) (cwV 3 hww (tq_gV tqt_409 tqt_411 tqt_18 tqt_35 tqt_412) rfl rfl rfl (by decide +kernel) ⟨Nat.le_of_ble_eq_true rfl, Nat.le_of_ble_eq_true rfl⟩) ⟨fun a U g mk q => by obtain ⟨q0, q1, qP, qK, qD, qN⟩ := q; exact ⟨q0, q1, qP, va_K.moved (u := U) (U := U.calling g mk a) (Vm.Alike.refl U.vm) qK, qD, tqN_same (u := U) (U := U.calling g mk a) rfl qN⟩, va_recv hK hP (ci := 3) rfl (q0 := 0) rfl, fun U hU hW => ⟨rfl, by rw [hU], by rw [hU]; exact hPc, va_K.moved hW.alike hKc, hDc.weaken (fun _ _ _ _ => trivial), tqN_warm hW hN⟩⟩ rfl rfl hl.1 rfl (lv_room (Nat.le_of_ble_eq_true rfl)) dM_joined_35 ⟨Nat.zero_le _, Nat.zero_le _⟩) hS (fun q _ h => hFc q h) hFc (fun u0 t H1 locs ht hvm hpost hB hz1 hk1 hS => ?_)
      obtain ⟨hP1, hK1, hD1⟩ := hB
      rw [ht] at hP1
      obtain ⟨hP, hD⟩ := va_join (wr := []) (w1 := [(mo, .inr (3, [.int nz, .ref la, .int sq, .ref sa])), (la, .inl (cI, 200, .inl lf4))]) hP hD [0, 1] [] rfl rfl (by decide) (by decide) hk1 hFc hP1 hD1
      generalize H1 = H at hP hS ⊢
      have hP := hP.sub (ws' := [(mo, .inr (3, [.int nz, .ref la, .int sq, .ref sa])), (la, .inl (cI, 200, .inl lf4))]) [0, 1] rfl
      have hD := hD.sub (ws' := [(mo, .inr (3, [.int nz, .ref la, .int sq, .ref sa])), (la, .inl (cI, 200, .inl lf4))]) [0, 1] (by decide) rfl
      refine lv_iload_n hx hb dM_joined_38 rfl (lv_at hl 2 rfl) ?_
      have hf := Option.some.inj hf
      subst hf
      exact W.zret (v := om) hx hb hr (tq_nb_bool hb_om) (fun t ht hW => ⟨⟨om, (), rfl, rfl, by rw [ht]; exact hP, va_K.moved hW.alike hK, hD⟩, hS.F ht⟩) hS.2.2 dM_joined_39
    · rw [if_neg h3] at hf
      refine lv_aload_n hx hb dM_joined_22 rfl (lv_at hl 0 rfl) ?_
      refine lv_iconst (v := 0) hx hb dM_joined_23 (by decide) ?_
      refine lv_iconst (v := 1) hx hb dM_joined_24 (by decide) ?_
      refine lv_iconst (v := 0) hx hb dM_joined_25 (by decide) ?_
      obtain ⟨lf5, hu, hf⟩ := tq_bd_some hf
      have hPc := hP.sub (ws' := [(mo, .inr (3, [.int nz, .ref la, .int sq, .ref sa])), (la, .inl (cI, 200, .inl lf))]) [0, 1] rfl
      have hDc := hD.sub (ws' := [(mo, .inr (3, [.int nz, .ref la, .int sq, .ref sa])), (la, .inl (cI, 200, .inl lf))]) [0, 1] (by decide) rfl
      have hKc := hK.sub (tys' := [(cI, .int)]) [0] rfl
      have hFc := va_free (wc := [(mo, .inr (3, [.int nz, .ref la, .int sq, .ref sa])), (la, .inl (cI, 200, .inl lf))]) hD hS hA [0, 1] rfl
      refine va_callv (va_runV (As := [.int (0 : Int32), .int (1 : Int32), .int (0 : Int32)]) (rest := []) ⟨hx, hb, hml, hown, hww⟩ (c_m_apart l dC dI mo la sa cI H.size (0 : Int32) (1 : Int32) (0 : Int32) nz sq lf lf5 hu) (cwV 3 hww (tq_gV tqt_409 tqt_411 tqt_18 tqt_35 tqt_412) rfl rfl rfl (by decide +kernel) ⟨Nat.le_of_ble_eq_true rfl, Nat.le_of_ble_eq_true rfl⟩) ⟨fun a U g mk q => by obtain ⟨q0, q1, qP, qK, qD, qN⟩ := q; exact ⟨q0, q1, qP, va_K.moved (u := U) (U := U.calling g mk a) (Vm.Alike.refl U.vm) qK, qD, tqN_same (u := U) (U := U.calling g mk a) rfl qN⟩, va_recv hK hP (ci := 3) rfl (q0 := 0) rfl, fun U hU hW => ⟨rfl, by rw [hU], by rw [hU]; exact hPc, va_K.moved hW.alike hKc, hDc.weaken (fun _ _ _ _ => trivial), tqN_warm hW hN⟩⟩ rfl rfl hl.1 rfl (lv_room (Nat.le_of_ble_eq_true rfl)) dM_joined_26 ⟨Nat.zero_le _, Nat.zero_le _⟩) hS (fun q _ h => hFc q h) hFc (fun u0 t H1 locs ht hvm hpost hB hz1 hk1 hS => ?_)
      obtain ⟨hP1, hK1, hD1⟩ := hB
      rw [ht] at hP1
      obtain ⟨hP, hD⟩ := va_join (wr := []) (w1 := [(mo, .inr (3, [.int nz, .ref la, .int sq, .ref sa])), (la, .inl (cI, 200, .inl lf5))]) hP hD [0, 1] [] rfl rfl (by decide) (by decide) hk1 hFc hP1 hD1
      generalize H1 = H at hP hS ⊢
      have hP := hP.sub (ws' := [(mo, .inr (3, [.int nz, .ref la, .int sq, .ref sa])), (la, .inl (cI, 200, .inl lf5))]) [0, 1] rfl
      have hD := hD.sub (ws' := [(mo, .inr (3, [.int nz, .ref la, .int sq, .ref sa])), (la, .inl (cI, 200, .inl lf5))]) [0, 1] (by decide) rfl
      refine lv_iload_n hx hb dM_joined_29 rfl (lv_at hl 1 rfl) ?_
      have hf := Option.some.inj hf
      subst hf
      exact W.zret (v := mi) hx hb hr (tq_nb_bool hb_mi) (fun t ht hW => ⟨⟨mi, (), rfl, rfl, by rw [ht]; exact hP, va_K.moved hW.alike hK, hD⟩, hS.F ht⟩) hS.2.2 dM_joined_30
  · rw [if_neg (fun q : ¬ mi = om => q h1)] at hf
    refine lv_aload_n hx hb dM_joined_5 rfl (lv_at hl 0 rfl) ?_
    refine lv_iconst (v := 0) hx hb dM_joined_6 (by decide) ?_
    refine lv_iconst (v := 1) hx hb dM_joined_7 (by decide) ?_
    obtain ⟨lf6, hu, hf⟩ := tq_bd_some hf
    have hPc := hP.sub (ws' := [(mo, .inr (3, [.int nz, .ref la, .int sq, .ref sa])), (la, .inl (cI, 200, .inl lf))]) [0, 1] rfl
    have hDc := hD.sub (ws' := [(mo, .inr (3, [.int nz, .ref la, .int sq, .ref sa])), (la, .inl (cI, 200, .inl lf))]) [0, 1] (by decide) rfl
    have hKc := hK.sub (tys' := [(cI, .int)]) [0] rfl
    have hFc := va_free (wc := [(mo, .inr (3, [.int nz, .ref la, .int sq, .ref sa])), (la, .inl (cI, 200, .inl lf))]) hD hS hA [0, 1] rfl
    refine va_callv (va_runV (As := [.int (0 : Int32), .int (1 : Int32)]) (rest := []) ⟨hx, hb, hml, hown, hww⟩ (c_m_plus l dC dI mo la sa cI s.heap.size (0 : Int32) (1 : Int32) nz sq lf lf6 hu) (cwV 2 hww (tq_gV tqt_401 tqt_403 tqt_16 tqt_35 tqt_404) rfl rfl rfl (by decide +kernel) ⟨Nat.le_of_ble_eq_true rfl, Nat.le_of_ble_eq_true rfl⟩) ⟨fun a U g mk q => by obtain ⟨q0, q1, qP, qK, qD, qN⟩ := q; exact ⟨q0, q1, qP, va_K.moved (u := U) (U := U.calling g mk a) (Vm.Alike.refl U.vm) qK, qD, tqN_same (u := U) (U := U.calling g mk a) rfl qN⟩, va_recv hK hP (ci := 3) rfl (q0 := 0) rfl, fun U hU hW => ⟨rfl, by rw [hU], by rw [hU]; exact hPc, va_K.moved hW.alike hKc, hDc.weaken (fun _ _ _ _ => trivial), tqN_warm hW hN⟩⟩ rfl rfl hl.1 rfl (lv_room (Nat.le_of_ble_eq_true rfl)) dM_joined_8 ⟨Nat.zero_le _, Nat.zero_le _⟩) hS (fun q _ h => hFc q h) hFc (fun u0 t H1 locs ht hvm hpost hB hz1 hk1 hS => ?_)
    obtain ⟨hP1, hK1, hD1⟩ := hB
    rw [ht] at hP1
    obtain ⟨hP, hD⟩ := va_join (wr := []) (w1 := [(mo, .inr (3, [.int nz, .ref la, .int sq, .ref sa])), (la, .inl (cI, 200, .inl lf6))]) hP hD [0, 1] [] rfl rfl (by decide) (by decide) hk1 hFc hP1 hD1
    generalize H1 = H at hP hS ⊢
    have hP := hP.sub (ws' := [(mo, .inr (3, [.int nz, .ref la, .int sq, .ref sa])), (la, .inl (cI, 200, .inl lf6))]) [0, 1] rfl
    have hD := hD.sub (ws' := [(mo, .inr (3, [.int nz, .ref la, .int sq, .ref sa])), (la, .inl (cI, 200, .inl lf6))]) [0, 1] (by decide) rfl
    refine lv_iload_n hx hb dM_joined_11 rfl (lv_at hl 1 rfl) ?_
    have hf := Option.some.inj hf
    subst hf
    exact W.zret (v := mi) hx hb hr (tq_nb_bool hb_mi) (fun t ht hW => ⟨⟨mi, (), rfl, rfl, by rw [ht]; exact hP, va_K.moved hW.alike hK, hD⟩, hS.F ht⟩) hS.2.2 dM_joined_12
