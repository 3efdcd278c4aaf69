set_option maxHeartbeats 4000000 in
set_option maxRecDepth 100000 in
theorem c_f_bits (l : Launch) (dC : Nat → ClassId) (dI : Nat → Nat → Nat) (th : Nat) (sa : Nat) (s2 : Nat) (s3 : Nat) (o0 : Nat) (o1 : Nat) (sz : Nat) (size : Int32) (r : Int32) (hf : f_bits size = r) : Met l yX2_bits tqw_X2_bits ({ frames := 0, cells := 0, slots := 0, locals := 0 }) (va_Pc [.ref th] (fun U => U.heap.size = sz ∧ va_P (dC, dI) tqCl [(th, .inr (2, [.int size, .ref sa, .ref s2, .ref s3, .ref o0, .ref o1]))] U.heap ∧ va_K (dC, dI) tqCl [] U ∧ va_D (fun _ => True) [(th, .inr (2, [.int size, .ref sa, .ref s2, .ref s3, .ref o0, .ref o1]))] ∧ tqN U)) (va_Qi (fun (a : Int32) (_ : Unit) => a = r) (fun (_ : Unit) (t : State) => va_P (dC, dI) tqCl [(th, .inr (2, [.int size, .ref sa, .ref s2, .ref s3, .ref o0, .ref o1]))] t.heap ∧ va_K (dC, dI) tqCl [] t ∧ va_D (va_A [(th, .inr (2, [.int size, .ref sa, .ref s2, .ref s3, .ref o0, .ref o1]))] sz) [(th, .inr (2, [.int size, .ref sa, .ref s2, .ref s3, .ref o0, .ref o1]))]) (va_A [(th, .inr (2, [.int size, .ref sa, .ref s2, .ref s3, .ref o0, .ref o1]))] sz)) 0 0 (va_A [(th, .inr (2, [.int size, .ref sa, .ref s2, .ref s3, .ref o0, .ref o1]))] sz) := by
  refine Met.ofW (cc := cX2_bits) (maxL := 1) (ret := (some .int)) (by decide) rfl ?_
  intro p e s m args below meth c s₁ B hml hv
  obtain ⟨rfl, hsz, hP, hK, hD0, hN⟩ := hv
  have hx := B.exec
  have hb := B.bytes
  have hr := B.returns
  have hts := atoms_spec (ws := tqw_X2_bits) B.pre
  have hww : ∀ w ∈ tqW, w.before _ s = true := fun w h => hts w (List.mem_cons_of_mem _ h)
  have hown : s.vm.findClass RX2 = some m.cls := findClass_of_methodNamed B.named
  have hlocks := B.notSynchronized
  subst hsz
  have hD := hD0.self (sz := s.heap.size)
  generalize hAe : va_A [(th, .inr (2, [.int size, .ref sa, .ref s2, .ref s3, .ref o0, .ref o1]))] s.heap.size = A at hD ⊢
  have hA : ∀ q : Nat, s.heap.size ≤ q → A q := fun q h => by rw [← hAe]; exact Or.inr h
  have hS : va_S A s.heap s.heap [] := va_S.rf
  have hP : va_P (dC, dI) tqCl [(th, .inr (2, [.int size, .ref sa, .ref s2, .ref s3, .ref o0, .ref o1]))] s.heap := hP
  have hl := lv_entry ([.ref th]) (n := 1) (Nat.le_of_ble_eq_true rfl)
  rw [lg_entry_eq]
  generalize (lg_sl ([.ref th]) ++ List.replicate (1 - (lg_sl ([.ref th])).length) Slot.unset).toArray = ls at hl ⊢
  have hl : lv_has ls 1 [(0, .ref th)] := hl
  unfold f_bits at hf
  refine lv_aload_n hx hb dX2_bits_0 rfl (lv_at hl 0 rfl) ?_
  refine va_get (D := (dC, dI)) (ci := 2) (v := .int size) (C := RX2) (T := TX2) (N := 6) hx hb hww tqinX2 hown hK hP 0 rfl rfl 0 (by decide) (hww _ tqt_94) (fun _ h9 => h9) rfl dX2_bits_1 ?_
  subst hf
  exact W.iret (v := size) hx hb hr (fun t ht hW => ⟨⟨size, (), rfl, rfl, by rw [ht]; exact hP, va_K.moved hW.alike hK, hD⟩, hS.F ht⟩) hS.2.2 dX2_bits_4
set_option maxHeartbeats 4000000 in
set_option maxRecDepth 100000 in
theorem c_f_one (l : Launch) (dC : Nat → ClassId) (dI : Nat → Nat → Nat) (th : Nat) (sa : Nat) (s2 : Nat) (s3 : Nat) (o0 : Nat) (o1 : Nat) (sz : Nat) (size : Int32) (r : Int32) (hf : f_one size = r) : Met l yX2_one tqw_X2_one ({ frames := 0, cells := 0, slots := 0, locals := 0 }) (va_Pc [.ref th] (fun U => U.heap.size = sz ∧ va_P (dC, dI) tqCl [(th, .inr (2, [.int size, .ref sa, .ref s2, .ref s3, .ref o0, .ref o1]))] U.heap ∧ va_K (dC, dI) tqCl [] U ∧ va_D (fun _ => True) [(th, .inr (2, [.int size, .ref sa, .ref s2, .ref s3, .ref o0, .ref o1]))] ∧ tqN U)) (va_Qi (fun (a : Int32) (_ : Unit) => a = r) (fun (_ : Unit) (t : State) => va_P (dC, dI) tqCl [(th, .inr (2, [.int size, .ref sa, .ref s2, .ref s3, .ref o0, .ref o1]))] t.heap ∧ va_K (dC, dI) tqCl [] t ∧ va_D (va_A [(th, .inr (2, [.int size, .ref sa, .ref s2, .ref s3, .ref o0, .ref o1]))] sz) [(th, .inr (2, [.int size, .ref sa, .ref s2, .ref s3, .ref o0, .ref o1]))]) (va_A [(th, .inr (2, [.int size, .ref sa, .ref s2, .ref s3, .ref o0, .ref o1]))] sz)) 0 0 (va_A [(th, .inr (2, [.int size, .ref sa, .ref s2, .ref s3, .ref o0, .ref o1]))] sz) := by
  refine Met.ofW (cc := cX2_one) (maxL := 1) (ret := (some .int)) (by decide) rfl ?_
  intro p e s m args below meth c s₁ B hml hv
  obtain ⟨rfl, hsz, hP, hK, hD0, hN⟩ := hv
  have hx := B.exec
  have hb := B.bytes
  have hr := B.returns
  have hts := atoms_spec (ws := tqw_X2_one) B.pre
  have hww : ∀ w ∈ tqW, w.before _ s = true := fun w h => hts w (List.mem_cons_of_mem _ h)
  have hown : s.vm.findClass RX2 = some m.cls := findClass_of_methodNamed B.named
  have hlocks := B.notSynchronized
  subst hsz
  have hD := hD0.self (sz := s.heap.size)
  generalize hAe : va_A [(th, .inr (2, [.int size, .ref sa, .ref s2, .ref s3, .ref o0, .ref o1]))] s.heap.size = A at hD ⊢
  have hA : ∀ q : Nat, s.heap.size ≤ q → A q := fun q h => by rw [← hAe]; exact Or.inr h
  have hS : va_S A s.heap s.heap [] := va_S.rf
  have hP : va_P (dC, dI) tqCl [(th, .inr (2, [.int size, .ref sa, .ref s2, .ref s3, .ref o0, .ref o1]))] s.heap := hP
  have hl := lv_entry ([.ref th]) (n := 1) (Nat.le_of_ble_eq_true rfl)
  rw [lg_entry_eq]
  generalize (lg_sl ([.ref th]) ++ List.replicate (1 - (lg_sl ([.ref th])).length) Slot.unset).toArray = ls at hl ⊢
  have hl : lv_has ls 1 [(0, .ref th)] := hl
  unfold f_one at hf
  refine lv_iconst (v := 1) hx hb dX2_one_0 (by decide) ?_
  refine lv_aload_n hx hb dX2_one_1 rfl (lv_at hl 0 rfl) ?_
  refine va_get (D := (dC, dI)) (ci := 2) (v := .int size) (C := RX2) (T := TX2) (N := 6) hx hb hww tqinX2 hown hK hP 0 rfl rfl 0 (by decide) (hww _ tqt_94) (fun _ h9 => h9) rfl dX2_one_2 ?_
  refine lv_iconst (v := 2) hx hb dX2_one_5 (by decide) ?_
  refine lv_isub hx hb dX2_one_6 ?_
  refine lv_ishl hx hb dX2_one_7 ?_
  subst hf
  exact W.iret (v := (1 : Int32) <<< ((size - (2 : Int32)) &&& 31)) hx hb hr (fun t ht hW => ⟨⟨(1 : Int32) <<< ((size - (2 : Int32)) &&& 31), (), rfl, rfl, by rw [ht]; exact hP, va_K.moved hW.alike hK, hD⟩, hS.F ht⟩) hS.2.2 dX2_one_8
set_option maxHeartbeats 4000000 in
set_option maxRecDepth 100000 in
theorem c_f_next (l : Launch) (dC : Nat → ClassId) (dI : Nat → Nat → Nat) (th : Nat) (sa : Nat) (s2 : Nat) (s3 : Nat) (o0 : Nat) (o1 : Nat) (sz : Nat) (x : Int32) (size : Int32) (r : Int32) (hf : f_next size x = r) : Met l yX2_next tqw_X2_next ({ frames := 1, cells := 0, slots := 0, locals := 21 }) (va_Pc [.ref th, .int x] (fun U => U.heap.size = sz ∧ va_P (dC, dI) tqCl [(th, .inr (2, [.int size, .ref sa, .ref s2, .ref s3, .ref o0, .ref o1]))] U.heap ∧ va_K (dC, dI) tqCl [] U ∧ va_D (fun _ => True) [(th, .inr (2, [.int size, .ref sa, .ref s2, .ref s3, .ref o0, .ref o1]))] ∧ tqN U)) (va_Qi (fun (a : Int32) (_ : Unit) => a = r) (fun (_ : Unit) (t : State) => va_P (dC, dI) tqCl [(th, .inr (2, [.int size, .ref sa, .ref s2, .ref s3, .ref o0, .ref o1]))] t.heap ∧ va_K (dC, dI) tqCl [] t ∧ va_D (va_A [(th, .inr (2, [.int size, .ref sa, .ref s2, .ref s3, .ref o0, .ref o1]))] sz) [(th, .inr (2, [.int size, .ref sa, .ref s2, .ref s3, .ref o0, .ref o1]))]) (va_A [(th, .inr (2, [.int size, .ref sa, .ref s2, .ref s3, .ref o0, .ref o1]))] sz)) 0 0 (va_A [(th, .inr (2, [.int size, .ref sa, .ref s2, .ref s3, .ref o0, .ref o1]))] sz) := by
  refine Met.ofW (cc := cX2_next) (maxL := 2) (ret := (some .int)) (by decide) rfl ?_
  intro p e s m args below meth c s₁ B hml hv
  obtain ⟨rfl, hsz, hP, hK, hD0, hN⟩ := hv
  have hx := B.exec
  have hb := B.bytes
  have hr := B.returns
  have hts := atoms_spec (ws := tqw_X2_next) B.pre
  have hww : ∀ w ∈ tqW, w.before _ s = true := fun w h => hts w (List.mem_cons_of_mem _ h)
  have hown : s.vm.findClass RX2 = some m.cls := findClass_of_methodNamed B.named
  have hlocks := B.notSynchronized
  subst hsz
  have hD := hD0.self (sz := s.heap.size)
  generalize hAe : va_A [(th, .inr (2, [.int size, .ref sa, .ref s2, .ref s3, .ref o0, .ref o1]))] s.heap.size = A at hD ⊢
  have hA : ∀ q : Nat, s.heap.size ≤ q → A q := fun q h => by rw [← hAe]; exact Or.inr h
  have hS : va_S A s.heap s.heap [] := va_S.rf
  have hP : va_P (dC, dI) tqCl [(th, .inr (2, [.int size, .ref sa, .ref s2, .ref s3, .ref o0, .ref o1]))] s.heap := hP
  have hl := lv_entry ([.ref th, .int x]) (n := 2) (Nat.le_of_ble_eq_true rfl)
  rw [lg_entry_eq]
  generalize (lg_sl ([.ref th, .int x]) ++ List.replicate (2 - (lg_sl ([.ref th, .int x])).length) Slot.unset).toArray = ls at hl ⊢
  have hl : lv_has ls 2 [(0, .ref th), (1, .int x)] := hl
  unfold f_next at hf
  refine lv_iload_n hx hb dX2_next_0 rfl (lv_at hl 1 rfl) ?_
  refine lv_iconst (v := 1) hx hb dX2_next_1 (by decide) ?_
  refine lv_iadd hx hb dX2_next_2 ?_
  refine lv_aload_n hx hb dX2_next_3 rfl (lv_at hl 0 rfl) ?_
  refine va_get (D := (dC, dI)) (ci := 2) (v := .int size) (C := RX2) (T := TX2) (N := 6) hx hb hww tqinX2 hown hK hP 0 rfl rfl 0 (by decide) (hww _ tqt_94) (fun _ h9 => h9) rfl dX2_next_4 ?_
  have hPc := hP.sub (ws' := []) [] rfl
  have hDc := hD.sub (ws' := []) [] (by decide) rfl
  have hKc := hK.sub (tys' := []) [] rfl
  have hFc := va_free (wc := []) hD hS hA [] rfl
  refine va_calli (va_runS (As := [.int (x + (1 : Int32)), .int size]) (rest := []) ⟨hx, hb, hml, hown, hww⟩ (c_f_patternOf l dC dI s.heap.size (x + (1 : Int32)) size (f_patternOf (x + (1 : Int32)) size) rfl) (va_cwS 2 hww (tq_gS tqt_262 tqt_138 tqt_32 tqt_139) rfl rfl rfl (by decide +kernel) ⟨Nat.le_of_ble_eq_true rfl, Nat.le_of_ble_eq_true rfl⟩) ⟨fun a U g mk q => by obtain ⟨q0, q1, qP, qK, qD, qN⟩ := q; exact ⟨q0, q1, qP, va_K.moved (u := U) (U := U.calling g mk a) (Vm.Alike.refl U.vm) qK, qD, tqN_same (u := U) (U := U.calling g mk a) rfl qN⟩, fun U hU hW => ⟨rfl, by rw [hU], by rw [hU]; exact hPc, va_K.moved hW.alike hKc, hDc.weaken (fun _ _ _ _ => trivial), tqN_warm hW hN⟩⟩ rfl rfl hl.1 rfl (lv_room (Nat.le_of_ble_eq_true rfl)) dX2_next_7 ⟨Nat.zero_le _, Nat.zero_le _⟩) hS (fun q _ h => hFc q h) hFc (fun ra u0 t H1 locs ht hvm hpost hB hz1 hk1 hS => ?_)
  have hpost : (f_patternOf (x + (1 : Int32)) size) = ra := (show ra = (f_patternOf (x + (1 : Int32)) size) from hpost).symm
  subst hpost
  obtain ⟨hP1, hK1, hD1⟩ := hB
  rw [ht] at hP1
  obtain ⟨hP, hD⟩ := va_join (wr := [(th, .inr (2, [.int size, .ref sa, .ref s2, .ref s3, .ref o0, .ref o1]))]) (w1 := []) hP hD [] [0] rfl rfl (by decide) (by decide) hk1 hFc hP1 hD1
  generalize H1 = H at hP hS ⊢
  have hP := hP.sub (ws' := [(th, .inr (2, [.int size, .ref sa, .ref s2, .ref s3, .ref o0, .ref o1]))]) [0] rfl
  have hD := hD.sub (ws' := [(th, .inr (2, [.int size, .ref sa, .ref s2, .ref s3, .ref o0, .ref o1]))]) [0] (by decide) rfl
  subst hf
  exact W.iret (v := f_patternOf (x + (1 : Int32)) size) hx hb hr (fun t ht hW => ⟨⟨f_patternOf (x + (1 : Int32)) size, (), rfl, rfl, by rw [ht]; exact hP, va_K.moved hW.alike hK, hD⟩, hS.F ht⟩) hS.2.2 dX2_next_10
set_option maxHeartbeats 4000000 in
set_option maxRecDepth 100000 in
theorem c_f_compare (l : Launch) (dC : Nat → ClassId) (dI : Nat → Nat → Nat) (th : Nat) (sa : Nat) (s2 : Nat) (s3 : Nat) (o0 : Nat) (o1 : Nat) (sz : Nat) (x : Int32) (y : Int32) (size : Int32) (r : Int32) (hf : f_compare size x y = r) : Met l yX2_compare tqw_X2_compare ({ frames := 1, cells := 0, slots := 0, locals := 21 }) (va_Pc [.ref th, .int x, .int y] (fun U => U.heap.size = sz ∧ va_P (dC, dI) tqCl [(th, .inr (2, [.int size, .ref sa, .ref s2, .ref s3, .ref o0, .ref o1]))] U.heap ∧ va_K (dC, dI) tqCl [] U ∧ va_D (fun _ => True) [(th, .inr (2, [.int size, .ref sa, .ref s2, .ref s3, .ref o0, .ref o1]))] ∧ tqN U)) (va_Qi (fun (a : Int32) (_ : Unit) => a = r) (fun (_ : Unit) (t : State) => va_P (dC, dI) tqCl [(th, .inr (2, [.int size, .ref sa, .ref s2, .ref s3, .ref o0, .ref o1]))] t.heap ∧ va_K (dC, dI) tqCl [] t ∧ va_D (va_A [(th, .inr (2, [.int size, .ref sa, .ref s2, .ref s3, .ref o0, .ref o1]))] sz) [(th, .inr (2, [.int size, .ref sa, .ref s2, .ref s3, .ref o0, .ref o1]))]) (va_A [(th, .inr (2, [.int size, .ref sa, .ref s2, .ref s3, .ref o0, .ref o1]))] sz)) 0 0 (va_A [(th, .inr (2, [.int size, .ref sa, .ref s2, .ref s3, .ref o0, .ref o1]))] sz) := by
  refine Met.ofW (cc := cX2_compare) (maxL := 5) (ret := (some .int)) (by decide) rfl ?_
  intro p e s m args below meth c s₁ B hml hv
  obtain ⟨rfl, hsz, hP, hK, hD0, hN⟩ := hv
  have hx := B.exec
  have hb := B.bytes
  have hr := B.returns
  have hts := atoms_spec (ws := tqw_X2_compare) B.pre
  have hww : ∀ w ∈ tqW, w.before _ s = true := fun w h => hts w (List.mem_cons_of_mem _ h)
  have hown : s.vm.findClass RX2 = some m.cls := findClass_of_methodNamed B.named
  have hlocks := B.notSynchronized
  subst hsz
  have hD := hD0.self (sz := s.heap.size)
  generalize hAe : va_A [(th, .inr (2, [.int size, .ref sa, .ref s2, .ref s3, .ref o0, .ref o1]))] s.heap.size = A at hD ⊢
  have hA : ∀ q : Nat, s.heap.size ≤ q → A q := fun q h => by rw [← hAe]; exact Or.inr h
  have hS : va_S A s.heap s.heap [] := va_S.rf
  have hP : va_P (dC, dI) tqCl [(th, .inr (2, [.int size, .ref sa, .ref s2, .ref s3, .ref o0, .ref o1]))] s.heap := hP
  have hl := lv_entry ([.ref th, .int x, .int y]) (n := 5) (Nat.le_of_ble_eq_true rfl)
  rw [lg_entry_eq]
  generalize (lg_sl ([.ref th, .int x, .int y]) ++ List.replicate (5 - (lg_sl ([.ref th, .int x, .int y])).length) Slot.unset).toArray = ls at hl ⊢
  have hl : lv_has ls 5 [(0, .ref th), (1, .int x), (2, .int y)] := hl
  unfold f_compare at hf
  refine lv_iload_n hx hb dX2_compare_0 rfl (lv_at hl 1 rfl) ?_
  refine lv_aload_n hx hb dX2_compare_1 rfl (lv_at hl 0 rfl) ?_
  refine va_get (D := (dC, dI)) (ci := 2) (v := .int size) (C := RX2) (T := TX2) (N := 6) hx hb hww tqinX2 hown hK hP 0 rfl rfl 0 (by decide) (hww _ tqt_94) (fun _ h9 => h9) rfl dX2_compare_2 ?_
  have hPc := hP.sub (ws' := []) [] rfl
  have hDc := hD.sub (ws' := []) [] (by decide) rfl
  have hKc := hK.sub (tys' := []) [] rfl
  have hFc := va_free (wc := []) hD hS hA [] rfl
  refine va_calli (va_runS (As := [.int x, .int size]) (rest := []) ⟨hx, hb, hml, hown, hww⟩ (c_f_patternOf l dC dI s.heap.size x size (f_patternOf x size) rfl) (va_cwS 2 hww (tq_gS tqt_262 tqt_138 tqt_32 tqt_139) rfl rfl rfl (by decide +kernel) ⟨Nat.le_of_ble_eq_true rfl, Nat.le_of_ble_eq_true rfl⟩) ⟨fun a U g mk q => by obtain ⟨q0, q1, qP, qK, qD, qN⟩ := q; exact ⟨q0, q1, qP, va_K.moved (u := U) (U := U.calling g mk a) (Vm.Alike.refl U.vm) qK, qD, tqN_same (u := U) (U := U.calling g mk a) rfl qN⟩, fun U hU hW => ⟨rfl, by rw [hU], by rw [hU]; exact hPc, va_K.moved hW.alike hKc, hDc.weaken (fun _ _ _ _ => trivial), tqN_warm hW hN⟩⟩ rfl rfl hl.1 rfl (lv_room (Nat.le_of_ble_eq_true rfl)) dX2_compare_5 ⟨Nat.zero_le _, Nat.zero_le _⟩) hS (fun q _ h => hFc q h) hFc (fun ra u0 t H1 locs ht hvm hpost hB hz1 hk1 hS => ?_)
  have hpost : (f_patternOf x size) = ra := (show ra = (f_patternOf x size) from hpost).symm
  subst hpost
  obtain ⟨hP1, hK1, hD1⟩ := hB
  rw [ht] at hP1
  obtain ⟨hP, hD⟩ := va_join (wr := [(th, .inr (2, [.int size, .ref sa, .ref s2, .ref s3, .ref o0, .ref o1]))]) (w1 := []) hP hD [] [0] rfl rfl (by decide) (by decide) hk1 hFc hP1 hD1
  generalize H1 = H at hP hS ⊢
  have hP := hP.sub (ws' := [(th, .inr (2, [.int size, .ref sa, .ref s2, .ref s3, .ref o0, .ref o1]))]) [0] rfl
  have hD := hD.sub (ws' := [(th, .inr (2, [.int size, .ref sa, .ref s2, .ref s3, .ref o0, .ref o1]))]) [0] (by decide) rfl
  refine lv_topi (fun x2 e2 => ?_)
  have hf := tq_nm_at e2 hf
  refine lv_istore_n (lv' := [(3, .int x2), (0, .ref th), (1, .int x), (2, .int y)]) hx hb dX2_compare_8 rfl hl (by decide) rfl (fun ls hl => ?_)
  refine lv_iload_n hx hb dX2_compare_9 rfl (lv_at hl 3 rfl) ?_
  refine lv_aload_n hx hb dX2_compare_10 rfl (lv_at hl 1 rfl) ?_
  refine va_get (D := (dC, dI)) (ci := 2) (v := .int size) (C := RX2) (T := TX2) (N := 6) hx hb hww tqinX2 hown hK hP 0 rfl rfl 0 (by decide) (hww _ tqt_94) (fun _ h9 => h9) rfl dX2_compare_11 ?_
  have hPc := hP.sub (ws' := []) [] rfl
  have hDc := hD.sub (ws' := []) [] (by decide) rfl
  have hKc := hK.sub (tys' := []) [] rfl
  have hFc := va_free (wc := []) hD hS hA [] rfl
  refine va_calli (va_runS (As := [.int y, .int size]) (rest := []) ⟨hx, hb, hml, hown, hww⟩ (c_f_patternOf l dC dI H.size y size (f_patternOf y size) rfl) (va_cwS 2 hww (tq_gS tqt_262 tqt_138 tqt_32 tqt_139) rfl rfl rfl (by decide +kernel) ⟨Nat.le_of_ble_eq_true rfl, Nat.le_of_ble_eq_true rfl⟩) ⟨fun a U g mk q => by obtain ⟨q0, q1, qP, qK, qD, qN⟩ := q; exact ⟨q0, q1, qP, va_K.moved (u := U) (U := U.calling g mk a) (Vm.Alike.refl U.vm) qK, qD, tqN_same (u := U) (U := U.calling g mk a) rfl qN⟩, fun U hU hW => ⟨rfl, by rw [hU], by rw [hU]; exact hPc, va_K.moved hW.alike hKc, hDc.weaken (fun _ _ _ _ => trivial), tqN_warm hW hN⟩⟩ rfl rfl hl.1 rfl (lv_room (Nat.le_of_ble_eq_true rfl)) dX2_compare_14 ⟨Nat.zero_le _, Nat.zero_le _⟩) hS (fun q _ h => hFc q h) hFc (fun ra u0 t H1 locs ht hvm hpost hB hz1 hk1 hS => ?_)
  have hpost : (f_patternOf y size) = ra := (show ra = (f_patternOf y size) from hpost).symm
  subst hpost
  obtain ⟨hP1, hK1, hD1⟩ := hB
  rw [ht] at hP1
  obtain ⟨hP, hD⟩ := va_join (wr := [(th, .inr (2, [.int size, .ref sa, .ref s2, .ref s3, .ref o0, .ref o1]))]) (w1 := []) hP hD [] [0] rfl rfl (by decide) (by decide) hk1 hFc hP1 hD1
  generalize H1 = H at hP hS ⊢
  have hP := hP.sub (ws' := [(th, .inr (2, [.int size, .ref sa, .ref s2, .ref s3, .ref o0, .ref o1]))]) [0] rfl
  have hD := hD.sub (ws' := [(th, .inr (2, [.int size, .ref sa, .ref s2, .ref s3, .ref o0, .ref o1]))]) [0] (by decide) rfl
  refine lv_topi (fun x4 e4 => ?_)
  have hf := tq_nm_at e4 hf
  refine lv_istore (lv' := [(4, .int x4), (3, .int x2), (0, .ref th), (1, .int x), (2, .int y)]) hx hb dX2_compare_17 hl (by decide) rfl (fun ls hl => ?_)
  refine lv_iload_n hx hb dX2_compare_19 rfl (lv_at hl 1 rfl) ?_
  refine lv_iload hx hb dX2_compare_20 (lv_at hl 0 rfl) ?_
  refine lv_icmp_ne hx hb dX2_compare_22 rfl (fun h5 => ?_) (fun h5 => ?_)
  · rw [if_pos h5] at hf
    refine lv_iload_n hx hb dX2_compare_27 rfl (lv_at hl 1 rfl) ?_
    refine lv_iload hx hb dX2_compare_28 (lv_at hl 0 rfl) ?_
    refine lv_icmp_ge hx hb dX2_compare_30 rfl (fun h6 => ?_) (fun h6 => ?_)
    · rw [if_pos h6] at hf
      refine lv_iconst (v := 1) hx hb dX2_compare_37 (by decide) ?_
      subst hf
      exact W.iret (v := (1 : Int32)) hx hb hr (fun t ht hW => ⟨⟨(1 : Int32), (), rfl, rfl, by rw [ht]; exact hP, va_K.moved hW.alike hK, hD⟩, hS.F ht⟩) hS.2.2 dX2_compare_38
    · rw [if_neg h6] at hf
      refine lv_iconst (v := -1) hx hb dX2_compare_33 (by decide) ?_
      refine lv_goto hx hb dX2_compare_34 rfl ?_
      subst hf
      exact W.iret (v := (-1 : Int32)) hx hb hr (fun t ht hW => ⟨⟨(-1 : Int32), (), rfl, rfl, by rw [ht]; exact hP, va_K.moved hW.alike hK, hD⟩, hS.F ht⟩) hS.2.2 dX2_compare_38
  · rw [if_neg (fun q : ¬ x2 = x4 => q h5)] at hf
    refine lv_iconst (v := 0) hx hb dX2_compare_25 (by decide) ?_
    subst hf
    exact W.iret (v := (0 : Int32)) hx hb hr (fun t ht hW => ⟨⟨(0 : Int32), (), rfl, rfl, by rw [ht]; exact hP, va_K.moved hW.alike hK, hD⟩, hS.F ht⟩) hS.2.2 dX2_compare_26
set_option maxHeartbeats 4000000 in
set_option maxRecDepth 100000 in
theorem c_f_fromLong (l : Launch) (dC : Nat → ClassId) (dI : Nat → Nat → Nat) (th : Nat) (sa : Nat) (s2 : Nat) (s3 : Nat) (o0 : Nat) (o1 : Nat) (sz : Nat) (v : Int64) (size : Int32) (r : Int32) (hf : f_fromLong size v = r) : Met l yX2_fromLong tqw_X2_fromLong ({ frames := 3, cells := 0, slots := 0, locals := 90 }) (va_Pc [.ref th, .long v] (fun U => U.heap.size = sz ∧ va_P (dC, dI) tqCl [(th, .inr (2, [.int size, .ref sa, .ref s2, .ref s3, .ref o0, .ref o1]))] U.heap ∧ va_K (dC, dI) tqCl [] U ∧ va_D (fun _ => True) [(th, .inr (2, [.int size, .ref sa, .ref s2, .ref s3, .ref o0, .ref o1]))] ∧ tqN U)) (va_Qi (fun (a : Int32) (_ : Unit) => a = r) (fun (_ : Unit) (t : State) => va_P (dC, dI) tqCl [(th, .inr (2, [.int size, .ref sa, .ref s2, .ref s3, .ref o0, .ref o1]))] t.heap ∧ va_K (dC, dI) tqCl [] t ∧ va_D (va_A [(th, .inr (2, [.int size, .ref sa, .ref s2, .ref s3, .ref o0, .ref o1]))] sz) [(th, .inr (2, [.int size, .ref sa, .ref s2, .ref s3, .ref o0, .ref o1]))]) (va_A [(th, .inr (2, [.int size, .ref sa, .ref s2, .ref s3, .ref o0, .ref o1]))] sz)) 0 0 (va_A [(th, .inr (2, [.int size, .ref sa, .ref s2, .ref s3, .ref o0, .ref o1]))] sz) := by
  refine Met.ofW (cc := cX2_fromLong) (maxL := 3) (ret := (some .int)) (by decide) rfl ?_
  intro p e s m args below meth c s₁ B hml hv
  obtain ⟨rfl, hsz, hP, hK, hD0, hN⟩ := hv
  have hx := B.exec
  have hb := B.bytes
  have hr := B.returns
  have hts := atoms_spec (ws := tqw_X2_fromLong) B.pre
  have hww : ∀ w ∈ tqW, w.before _ s = true := fun w h => hts w (List.mem_cons_of_mem _ h)
  have hown : s.vm.findClass RX2 = some m.cls := findClass_of_methodNamed B.named
  have hlocks := B.notSynchronized
  subst hsz
  have hD := hD0.self (sz := s.heap.size)
  generalize hAe : va_A [(th, .inr (2, [.int size, .ref sa, .ref s2, .ref s3, .ref o0, .ref o1]))] s.heap.size = A at hD ⊢
  have hA : ∀ q : Nat, s.heap.size ≤ q → A q := fun q h => by rw [← hAe]; exact Or.inr h
  have hS : va_S A s.heap s.heap [] := va_S.rf
  have hP : va_P (dC, dI) tqCl [(th, .inr (2, [.int size, .ref sa, .ref s2, .ref s3, .ref o0, .ref o1]))] s.heap := hP
  have hl := lv_entry ([.ref th, .long v]) (n := 3) (Nat.le_of_ble_eq_true rfl)
  rw [lg_entry_eq]
  generalize (lg_sl ([.ref th, .long v]) ++ List.replicate (3 - (lg_sl ([.ref th, .long v])).length) Slot.unset).toArray = ls at hl ⊢
  have hl : lv_has ls 3 [(0, .ref th), (1, .long v)] := hl
  have B31 : ∀ (ls : Array Slot) (H : Heap) (locs : List Loc) (t0 : Int32) (t1 : Int32), f_fromLong_b31 v t0 t1 = r → lv_has ls 3 [(1, .long v)] → va_P (dC, dI) tqCl [(th, .inr (2, [.int size, .ref sa, .ref s2, .ref s3, .ref o0, .ref o1]))] H → va_D A [(th, .inr (2, [.int size, .ref sa, .ref s2, .ref s3, .ref o0, .ref o1]))] → va_S A s.heap H locs → W p l e ({ frames := 3, cells := 0, slots := 0, locals := 90 }) s m ([.ref th, .long v] : List Value).toArray below meth c H locs 0 0 (MQ below (va_Qi (fun (a : Int32) (_ : Unit) => a = r) (fun (_ : Unit) (t : State) => va_P (dC, dI) tqCl [(th, .inr (2, [.int size, .ref sa, .ref s2, .ref s3, .ref o0, .ref o1]))] t.heap ∧ va_K (dC, dI) tqCl [] t ∧ va_D (A) [(th, .inr (2, [.int size, .ref sa, .ref s2, .ref s3, .ref o0, .ref o1]))]) (A)) ([.ref th, .long v] : List Value).toArray s 0 0 A) (F0 m 31 ls [.int t0, .int t1]) := by
    try clear hf
    intro ls H locs t0 t1 hf hl hP hD hS
    unfold f_fromLong_b31 at hf
    refine lv_lload_n hx hb dX2_fromLong_31 rfl (lv_at hl 0 rfl) ?_
    refine va_mabs_long hx hb (hml.trans hl.1.symm) hown (hww _ tqt_275) (hww _ tqt_276) (hww _ tqt_36) (hww _ tqt_277) (Nat.le_of_ble_eq_true rfl) (Nat.le_of_ble_eq_true rfl) (Nat.zero_le _) (Nat.zero_le _) dX2_fromLong_32 ?_
    refine lv_iconst (v := 0) hx hb dX2_fromLong_35 (by decide) ?_
    refine lv_iconst (v := 0) hx hb dX2_fromLong_36 (by decide) ?_
    have hPc := hP.sub (ws' := []) [] rfl
    have hDc := hD.sub (ws' := []) [] (by decide) rfl
    have hKc := hK.sub (tys' := []) [] rfl
    have hFc := va_free (wc := []) hD hS hA [] rfl
    refine va_calli (va_runS (As := [.int t1, .int t0, .long (if 0 < v then v else -v), .int (0 : Int32), .int (0 : Int32)]) (rest := []) ⟨hx, hb, hml, hown, hww⟩ (c_f_rounded l dC dI H.size t1 t0 (if 0 < v then v else -v) (0 : Int32) (0 : Int32) (f_rounded t1 t0 (if 0 < v then v else -v) (0 : Int32) (0 : Int32)) rfl) (va_cwS 5 hww (tq_gS tqt_247 tqt_248 tqt_32 tqt_249) rfl rfl rfl (by decide +kernel) ⟨Nat.le_of_ble_eq_true rfl, Nat.le_of_ble_eq_true rfl⟩) ⟨fun a U g mk q => by obtain ⟨q0, q1, qP, qK, qD, qN⟩ := q; exact ⟨q0, q1, qP, va_K.moved (u := U) (U := U.calling g mk a) (Vm.Alike.refl U.vm) qK, qD, tqN_same (u := U) (U := U.calling g mk a) rfl qN⟩, fun U hU hW => ⟨rfl, by rw [hU], by rw [hU]; exact hPc, va_K.moved hW.alike hKc, hDc.weaken (fun _ _ _ _ => trivial), tqN_warm hW hN⟩⟩ rfl rfl hl.1 rfl (lv_room (Nat.le_of_ble_eq_true rfl)) dX2_fromLong_37 ⟨Nat.zero_le _, Nat.zero_le _⟩) hS (fun q _ h => hFc q h) hFc (fun ra u0 t H1 locs ht hvm hpost hB hz1 hk1 hS => ?_)
    have hpost : (f_rounded t1 t0 (if 0 < v then v else -v) (0 : Int32) (0 : Int32)) = ra := (show ra = (f_rounded t1 t0 (if 0 < v then v else -v) (0 : Int32) (0 : Int32)) from hpost).symm
    subst hpost
    obtain ⟨hP1, hK1, hD1⟩ := hB
    rw [ht] at hP1
    obtain ⟨hP, hD⟩ := va_join (wr := [(th, .inr (2, [.int size, .ref sa, .ref s2, .ref s3, .ref o0, .ref o1]))]) (w1 := []) hP hD [] [0] rfl rfl (by decide) (by decide) hk1 hFc hP1 hD1
    generalize H1 = H at hP hS ⊢
    have hP := hP.sub (ws' := [(th, .inr (2, [.int size, .ref sa, .ref s2, .ref s3, .ref o0, .ref o1]))]) [0] rfl
    have hD := hD.sub (ws' := [(th, .inr (2, [.int size, .ref sa, .ref s2, .ref s3, .ref o0, .ref o1]))]) [0] (by decide) rfl
    subst hf
    exact W.iret (v := f_rounded t1 t0 (if 0 < v then v else -v) (0 : Int32) (0 : Int32)) hx hb hr (fun t ht hW => ⟨⟨f_rounded t1 t0 (if 0 < v then v else -v) (0 : Int32) (0 : Int32), (), rfl, rfl, by rw [ht]; exact hP, va_K.moved hW.alike hK, hD⟩, hS.F ht⟩) hS.2.2 dX2_fromLong_40
  unfold f_fromLong at hf
  refine lv_lload_n hx hb dX2_fromLong_0 rfl (lv_at hl 1 rfl) ?_
  refine lv_ldc2 (v := -9223372036854775808) hx hb hown (hww _ tqt_274) dX2_fromLong_1 ?_
  refine W.lcmp hx hb dX2_fromLong_4 ?_
  refine lv_if_ne hx hb dX2_fromLong_5 rfl (fun h1 => ?_) (fun h1 => ?_)
  · rw [if_pos h1] at hf
    refine lv_aload_n hx hb dX2_fromLong_16 rfl (lv_at hl 0 rfl) ?_
    refine va_get (D := (dC, dI)) (ci := 2) (v := .int size) (C := RX2) (T := TX2) (N := 6) hx hb hww tqinX2 hown hK hP 0 rfl rfl 0 (by decide) (hww _ tqt_94) (fun _ h9 => h9) rfl dX2_fromLong_17 ?_
    refine lv_lload_n hx hb dX2_fromLong_20 rfl (lv_at hl 1 rfl) ?_
    refine lv_lconst (v := 0) hx hb dX2_fromLong_21 (by decide) ?_
    refine W.lcmp hx hb dX2_fromLong_22 ?_
    refine lv_if_ge hx hb dX2_fromLong_23 rfl (fun h2 => ?_) (fun h2 => ?_)
    · rw [if_pos h2] at hf
      refine lv_iconst (v := 0) hx hb dX2_fromLong_30 (by decide) ?_
      exact B31 ls _ _ (0 : Int32) size hf (lv_sub hl [1] rfl) hP hD hS
    · rw [if_neg h2] at hf
      refine lv_iconst (v := 1) hx hb dX2_fromLong_26 (by decide) ?_
      refine lv_goto hx hb dX2_fromLong_27 rfl ?_
      exact B31 ls _ _ (1 : Int32) size hf (lv_sub hl [1] rfl) hP hD hS
  · rw [if_neg (fun q : ¬ (lg_cmp v (-9223372036854775808 : Int64)) = 0 => q h1)] at hf
    refine lv_aload_n hx hb dX2_fromLong_8 rfl (lv_at hl 0 rfl) ?_
    refine va_get (D := (dC, dI)) (ci := 2) (v := .int size) (C := RX2) (T := TX2) (N := 6) hx hb hww tqinX2 hown hK hP 0 rfl rfl 0 (by decide) (hww _ tqt_94) (fun _ h9 => h9) rfl dX2_fromLong_9 ?_
    have hPc := hP.sub (ws' := []) [] rfl
    have hDc := hD.sub (ws' := []) [] (by decide) rfl
    have hKc := hK.sub (tys' := []) [] rfl
    have hFc := va_free (wc := []) hD hS hA [] rfl
    refine va_calli (va_runS (As := [.int size]) (rest := []) ⟨hx, hb, hml, hown, hww⟩ (c_f_notOf l dC dI s.heap.size size (f_notOf size) rfl) (va_cwS 1 hww (tq_gS tqt_204 tqt_141 tqt_32 tqt_142) rfl rfl rfl (by decide +kernel) ⟨Nat.le_of_ble_eq_true rfl, Nat.le_of_ble_eq_true rfl⟩) ⟨fun a U g mk q => by obtain ⟨q0, q1, qP, qK, qD, qN⟩ := q; exact ⟨q0, q1, qP, va_K.moved (u := U) (U := U.calling g mk a) (Vm.Alike.refl U.vm) qK, qD, tqN_same (u := U) (U := U.calling g mk a) rfl qN⟩, fun U hU hW => ⟨rfl, by rw [hU], by rw [hU]; exact hPc, va_K.moved hW.alike hKc, hDc.weaken (fun _ _ _ _ => trivial), tqN_warm hW hN⟩⟩ rfl rfl hl.1 rfl (lv_room (Nat.le_of_ble_eq_true rfl)) dX2_fromLong_12 ⟨Nat.zero_le _, Nat.zero_le _⟩) hS (fun q _ h => hFc q h) hFc (fun ra u0 t H1 locs ht hvm hpost hB hz1 hk1 hS => ?_)
    have hpost : (f_notOf size) = ra := (show ra = (f_notOf size) from hpost).symm
    subst hpost
    obtain ⟨hP1, hK1, hD1⟩ := hB
    rw [ht] at hP1
    obtain ⟨hP, hD⟩ := va_join (wr := [(th, .inr (2, [.int size, .ref sa, .ref s2, .ref s3, .ref o0, .ref o1]))]) (w1 := []) hP hD [] [0] rfl rfl (by decide) (by decide) hk1 hFc hP1 hD1
    generalize H1 = H at hP hS ⊢
    have hP := hP.sub (ws' := [(th, .inr (2, [.int size, .ref sa, .ref s2, .ref s3, .ref o0, .ref o1]))]) [0] rfl
    have hD := hD.sub (ws' := [(th, .inr (2, [.int size, .ref sa, .ref s2, .ref s3, .ref o0, .ref o1]))]) [0] (by decide) rfl
    subst hf
    exact W.iret (v := f_notOf size) hx hb hr (fun t ht hW => ⟨⟨f_notOf size, (), rfl, rfl, by rw [ht]; exact hP, va_K.moved hW.alike hK, hD⟩, hS.F ht⟩) hS.2.2 dX2_fromLong_15
set_option maxHeartbeats 4000000 in
set_option maxRecDepth 100000 in
theorem c_f_whole (l : Launch) (dC : Nat → ClassId) (dI : Nat → Nat → Nat) (th : Nat) (sa : Nat) (s2 : Nat) (s3 : Nat) (o0 : Nat) (o1 : Nat) (sz : Nat) (x : Int32) (size : Int32) (nt0 : Int32) (ng0 : Int32) (mg0 : Int64) (ex0 : Int32) (r : Int32 × Int32 × Int32 × Int64 × Int32) (hf : f_whole size nt0 ng0 mg0 ex0 x = r) : Met l yX2_whole tqw_X2_whole ({ frames := 4, cells := 0, slots := 0, locals := 97 }) (va_Pc [.ref th, .int x] (fun U => U.heap.size = sz ∧ va_P (dC, dI) tqCl [(th, .inr (2, [.int size, .ref sa, .ref s2, .ref s3, .ref o0, .ref o1])), (o0, .inr (0, [.int nt0, .int ng0, .long mg0, .int ex0]))] U.heap ∧ va_K (dC, dI) tqCl [] U ∧ va_D (fun _ => True) [(th, .inr (2, [.int size, .ref sa, .ref s2, .ref s3, .ref o0, .ref o1])), (o0, .inr (0, [.int nt0, .int ng0, .long mg0, .int ex0]))] ∧ tqN U)) (va_Qi (fun (a : Int32) (_ : Unit) => a = r.1) (fun (_ : Unit) (t : State) => va_P (dC, dI) tqCl [(th, .inr (2, [.int size, .ref sa, .ref s2, .ref s3, .ref o0, .ref o1])), (o0, .inr (0, [.int r.2.1, .int r.2.2.1, .long r.2.2.2.1, .int r.2.2.2.2]))] t.heap ∧ va_K (dC, dI) tqCl [] t ∧ va_D (va_A [(th, .inr (2, [.int size, .ref sa, .ref s2, .ref s3, .ref o0, .ref o1])), (o0, .inr (0, [.int nt0, .int ng0, .long mg0, .int ex0]))] sz) [(th, .inr (2, [.int size, .ref sa, .ref s2, .ref s3, .ref o0, .ref o1])), (o0, .inr (0, [.int r.2.1, .int r.2.2.1, .long r.2.2.2.1, .int r.2.2.2.2]))]) (va_A [(th, .inr (2, [.int size, .ref sa, .ref s2, .ref s3, .ref o0, .ref o1])), (o0, .inr (0, [.int nt0, .int ng0, .long mg0, .int ex0]))] sz)) 0 0 (va_A [(th, .inr (2, [.int size, .ref sa, .ref s2, .ref s3, .ref o0, .ref o1])), (o0, .inr (0, [.int nt0, .int ng0, .long mg0, .int ex0]))] sz) := by
  refine Met.ofW (cc := cX2_whole) (maxL := 2) (ret := (some .int)) (by decide) rfl ?_
  intro p e s m args below meth c s₁ B hml hv
  obtain ⟨rfl, hsz, hP, hK, hD0, hN⟩ := hv
  have hx := B.exec
  have hb := B.bytes
  have hr := B.returns
  have hts := atoms_spec (ws := tqw_X2_whole) B.pre
  have hww : ∀ w ∈ tqW, w.before _ s = true := fun w h => hts w (List.mem_cons_of_mem _ h)
  have hown : s.vm.findClass RX2 = some m.cls := findClass_of_methodNamed B.named
  have hlocks := B.notSynchronized
  subst hsz
  have hD := hD0.self (sz := s.heap.size)
  generalize hAe : va_A [(th, .inr (2, [.int size, .ref sa, .ref s2, .ref s3, .ref o0, .ref o1])), (o0, .inr (0, [.int nt0, .int ng0, .long mg0, .int ex0]))] s.heap.size = A at hD ⊢
  have hA : ∀ q : Nat, s.heap.size ≤ q → A q := fun q h => by rw [← hAe]; exact Or.inr h
  have hS : va_S A s.heap s.heap [] := va_S.rf
  have hP : va_P (dC, dI) tqCl [(th, .inr (2, [.int size, .ref sa, .ref s2, .ref s3, .ref o0, .ref o1])), (o0, .inr (0, [.int nt0, .int ng0, .long mg0, .int ex0]))] s.heap := hP
  have hl := lv_entry ([.ref th, .int x]) (n := 2) (Nat.le_of_ble_eq_true rfl)
  rw [lg_entry_eq]
  generalize (lg_sl ([.ref th, .int x]) ++ List.replicate (2 - (lg_sl ([.ref th, .int x])).length) Slot.unset).toArray = ls at hl ⊢
  have hl : lv_has ls 2 [(0, .ref th), (1, .int x)] := hl
  have B32 : ∀ (ls : Array Slot) (H : Heap) (locs : List Loc) (nt0 : Int32) (ng0 : Int32) (mg0 : Int64) (ex0 : Int32), f_whole_b32 size x nt0 ng0 mg0 ex0 = r → lv_has ls 2 [(0, .ref th), (1, .int x)] → va_P (dC, dI) tqCl [(th, .inr (2, [.int size, .ref sa, .ref s2, .ref s3, .ref o0, .ref o1])), (o0, .inr (0, [.int nt0, .int ng0, .long mg0, .int ex0]))] H → va_D A [(th, .inr (2, [.int size, .ref sa, .ref s2, .ref s3, .ref o0, .ref o1])), (o0, .inr (0, [.int nt0, .int ng0, .long mg0, .int ex0]))] → va_S A s.heap H locs → W p l e ({ frames := 4, cells := 0, slots := 0, locals := 97 }) s m ([.ref th, .int x] : List Value).toArray below meth c H locs 0 0 (MQ below (va_Qi (fun (a : Int32) (_ : Unit) => a = r.1) (fun (_ : Unit) (t : State) => va_P (dC, dI) tqCl [(th, .inr (2, [.int size, .ref sa, .ref s2, .ref s3, .ref o0, .ref o1])), (o0, .inr (0, [.int r.2.1, .int r.2.2.1, .long r.2.2.2.1, .int r.2.2.2.2]))] t.heap ∧ va_K (dC, dI) tqCl [] t ∧ va_D (A) [(th, .inr (2, [.int size, .ref sa, .ref s2, .ref s3, .ref o0, .ref o1])), (o0, .inr (0, [.int r.2.1, .int r.2.2.1, .long r.2.2.2.1, .int r.2.2.2.2]))]) (A)) ([.ref th, .int x] : List Value).toArray s 0 0 A) (F0 m 32 ls []) := by
    try clear hf
    intro ls H locs nt0 ng0 mg0 ex0 hf hl hP hD hS
    unfold f_whole_b32 at hf
    refine lv_iload_n hx hb dX2_whole_32 rfl (lv_at hl 1 rfl) ?_
    refine lv_aload_n hx hb dX2_whole_33 rfl (lv_at hl 0 rfl) ?_
    refine va_get (D := (dC, dI)) (ci := 2) (v := .int size) (C := RX2) (T := TX2) (N := 6) hx hb hww tqinX2 hown hK hP 0 rfl rfl 0 (by decide) (hww _ tqt_94) (fun _ h9 => h9) rfl dX2_whole_34 ?_
    have hPc := hP.sub (ws' := []) [] rfl
    have hDc := hD.sub (ws' := []) [] (by decide) rfl
    have hKc := hK.sub (tys' := []) [] rfl
    have hFc := va_free (wc := []) hD hS hA [] rfl
    refine va_calli (va_runS (As := [.int x, .int size]) (rest := []) ⟨hx, hb, hml, hown, hww⟩ (c_f_patternOf l dC dI H.size x size (f_patternOf x size) rfl) (va_cwS 2 hww (tq_gS tqt_262 tqt_138 tqt_32 tqt_139) rfl rfl rfl (by decide +kernel) ⟨Nat.le_of_ble_eq_true rfl, Nat.le_of_ble_eq_true rfl⟩) ⟨fun a U g mk q => by obtain ⟨q0, q1, qP, qK, qD, qN⟩ := q; exact ⟨q0, q1, qP, va_K.moved (u := U) (U := U.calling g mk a) (Vm.Alike.refl U.vm) qK, qD, tqN_same (u := U) (U := U.calling g mk a) rfl qN⟩, fun U hU hW => ⟨rfl, by rw [hU], by rw [hU]; exact hPc, va_K.moved hW.alike hKc, hDc.weaken (fun _ _ _ _ => trivial), tqN_warm hW hN⟩⟩ rfl rfl hl.1 rfl (lv_room (Nat.le_of_ble_eq_true rfl)) dX2_whole_37 ⟨Nat.zero_le _, Nat.zero_le _⟩) hS (fun q _ h => hFc q h) hFc (fun ra u0 t H1 locs ht hvm hpost hB hz1 hk1 hS => ?_)
    have hpost : (f_patternOf x size) = ra := (show ra = (f_patternOf x size) from hpost).symm
    subst hpost
    obtain ⟨hP1, hK1, hD1⟩ := hB
    rw [ht] at hP1
    obtain ⟨hP, hD⟩ := va_join (wr := [(th, .inr (2, [.int size, .ref sa, .ref s2, .ref s3, .ref o0, .ref o1])), (o0, .inr (0, [.int nt0, .int ng0, .long mg0, .int ex0]))]) (w1 := []) hP hD [] [0, 1] rfl rfl (by decide) (by decide) hk1 hFc hP1 hD1
    generalize H1 = H at hP hS ⊢
    have hP := hP.sub (ws' := [(th, .inr (2, [.int size, .ref sa, .ref s2, .ref s3, .ref o0, .ref o1])), (o0, .inr (0, [.int nt0, .int ng0, .long mg0, .int ex0]))]) [0, 1] rfl
    have hD := hD.sub (ws' := [(th, .inr (2, [.int size, .ref sa, .ref s2, .ref s3, .ref o0, .ref o1])), (o0, .inr (0, [.int nt0, .int ng0, .long mg0, .int ex0]))]) [0, 1] (by decide) rfl
    subst hf
    exact W.iret (v := f_patternOf x size) hx hb hr (fun t ht hW => ⟨⟨f_patternOf x size, (), rfl, rfl, by rw [ht]; exact hP, va_K.moved hW.alike hK, hD⟩, hS.F ht⟩) hS.2.2 dX2_whole_40
  unfold f_whole at hf
  refine lv_aload_n hx hb dX2_whole_0 rfl (lv_at hl 0 rfl) ?_
  refine va_get (D := (dC, dI)) (ci := 2) (v := .ref o0) (C := RX2) (T := TX2) (N := 6) hx hb hww tqinX2 hown hK hP 0 rfl rfl 4 (by decide) (hww _ tqt_98) (fun _ h9 => h9) rfl dX2_whole_1 ?_
  refine lv_iload_n hx hb dX2_whole_4 rfl (lv_at hl 1 rfl) ?_
  refine lv_aload_n hx hb dX2_whole_5 rfl (lv_at hl 0 rfl) ?_
  refine va_get (D := (dC, dI)) (ci := 2) (v := .int size) (C := RX2) (T := TX2) (N := 6) hx hb hww tqinX2 hown hK hP 0 rfl rfl 0 (by decide) (hww _ tqt_94) (fun _ h9 => h9) rfl dX2_whole_6 ?_
  obtain ⟨u, hu⟩ : ∃ u, u = f_read nt0 ng0 mg0 ex0 x size := ⟨_, rfl⟩
  have hf := tq_nm_at hu hf
  obtain ⟨nt01, ng02, mg03, ex04⟩ := u
  have hf := tq_nm_at (z := nt01) rfl hf
  have hf := tq_nm_at (z := ng02) rfl hf
  have hf := tq_nm_at (z := mg03) rfl hf
  have hf := tq_nm_at (z := ex04) rfl hf
  have hPc := hP.sub (ws' := [(o0, .inr (0, [.int nt0, .int ng0, .long mg0, .int ex0]))]) [1] rfl
  have hDc := hD.sub (ws' := [(o0, .inr (0, [.int nt0, .int ng0, .long mg0, .int ex0]))]) [1] (by decide) rfl
  have hKc := hK.sub (tys' := []) [] rfl
  have hFc := va_free (wc := [(o0, .inr (0, [.int nt0, .int ng0, .long mg0, .int ex0]))]) hD hS hA [1] rfl
  refine va_callv (va_runV (As := [.int x, .int size]) (rest := []) ⟨hx, hb, hml, hown, hww⟩ (c_f_read l dC dI o0 s.heap.size x size nt0 ng0 mg0 ex0 (nt01, ng02, mg03, ex04) hu.symm) (cwV 2 hww (tq_gV tqt_133 tqt_134 tqt_135 tqt_34 tqt_136) rfl rfl rfl (by decide +kernel) ⟨Nat.le_of_ble_eq_true rfl, Nat.le_of_ble_eq_true rfl⟩) ⟨fun a U g mk q => by obtain ⟨q0, q1, qP, qK, qD, qN⟩ := q; exact ⟨q0, q1, qP, va_K.moved (u := U) (U := U.calling g mk a) (Vm.Alike.refl U.vm) qK, qD, tqN_same (u := U) (U := U.calling g mk a) rfl qN⟩, va_recv hK hP (ci := 0) rfl (q0 := 1) rfl, fun U hU hW => ⟨rfl, by rw [hU], by rw [hU]; exact hPc, va_K.moved hW.alike hKc, hDc.weaken (fun _ _ _ _ => trivial), tqN_warm hW hN⟩⟩ rfl rfl hl.1 rfl (lv_room (Nat.le_of_ble_eq_true rfl)) dX2_whole_9 ⟨Nat.zero_le _, Nat.zero_le _⟩) hS (fun q _ h => hFc q h) hFc (fun u0 t H1 locs ht hvm hpost hB hz1 hk1 hS => ?_)
  obtain ⟨hP1, hK1, hD1⟩ := hB
  rw [ht] at hP1
  obtain ⟨hP, hD⟩ := va_join (wr := [(th, .inr (2, [.int size, .ref sa, .ref s2, .ref s3, .ref o0, .ref o1]))]) (w1 := [(o0, .inr (0, [.int nt01, .int ng02, .long mg03, .int ex04]))]) hP hD [1] [0] rfl rfl (by decide) (by decide) hk1 hFc hP1 hD1
  generalize H1 = H at hP hS ⊢
  have hP := hP.sub (ws' := [(th, .inr (2, [.int size, .ref sa, .ref s2, .ref s3, .ref o0, .ref o1])), (o0, .inr (0, [.int nt01, .int ng02, .long mg03, .int ex04]))]) [0, 1] rfl
  have hD := hD.sub (ws' := [(th, .inr (2, [.int size, .ref sa, .ref s2, .ref s3, .ref o0, .ref o1])), (o0, .inr (0, [.int nt01, .int ng02, .long mg03, .int ex04]))]) [0, 1] (by decide) rfl
  refine lv_aload_n hx hb dX2_whole_12 rfl (lv_at hl 0 rfl) ?_
  refine va_get (D := (dC, dI)) (ci := 2) (v := .ref o0) (C := RX2) (T := TX2) (N := 6) hx hb hww tqinX2 hown hK hP 0 rfl rfl 4 (by decide) (hww _ tqt_98) (fun _ h9 => h9) rfl dX2_whole_13 ?_
  refine va_get (D := (dC, dI)) (ci := 0) (v := .int nt01) (C := RX0) (T := TX0) (N := 4) hx hb hww tqinX0 hown hK hP 1 rfl rfl 0 (by decide) (hww _ tqt_74) (fun _ h9 => h9) rfl dX2_whole_16 ?_
  refine lv_if_ne hx hb dX2_whole_19 rfl (fun h5 => ?_) (fun h5 => ?_)
  · rw [if_pos h5] at hf
    exact B32 ls _ _ nt01 ng02 mg03 ex04 hf (lv_sub hl [0, 1] rfl) hP hD hS
  · rw [if_neg (fun q : ¬ nt01 = 0 => q h5)] at hf
    refine lv_aload_n hx hb dX2_whole_22 rfl (lv_at hl 0 rfl) ?_
    refine va_get (D := (dC, dI)) (ci := 2) (v := .ref o0) (C := RX2) (T := TX2) (N := 6) hx hb hww tqinX2 hown hK hP 0 rfl rfl 4 (by decide) (hww _ tqt_98) (fun _ h9 => h9) rfl dX2_whole_23 ?_
    refine va_get (D := (dC, dI)) (ci := 0) (v := .int ex04) (C := RX0) (T := TX0) (N := 4) hx hb hww tqinX0 hown hK hP 1 rfl rfl 3 (by decide) (hww _ tqt_83) (fun _ h9 => h9) rfl dX2_whole_26 ?_
    refine lv_if_lt hx hb dX2_whole_29 rfl (fun h7 => ?_) (fun h7 => ?_)
    · rw [if_pos h7] at hf
      refine lv_aload_n hx hb dX2_whole_41 rfl (lv_at hl 0 rfl) ?_
      refine va_get (D := (dC, dI)) (ci := 2) (v := .int size) (C := RX2) (T := TX2) (N := 6) hx hb hww tqinX2 hown hK hP 0 rfl rfl 0 (by decide) (hww _ tqt_94) (fun _ h9 => h9) rfl dX2_whole_42 ?_
      refine lv_aload_n hx hb dX2_whole_45 rfl (lv_at hl 0 rfl) ?_
      refine va_get (D := (dC, dI)) (ci := 2) (v := .ref o0) (C := RX2) (T := TX2) (N := 6) hx hb hww tqinX2 hown hK hP 0 rfl rfl 4 (by decide) (hww _ tqt_98) (fun _ h9 => h9) rfl dX2_whole_46 ?_
      refine va_get (D := (dC, dI)) (ci := 0) (v := .int ng02) (C := RX0) (T := TX0) (N := 4) hx hb hww tqinX0 hown hK hP 1 rfl rfl 1 (by decide) (hww _ tqt_77) (fun _ h9 => h9) rfl dX2_whole_49 ?_
      refine lv_aload_n hx hb dX2_whole_52 rfl (lv_at hl 0 rfl) ?_
      refine va_get (D := (dC, dI)) (ci := 2) (v := .ref o0) (C := RX2) (T := TX2) (N := 6) hx hb hww tqinX2 hown hK hP 0 rfl rfl 4 (by decide) (hww _ tqt_98) (fun _ h9 => h9) rfl dX2_whole_53 ?_
      have hPc := hP.sub (ws' := [(o0, .inr (0, [.int nt01, .int ng02, .long mg03, .int ex04]))]) [1] rfl
      have hDc := hD.sub (ws' := [(o0, .inr (0, [.int nt01, .int ng02, .long mg03, .int ex04]))]) [1] (by decide) rfl
      have hKc := hK.sub (tys' := []) [] rfl
      have hFc := va_free (wc := [(o0, .inr (0, [.int nt01, .int ng02, .long mg03, .int ex04]))]) hD hS hA [1] rfl
      refine va_calll (va_runS (As := [.ref o0]) (rest := [.int ng02, .int size]) ⟨hx, hb, hml, hown, hww⟩ (c_f_nearestWhole l dC dI o0 H.size nt01 ng02 mg03 ex04 (f_nearestWhole nt01 ng02 mg03 ex04) rfl) (va_cwS 1 hww (tq_gS tqt_263 tqt_264 tqt_32 tqt_265) rfl rfl rfl (by decide +kernel) ⟨Nat.le_of_ble_eq_true rfl, Nat.le_of_ble_eq_true rfl⟩) ⟨fun a U g mk q => by obtain ⟨q0, q1, qP, qK, qD, qN⟩ := q; exact ⟨q0, q1, qP, va_K.moved (u := U) (U := U.calling g mk a) (Vm.Alike.refl U.vm) qK, qD, tqN_same (u := U) (U := U.calling g mk a) rfl qN⟩, fun U hU hW => ⟨rfl, by rw [hU], by rw [hU]; exact hPc, va_K.moved hW.alike hKc, hDc.weaken (fun _ _ _ _ => trivial), tqN_warm hW hN⟩⟩ rfl rfl hl.1 rfl (lv_room (Nat.le_of_ble_eq_true rfl)) dX2_whole_56 ⟨Nat.zero_le _, Nat.zero_le _⟩) hS (fun q _ h => hFc q h) hFc (fun ra u0 t H1 locs ht hvm hpost hB hz1 hk1 hS => ?_)
      have hpost : (f_nearestWhole nt01 ng02 mg03 ex04) = ra := (show ra = (f_nearestWhole nt01 ng02 mg03 ex04) from hpost).symm
      subst hpost
      obtain ⟨hP1, hK1, hD1⟩ := hB
      rw [ht] at hP1
      obtain ⟨hP, hD⟩ := va_join (wr := [(th, .inr (2, [.int size, .ref sa, .ref s2, .ref s3, .ref o0, .ref o1]))]) (w1 := [(o0, .inr (0, [.int nt01, .int ng02, .long mg03, .int ex04]))]) hP hD [1] [0] rfl rfl (by decide) (by decide) hk1 hFc hP1 hD1
      generalize H1 = H at hP hS ⊢
      have hP := hP.sub (ws' := [(th, .inr (2, [.int size, .ref sa, .ref s2, .ref s3, .ref o0, .ref o1])), (o0, .inr (0, [.int nt01, .int ng02, .long mg03, .int ex04]))]) [0, 1] rfl
      have hD := hD.sub (ws' := [(th, .inr (2, [.int size, .ref sa, .ref s2, .ref s3, .ref o0, .ref o1])), (o0, .inr (0, [.int nt01, .int ng02, .long mg03, .int ex04]))]) [0, 1] (by decide) rfl
      refine lv_iconst (v := 0) hx hb dX2_whole_59 (by decide) ?_
      refine lv_iconst (v := 0) hx hb dX2_whole_60 (by decide) ?_
      have hPc := hP.sub (ws' := []) [] rfl
      have hDc := hD.sub (ws' := []) [] (by decide) rfl
      have hKc := hK.sub (tys' := []) [] rfl
      have hFc := va_free (wc := []) hD hS hA [] rfl
      refine va_calli (va_runS (As := [.int size, .int ng02, .long (f_nearestWhole nt01 ng02 mg03 ex04), .int (0 : Int32), .int (0 : Int32)]) (rest := []) ⟨hx, hb, hml, hown, hww⟩ (c_f_rounded l dC dI H.size size ng02 (f_nearestWhole nt01 ng02 mg03 ex04) (0 : Int32) (0 : Int32) (f_rounded size ng02 (f_nearestWhole nt01 ng02 mg03 ex04) (0 : Int32) (0 : Int32)) rfl) (va_cwS 5 hww (tq_gS tqt_247 tqt_248 tqt_32 tqt_249) rfl rfl rfl (by decide +kernel) ⟨Nat.le_of_ble_eq_true rfl, Nat.le_of_ble_eq_true rfl⟩) ⟨fun a U g mk q => by obtain ⟨q0, q1, qP, qK, qD, qN⟩ := q; exact ⟨q0, q1, qP, va_K.moved (u := U) (U := U.calling g mk a) (Vm.Alike.refl U.vm) qK, qD, tqN_same (u := U) (U := U.calling g mk a) rfl qN⟩, fun U hU hW => ⟨rfl, by rw [hU], by rw [hU]; exact hPc, va_K.moved hW.alike hKc, hDc.weaken (fun _ _ _ _ => trivial), tqN_warm hW hN⟩⟩ rfl rfl hl.1 rfl (lv_room (Nat.le_of_ble_eq_true rfl)) dX2_whole_61 ⟨Nat.zero_le _, Nat.zero_le _⟩) hS (fun q _ h => hFc q h) hFc (fun ra u0 t H1 locs ht hvm hpost hB hz1 hk1 hS => ?_)
      have hpost : (f_rounded size ng02 (f_nearestWhole nt01 ng02 mg03 ex04) (0 : Int32) (0 : Int32)) = ra := (show ra = (f_rounded size ng02 (f_nearestWhole nt01 ng02 mg03 ex04) (0 : Int32) (0 : Int32)) from hpost).symm
      subst hpost
      obtain ⟨hP1, hK1, hD1⟩ := hB
      rw [ht] at hP1
      obtain ⟨hP, hD⟩ := va_join (wr := [(th, .inr (2, [.int size, .ref sa, .ref s2, .ref s3, .ref o0, .ref o1])), (o0, .inr (0, [.int nt01, .int ng02, .long mg03, .int ex04]))]) (w1 := []) hP hD [] [0, 1] rfl rfl (by decide) (by decide) hk1 hFc hP1 hD1
      generalize H1 = H at hP hS ⊢
      have hP := hP.sub (ws' := [(th, .inr (2, [.int size, .ref sa, .ref s2, .ref s3, .ref o0, .ref o1])), (o0, .inr (0, [.int nt01, .int ng02, .long mg03, .int ex04]))]) [0, 1] rfl
      have hD := hD.sub (ws' := [(th, .inr (2, [.int size, .ref sa, .ref s2, .ref s3, .ref o0, .ref o1])), (o0, .inr (0, [.int nt01, .int ng02, .long mg03, .int ex04]))]) [0, 1] (by decide) rfl
      subst hf
      exact W.iret (v := f_rounded size ng02 (f_nearestWhole nt01 ng02 mg03 ex04) (0 : Int32) (0 : Int32)) hx hb hr (fun t ht hW => ⟨⟨f_rounded size ng02 (f_nearestWhole nt01 ng02 mg03 ex04) (0 : Int32) (0 : Int32), (), rfl, rfl, by rw [ht]; exact hP, va_K.moved hW.alike hK, hD⟩, hS.F ht⟩) hS.2.2 dX2_whole_64
    · rw [if_neg h7] at hf
      exact B32 ls _ _ nt01 ng02 mg03 ex04 hf (lv_sub hl [0, 1] rfl) hP hD hS
set_option maxHeartbeats 4000000 in
set_option maxRecDepth 100000 in
theorem c_f_toLong (l : Launch) (dC : Nat → ClassId) (dI : Nat → Nat → Nat) (th : Nat) (sa : Nat) (s2 : Nat) (s3 : Nat) (o0 : Nat) (o1 : Nat) (sz : Nat) (x : Int32) (size : Int32) (nt0 : Int32) (ng0 : Int32) (mg0 : Int64) (ex0 : Int32) (r : Int64 × Int32 × Int32 × Int64 × Int32) (hf : f_toLong size nt0 ng0 mg0 ex0 x = r) : Met l yX2_toLong tqw_X2_toLong ({ frames := 4, cells := 0, slots := 0, locals := 97 }) (va_Pc [.ref th, .int x] (fun U => U.heap.size = sz ∧ va_P (dC, dI) tqCl [(th, .inr (2, [.int size, .ref sa, .ref s2, .ref s3, .ref o0, .ref o1])), (o0, .inr (0, [.int nt0, .int ng0, .long mg0, .int ex0]))] U.heap ∧ va_K (dC, dI) tqCl [] U ∧ va_D (fun _ => True) [(th, .inr (2, [.int size, .ref sa, .ref s2, .ref s3, .ref o0, .ref o1])), (o0, .inr (0, [.int nt0, .int ng0, .long mg0, .int ex0]))] ∧ tqN U)) (va_Ql (fun (a : Int64) (_ : Unit) => a = r.1) (fun (_ : Unit) (t : State) => va_P (dC, dI) tqCl [(th, .inr (2, [.int size, .ref sa, .ref s2, .ref s3, .ref o0, .ref o1])), (o0, .inr (0, [.int r.2.1, .int r.2.2.1, .long r.2.2.2.1, .int r.2.2.2.2]))] t.heap ∧ va_K (dC, dI) tqCl [] t ∧ va_D (va_A [(th, .inr (2, [.int size, .ref sa, .ref s2, .ref s3, .ref o0, .ref o1])), (o0, .inr (0, [.int nt0, .int ng0, .long mg0, .int ex0]))] sz) [(th, .inr (2, [.int size, .ref sa, .ref s2, .ref s3, .ref o0, .ref o1])), (o0, .inr (0, [.int r.2.1, .int r.2.2.1, .long r.2.2.2.1, .int r.2.2.2.2]))]) (va_A [(th, .inr (2, [.int size, .ref sa, .ref s2, .ref s3, .ref o0, .ref o1])), (o0, .inr (0, [.int nt0, .int ng0, .long mg0, .int ex0]))] sz)) 0 0 (va_A [(th, .inr (2, [.int size, .ref sa, .ref s2, .ref s3, .ref o0, .ref o1])), (o0, .inr (0, [.int nt0, .int ng0, .long mg0, .int ex0]))] sz) := by
  refine Met.ofW (cc := cX2_toLong) (maxL := 5) (ret := (some .long)) (by decide) rfl ?_
  intro p e s m args below meth c s₁ B hml hv
  obtain ⟨rfl, hsz, hP, hK, hD0, hN⟩ := hv
  have hx := B.exec
  have hb := B.bytes
  have hr := B.returns
  have hts := atoms_spec (ws := tqw_X2_toLong) B.pre
  have hww : ∀ w ∈ tqW, w.before _ s = true := fun w h => hts w (List.mem_cons_of_mem _ h)
  have hown : s.vm.findClass RX2 = some m.cls := findClass_of_methodNamed B.named
  have hlocks := B.notSynchronized
  subst hsz
  have hD := hD0.self (sz := s.heap.size)
  generalize hAe : va_A [(th, .inr (2, [.int size, .ref sa, .ref s2, .ref s3, .ref o0, .ref o1])), (o0, .inr (0, [.int nt0, .int ng0, .long mg0, .int ex0]))] s.heap.size = A at hD ⊢
  have hA : ∀ q : Nat, s.heap.size ≤ q → A q := fun q h => by rw [← hAe]; exact Or.inr h
  have hS : va_S A s.heap s.heap [] := va_S.rf
  have hP : va_P (dC, dI) tqCl [(th, .inr (2, [.int size, .ref sa, .ref s2, .ref s3, .ref o0, .ref o1])), (o0, .inr (0, [.int nt0, .int ng0, .long mg0, .int ex0]))] s.heap := hP
  have hl := lv_entry ([.ref th, .int x]) (n := 5) (Nat.le_of_ble_eq_true rfl)
  rw [lg_entry_eq]
  generalize (lg_sl ([.ref th, .int x]) ++ List.replicate (5 - (lg_sl ([.ref th, .int x])).length) Slot.unset).toArray = ls at hl ⊢
  have hl : lv_has ls 5 [(0, .ref th), (1, .int x)] := hl
  have B37 : ∀ (ls : Array Slot) (H : Heap) (locs : List Loc) (t0 : Int32) (nt0 : Int32) (ng0 : Int32) (mg0 : Int64) (ex0 : Int32), f_toLong_b37 t0 nt0 ng0 mg0 ex0 = r → lv_has ls 5 [(0, .ref th)] → va_P (dC, dI) tqCl [(th, .inr (2, [.int size, .ref sa, .ref s2, .ref s3, .ref o0, .ref o1])), (o0, .inr (0, [.int nt0, .int ng0, .long mg0, .int ex0]))] H → va_D A [(th, .inr (2, [.int size, .ref sa, .ref s2, .ref s3, .ref o0, .ref o1])), (o0, .inr (0, [.int nt0, .int ng0, .long mg0, .int ex0]))] → va_S A s.heap H locs → W p l e ({ frames := 4, cells := 0, slots := 0, locals := 97 }) s m ([.ref th, .int x] : List Value).toArray below meth c H locs 0 0 (MQ below (va_Ql (fun (a : Int64) (_ : Unit) => a = r.1) (fun (_ : Unit) (t : State) => va_P (dC, dI) tqCl [(th, .inr (2, [.int size, .ref sa, .ref s2, .ref s3, .ref o0, .ref o1])), (o0, .inr (0, [.int r.2.1, .int r.2.2.1, .long r.2.2.2.1, .int r.2.2.2.2]))] t.heap ∧ va_K (dC, dI) tqCl [] t ∧ va_D (A) [(th, .inr (2, [.int size, .ref sa, .ref s2, .ref s3, .ref o0, .ref o1])), (o0, .inr (0, [.int r.2.1, .int r.2.2.1, .long r.2.2.2.1, .int r.2.2.2.2]))]) (A)) ([.ref th, .int x] : List Value).toArray s 0 0 A) (F0 m 37 ls [.int t0]) := by
    try clear hf
    intro ls H locs t0 nt0 ng0 mg0 ex0 hf hl hP hD hS
    unfold f_toLong_b37 at hf
    refine lv_istore_n (lv' := [(2, .int t0), (0, .ref th)]) hx hb dX2_toLong_37 rfl hl (by decide) rfl (fun ls hl => ?_)
    refine lv_aload_n hx hb dX2_toLong_38 rfl (lv_at hl 1 rfl) ?_
    refine va_get (D := (dC, dI)) (ci := 2) (v := .ref o0) (C := RX2) (T := TX2) (N := 6) hx hb hww tqinX2 hown hK hP 0 rfl rfl 4 (by decide) (hww _ tqt_98) (fun _ h9 => h9) rfl dX2_toLong_39 ?_
    refine va_get (D := (dC, dI)) (ci := 0) (v := .int nt0) (C := RX0) (T := TX0) (N := 4) hx hb hww tqinX0 hown hK hP 1 rfl rfl 0 (by decide) (hww _ tqt_74) (fun _ h9 => h9) rfl dX2_toLong_42 ?_
    refine lv_if_ne hx hb dX2_toLong_45 rfl (fun h7 => ?_) (fun h7 => ?_)
    · rw [if_pos h7] at hf
      refine lv_ldc2 (v := -9223372036854775808) hx hb hown (hww _ tqt_274) dX2_toLong_52 ?_
      subst hf
      exact W.lret (v := (-9223372036854775808 : Int64)) hx hb hr (fun t ht hW => ⟨⟨(-9223372036854775808 : Int64), (), rfl, rfl, by rw [ht]; exact hP, va_K.moved hW.alike hK, hD⟩, hS.F ht⟩) hS.2.2 dX2_toLong_55
    · rw [if_neg (fun q : ¬ nt0 = 0 => q h7)] at hf
      refine lv_iload_n hx hb dX2_toLong_48 rfl (lv_at hl 0 rfl) ?_
      refine lv_if_eq hx hb dX2_toLong_49 rfl (fun h8 => ?_) (fun h8 => ?_)
      · rw [if_pos h8] at hf
        refine lv_aload_n hx hb dX2_toLong_56 rfl (lv_at hl 1 rfl) ?_
        refine va_get (D := (dC, dI)) (ci := 2) (v := .ref o0) (C := RX2) (T := TX2) (N := 6) hx hb hww tqinX2 hown hK hP 0 rfl rfl 4 (by decide) (hww _ tqt_98) (fun _ h9 => h9) rfl dX2_toLong_57 ?_
        have hPc := hP.sub (ws' := [(o0, .inr (0, [.int nt0, .int ng0, .long mg0, .int ex0]))]) [1] rfl
        have hDc := hD.sub (ws' := [(o0, .inr (0, [.int nt0, .int ng0, .long mg0, .int ex0]))]) [1] (by decide) rfl
        have hKc := hK.sub (tys' := []) [] rfl
        have hFc := va_free (wc := [(o0, .inr (0, [.int nt0, .int ng0, .long mg0, .int ex0]))]) hD hS hA [1] rfl
        refine va_calll (va_runS (As := [.ref o0]) (rest := []) ⟨hx, hb, hml, hown, hww⟩ (c_f_nearestWhole l dC dI o0 H.size nt0 ng0 mg0 ex0 (f_nearestWhole nt0 ng0 mg0 ex0) rfl) (va_cwS 1 hww (tq_gS tqt_263 tqt_264 tqt_32 tqt_265) rfl rfl rfl (by decide +kernel) ⟨Nat.le_of_ble_eq_true rfl, Nat.le_of_ble_eq_true rfl⟩) ⟨fun a U g mk q => by obtain ⟨q0, q1, qP, qK, qD, qN⟩ := q; exact ⟨q0, q1, qP, va_K.moved (u := U) (U := U.calling g mk a) (Vm.Alike.refl U.vm) qK, qD, tqN_same (u := U) (U := U.calling g mk a) rfl qN⟩, fun U hU hW => ⟨rfl, by rw [hU], by rw [hU]; exact hPc, va_K.moved hW.alike hKc, hDc.weaken (fun _ _ _ _ => trivial), tqN_warm hW hN⟩⟩ rfl rfl hl.1 rfl (lv_room (Nat.le_of_ble_eq_true rfl)) dX2_toLong_60 ⟨Nat.zero_le _, Nat.zero_le _⟩) hS (fun q _ h => hFc q h) hFc (fun ra u0 t H1 locs ht hvm hpost hB hz1 hk1 hS => ?_)
        have hpost : (f_nearestWhole nt0 ng0 mg0 ex0) = ra := (show ra = (f_nearestWhole nt0 ng0 mg0 ex0) from hpost).symm
        subst hpost
        obtain ⟨hP1, hK1, hD1⟩ := hB
        rw [ht] at hP1
        obtain ⟨hP, hD⟩ := va_join (wr := [(th, .inr (2, [.int size, .ref sa, .ref s2, .ref s3, .ref o0, .ref o1]))]) (w1 := [(o0, .inr (0, [.int nt0, .int ng0, .long mg0, .int ex0]))]) hP hD [1] [0] rfl rfl (by decide) (by decide) hk1 hFc hP1 hD1
        generalize H1 = H at hP hS ⊢
        have hP := hP.sub (ws' := [(th, .inr (2, [.int size, .ref sa, .ref s2, .ref s3, .ref o0, .ref o1])), (o0, .inr (0, [.int nt0, .int ng0, .long mg0, .int ex0]))]) [0, 1] rfl
        have hD := hD.sub (ws' := [(th, .inr (2, [.int size, .ref sa, .ref s2, .ref s3, .ref o0, .ref o1])), (o0, .inr (0, [.int nt0, .int ng0, .long mg0, .int ex0]))]) [0, 1] (by decide) rfl
        refine lv_topl (fun x10 e10 => ?_)
        have hf := tq_nm_at e10 hf
        refine lv_lstore_n (lv' := [(3, .long x10), (2, .int t0), (0, .ref th)]) hx hb dX2_toLong_63 rfl hl (by decide) rfl (fun ls hl => ?_)
        refine lv_aload_n hx hb dX2_toLong_64 rfl (lv_at hl 2 rfl) ?_
        refine va_get (D := (dC, dI)) (ci := 2) (v := .ref o0) (C := RX2) (T := TX2) (N := 6) hx hb hww tqinX2 hown hK hP 0 rfl rfl 4 (by decide) (hww _ tqt_98) (fun _ h9 => h9) rfl dX2_toLong_65 ?_
        refine va_get (D := (dC, dI)) (ci := 0) (v := .int ng0) (C := RX0) (T := TX0) (N := 4) hx hb hww tqinX0 hown hK hP 1 rfl rfl 1 (by decide) (hww _ tqt_77) (fun _ h9 => h9) rfl dX2_toLong_68 ?_
        refine lv_if_eq hx hb dX2_toLong_71 rfl (fun h11 => ?_) (fun h11 => ?_)
        · rw [if_pos h11] at hf
          refine lv_lload_n hx hb dX2_toLong_79 rfl (lv_at hl 0 rfl) ?_
          subst hf
          exact W.lret (v := x10) hx hb hr (fun t ht hW => ⟨⟨x10, (), rfl, rfl, by rw [ht]; exact hP, va_K.moved hW.alike hK, hD⟩, hS.F ht⟩) hS.2.2 dX2_toLong_80
        · rw [if_neg h11] at hf
          refine lv_lload_n hx hb dX2_toLong_74 rfl (lv_at hl 0 rfl) ?_
          refine lv_lneg hx hb dX2_toLong_75 ?_
          refine lv_goto hx hb dX2_toLong_76 rfl ?_
          subst hf
          exact W.lret (v := -x10) hx hb hr (fun t ht hW => ⟨⟨-x10, (), rfl, rfl, by rw [ht]; exact hP, va_K.moved hW.alike hK, hD⟩, hS.F ht⟩) hS.2.2 dX2_toLong_80
      · rw [if_neg h8] at hf
        refine lv_ldc2 (v := -9223372036854775808) hx hb hown (hww _ tqt_274) dX2_toLong_52 ?_
        subst hf
        exact W.lret (v := (-9223372036854775808 : Int64)) hx hb hr (fun t ht hW => ⟨⟨(-9223372036854775808 : Int64), (), rfl, rfl, by rw [ht]; exact hP, va_K.moved hW.alike hK, hD⟩, hS.F ht⟩) hS.2.2 dX2_toLong_55
  unfold f_toLong at hf
  refine lv_aload_n hx hb dX2_toLong_0 rfl (lv_at hl 0 rfl) ?_
  refine va_get (D := (dC, dI)) (ci := 2) (v := .ref o0) (C := RX2) (T := TX2) (N := 6) hx hb hww tqinX2 hown hK hP 0 rfl rfl 4 (by decide) (hww _ tqt_98) (fun _ h9 => h9) rfl dX2_toLong_1 ?_
  refine lv_iload_n hx hb dX2_toLong_4 rfl (lv_at hl 1 rfl) ?_
  refine lv_aload_n hx hb dX2_toLong_5 rfl (lv_at hl 0 rfl) ?_
  refine va_get (D := (dC, dI)) (ci := 2) (v := .int size) (C := RX2) (T := TX2) (N := 6) hx hb hww tqinX2 hown hK hP 0 rfl rfl 0 (by decide) (hww _ tqt_94) (fun _ h9 => h9) rfl dX2_toLong_6 ?_
  obtain ⟨u, hu⟩ : ∃ u, u = f_read nt0 ng0 mg0 ex0 x size := ⟨_, rfl⟩
  have hf := tq_nm_at hu hf
  obtain ⟨nt01, ng02, mg03, ex04⟩ := u
  have hf := tq_nm_at (z := nt01) rfl hf
  have hf := tq_nm_at (z := ng02) rfl hf
  have hf := tq_nm_at (z := mg03) rfl hf
  have hf := tq_nm_at (z := ex04) rfl hf
  have hPc := hP.sub (ws' := [(o0, .inr (0, [.int nt0, .int ng0, .long mg0, .int ex0]))]) [1] rfl
  have hDc := hD.sub (ws' := [(o0, .inr (0, [.int nt0, .int ng0, .long mg0, .int ex0]))]) [1] (by decide) rfl
  have hKc := hK.sub (tys' := []) [] rfl
  have hFc := va_free (wc := [(o0, .inr (0, [.int nt0, .int ng0, .long mg0, .int ex0]))]) hD hS hA [1] rfl
  refine va_callv (va_runV (As := [.int x, .int size]) (rest := []) ⟨hx, hb, hml, hown, hww⟩ (c_f_read l dC dI o0 s.heap.size x size nt0 ng0 mg0 ex0 (nt01, ng02, mg03, ex04) hu.symm) (cwV 2 hww (tq_gV tqt_133 tqt_134 tqt_135 tqt_34 tqt_136) rfl rfl rfl (by decide +kernel) ⟨Nat.le_of_ble_eq_true rfl, Nat.le_of_ble_eq_true rfl⟩) ⟨fun a U g mk q => by obtain ⟨q0, q1, qP, qK, qD, qN⟩ := q; exact ⟨q0, q1, qP, va_K.moved (u := U) (U := U.calling g mk a) (Vm.Alike.refl U.vm) qK, qD, tqN_same (u := U) (U := U.calling g mk a) rfl qN⟩, va_recv hK hP (ci := 0) rfl (q0 := 1) rfl, fun U hU hW => ⟨rfl, by rw [hU], by rw [hU]; exact hPc, va_K.moved hW.alike hKc, hDc.weaken (fun _ _ _ _ => trivial), tqN_warm hW hN⟩⟩ rfl rfl hl.1 rfl (lv_room (Nat.le_of_ble_eq_true rfl)) dX2_toLong_9 ⟨Nat.zero_le _, Nat.zero_le _⟩) hS (fun q _ h => hFc q h) hFc (fun u0 t H1 locs ht hvm hpost hB hz1 hk1 hS => ?_)
  obtain ⟨hP1, hK1, hD1⟩ := hB
  rw [ht] at hP1
  obtain ⟨hP, hD⟩ := va_join (wr := [(th, .inr (2, [.int size, .ref sa, .ref s2, .ref s3, .ref o0, .ref o1]))]) (w1 := [(o0, .inr (0, [.int nt01, .int ng02, .long mg03, .int ex04]))]) hP hD [1] [0] rfl rfl (by decide) (by decide) hk1 hFc hP1 hD1
  generalize H1 = H at hP hS ⊢
  have hP := hP.sub (ws' := [(th, .inr (2, [.int size, .ref sa, .ref s2, .ref s3, .ref o0, .ref o1])), (o0, .inr (0, [.int nt01, .int ng02, .long mg03, .int ex04]))]) [0, 1] rfl
  have hD := hD.sub (ws' := [(th, .inr (2, [.int size, .ref sa, .ref s2, .ref s3, .ref o0, .ref o1])), (o0, .inr (0, [.int nt01, .int ng02, .long mg03, .int ex04]))]) [0, 1] (by decide) rfl
  refine lv_aload_n hx hb dX2_toLong_12 rfl (lv_at hl 0 rfl) ?_
  refine va_get (D := (dC, dI)) (ci := 2) (v := .ref o0) (C := RX2) (T := TX2) (N := 6) hx hb hww tqinX2 hown hK hP 0 rfl rfl 4 (by decide) (hww _ tqt_98) (fun _ h9 => h9) rfl dX2_toLong_13 ?_
  refine va_get (D := (dC, dI)) (ci := 0) (v := .int ex04) (C := RX0) (T := TX0) (N := 4) hx hb hww tqinX0 hown hK hP 1 rfl rfl 3 (by decide) (hww _ tqt_83) (fun _ h9 => h9) rfl dX2_toLong_16 ?_
  refine lv_aload_n hx hb dX2_toLong_19 rfl (lv_at hl 0 rfl) ?_
  refine va_get (D := (dC, dI)) (ci := 2) (v := .ref o0) (C := RX2) (T := TX2) (N := 6) hx hb hww tqinX2 hown hK hP 0 rfl rfl 4 (by decide) (hww _ tqt_98) (fun _ h9 => h9) rfl dX2_toLong_20 ?_
  refine va_get (D := (dC, dI)) (ci := 0) (v := .long mg03) (C := RX0) (T := TX0) (N := 4) hx hb hww tqinX0 hown hK hP 1 rfl rfl 2 (by decide) (hww _ tqt_80) (fun _ h9 => h9) rfl dX2_toLong_23 ?_
  have hPc := hP.sub (ws' := []) [] rfl
  have hDc := hD.sub (ws' := []) [] (by decide) rfl
  have hKc := hK.sub (tys' := []) [] rfl
  have hFc := va_free (wc := []) hD hS hA [] rfl
  refine va_calli (va_runS (As := [.long mg03]) (rest := [.int ex04]) ⟨hx, hb, hml, hown, hww⟩ (c_f_lnlz l dC dI H.size mg03 (f_lnlz mg03) rfl) (va_cwS 1 hww (tq_gS tqt_246 tqt_219 tqt_38 tqt_220) rfl rfl rfl (by decide +kernel) ⟨Nat.le_of_ble_eq_true rfl, Nat.le_of_ble_eq_true rfl⟩) ⟨fun a U g mk q => by obtain ⟨q0, q1, qP, qK, qD, qN⟩ := q; exact ⟨q0, q1, qP, va_K.moved (u := U) (U := U.calling g mk a) (Vm.Alike.refl U.vm) qK, qD, tqN_same (u := U) (U := U.calling g mk a) rfl qN⟩, fun U hU hW => ⟨rfl, by rw [hU], by rw [hU]; exact hPc, va_K.moved hW.alike hKc, hDc.weaken (fun _ _ _ _ => trivial), tqN_warm hW hN⟩⟩ rfl rfl hl.1 rfl (lv_room (Nat.le_of_ble_eq_true rfl)) dX2_toLong_26 ⟨Nat.zero_le _, Nat.zero_le _⟩) hS (fun q _ h => hFc q h) hFc (fun ra u0 t H1 locs ht hvm hpost hB hz1 hk1 hS => ?_)
  have hpost : (f_lnlz mg03) = ra := (show ra = (f_lnlz mg03) from hpost).symm
  subst hpost
  obtain ⟨hP1, hK1, hD1⟩ := hB
  rw [ht] at hP1
  obtain ⟨hP, hD⟩ := va_join (wr := [(th, .inr (2, [.int size, .ref sa, .ref s2, .ref s3, .ref o0, .ref o1])), (o0, .inr (0, [.int nt01, .int ng02, .long mg03, .int ex04]))]) (w1 := []) hP hD [] [0, 1] rfl rfl (by decide) (by decide) hk1 hFc hP1 hD1
  generalize H1 = H at hP hS ⊢
  have hP := hP.sub (ws' := [(th, .inr (2, [.int size, .ref sa, .ref s2, .ref s3, .ref o0, .ref o1])), (o0, .inr (0, [.int nt01, .int ng02, .long mg03, .int ex04]))]) [0, 1] rfl
  have hD := hD.sub (ws' := [(th, .inr (2, [.int size, .ref sa, .ref s2, .ref s3, .ref o0, .ref o1])), (o0, .inr (0, [.int nt01, .int ng02, .long mg03, .int ex04]))]) [0, 1] (by decide) rfl
  refine lv_icmp_lt hx hb dX2_toLong_29 rfl (fun h6 => ?_) (fun h6 => ?_)
  · rw [if_pos h6] at hf
    refine lv_iconst (v := 0) hx hb dX2_toLong_36 (by decide) ?_
    exact B37 ls _ _ (0 : Int32) nt01 ng02 mg03 ex04 hf (lv_sub hl [0] rfl) hP hD hS
  · rw [if_neg h6] at hf
    refine lv_iconst (v := 1) hx hb dX2_toLong_32 (by decide) ?_
    refine lv_goto hx hb dX2_toLong_33 rfl ?_
    exact B37 ls _ _ (1 : Int32) nt01 ng02 mg03 ex04 hf (lv_sub hl [0] rfl) hP hD hS
set_option maxHeartbeats 4000000 in
set_option maxRecDepth 100000 in
theorem c_f_convert (l : Launch) (dC : Nat → ClassId) (dI : Nat → Nat → Nat) (th : Nat) (sa : Nat) (s2 : Nat) (s3 : Nat) (o0 : Nat) (o1 : Nat) (sz : Nat) (x : Int32) (width : Int32) (size : Int32) (nt0 : Int32) (ng0 : Int32) (mg0 : Int64) (ex0 : Int32) (r : Int32 × Int32 × Int32 × Int64 × Int32) (hf : f_convert size nt0 ng0 mg0 ex0 x width = r) : Met l yX2_convert tqw_X2_convert ({ frames := 4, cells := 0, slots := 0, locals := 97 }) (va_Pc [.ref th, .int x, .int width] (fun U => U.heap.size = sz ∧ va_P (dC, dI) tqCl [(th, .inr (2, [.int size, .ref sa, .ref s2, .ref s3, .ref o0, .ref o1])), (o0, .inr (0, [.int nt0, .int ng0, .long mg0, .int ex0]))] U.heap ∧ va_K (dC, dI) tqCl [] U ∧ va_D (fun _ => True) [(th, .inr (2, [.int size, .ref sa, .ref s2, .ref s3, .ref o0, .ref o1])), (o0, .inr (0, [.int nt0, .int ng0, .long mg0, .int ex0]))] ∧ tqN U)) (va_Qi (fun (a : Int32) (_ : Unit) => a = r.1) (fun (_ : Unit) (t : State) => va_P (dC, dI) tqCl [(th, .inr (2, [.int size, .ref sa, .ref s2, .ref s3, .ref o0, .ref o1])), (o0, .inr (0, [.int r.2.1, .int r.2.2.1, .long r.2.2.2.1, .int r.2.2.2.2]))] t.heap ∧ va_K (dC, dI) tqCl [] t ∧ va_D (va_A [(th, .inr (2, [.int size, .ref sa, .ref s2, .ref s3, .ref o0, .ref o1])), (o0, .inr (0, [.int nt0, .int ng0, .long mg0, .int ex0]))] sz) [(th, .inr (2, [.int size, .ref sa, .ref s2, .ref s3, .ref o0, .ref o1])), (o0, .inr (0, [.int r.2.1, .int r.2.2.1, .long r.2.2.2.1, .int r.2.2.2.2]))]) (va_A [(th, .inr (2, [.int size, .ref sa, .ref s2, .ref s3, .ref o0, .ref o1])), (o0, .inr (0, [.int nt0, .int ng0, .long mg0, .int ex0]))] sz)) 0 0 (va_A [(th, .inr (2, [.int size, .ref sa, .ref s2, .ref s3, .ref o0, .ref o1])), (o0, .inr (0, [.int nt0, .int ng0, .long mg0, .int ex0]))] sz) := by
  refine Met.ofW (cc := cX2_convert) (maxL := 4) (ret := (some .int)) (by decide) rfl ?_
  intro p e s m args below meth c s₁ B hml hv
  obtain ⟨rfl, hsz, hP, hK, hD0, hN⟩ := hv
  have hx := B.exec
  have hb := B.bytes
  have hr := B.returns
  have hts := atoms_spec (ws := tqw_X2_convert) B.pre
  have hww : ∀ w ∈ tqW, w.before _ s = true := fun w h => hts w (List.mem_cons_of_mem _ h)
  have hown : s.vm.findClass RX2 = some m.cls := findClass_of_methodNamed B.named
  have hlocks := B.notSynchronized
  subst hsz
  have hD := hD0.self (sz := s.heap.size)
  generalize hAe : va_A [(th, .inr (2, [.int size, .ref sa, .ref s2, .ref s3, .ref o0, .ref o1])), (o0, .inr (0, [.int nt0, .int ng0, .long mg0, .int ex0]))] s.heap.size = A at hD ⊢
  have hA : ∀ q : Nat, s.heap.size ≤ q → A q := fun q h => by rw [← hAe]; exact Or.inr h
  have hS : va_S A s.heap s.heap [] := va_S.rf
  have hP : va_P (dC, dI) tqCl [(th, .inr (2, [.int size, .ref sa, .ref s2, .ref s3, .ref o0, .ref o1])), (o0, .inr (0, [.int nt0, .int ng0, .long mg0, .int ex0]))] s.heap := hP
  have hl := lv_entry ([.ref th, .int x, .int width]) (n := 4) (Nat.le_of_ble_eq_true rfl)
  rw [lg_entry_eq]
  generalize (lg_sl ([.ref th, .int x, .int width]) ++ List.replicate (4 - (lg_sl ([.ref th, .int x, .int width])).length) Slot.unset).toArray = ls at hl ⊢
  have hl : lv_has ls 4 [(0, .ref th), (1, .int x), (2, .int width)] := hl
  unfold f_convert at hf
  refine lv_iload_n hx hb dX2_convert_0 rfl (lv_at hl 2 rfl) ?_
  have hPc := hP.sub (ws' := []) [] rfl
  have hDc := hD.sub (ws' := []) [] (by decide) rfl
  have hKc := hK.sub (tys' := []) [] rfl
  have hFc := va_free (wc := []) hD hS hA [] rfl
  refine va_calli (va_runS (As := [.int width]) (rest := []) ⟨hx, hb, hml, hown, hww⟩ (c_f_sizeOfWidth l dC dI s.heap.size width (f_sizeOfWidth width) rfl) (va_cwS 1 hww (tq_gS tqt_47 tqt_48 tqt_32 tqt_49) rfl rfl rfl (by decide +kernel) ⟨Nat.le_of_ble_eq_true rfl, Nat.le_of_ble_eq_true rfl⟩) ⟨fun a U g mk q => by obtain ⟨q0, q1, qP, qK, qD, qN⟩ := q; exact ⟨q0, q1, qP, va_K.moved (u := U) (U := U.calling g mk a) (Vm.Alike.refl U.vm) qK, qD, tqN_same (u := U) (U := U.calling g mk a) rfl qN⟩, fun U hU hW => ⟨rfl, by rw [hU], by rw [hU]; exact hPc, va_K.moved hW.alike hKc, hDc.weaken (fun _ _ _ _ => trivial), tqN_warm hW hN⟩⟩ rfl rfl hl.1 rfl (lv_room (Nat.le_of_ble_eq_true rfl)) dX2_convert_1 ⟨Nat.zero_le _, Nat.zero_le _⟩) hS (fun q _ h => hFc q h) hFc (fun ra u0 t H1 locs ht hvm hpost hB hz1 hk1 hS => ?_)
  have hpost : (f_sizeOfWidth width) = ra := (show ra = (f_sizeOfWidth width) from hpost).symm
  subst hpost
  obtain ⟨hP1, hK1, hD1⟩ := hB
  rw [ht] at hP1
  obtain ⟨hP, hD⟩ := va_join (wr := [(th, .inr (2, [.int size, .ref sa, .ref s2, .ref s3, .ref o0, .ref o1])), (o0, .inr (0, [.int nt0, .int ng0, .long mg0, .int ex0]))]) (w1 := []) hP hD [] [0, 1] rfl rfl (by decide) (by decide) hk1 hFc hP1 hD1
  generalize H1 = H at hP hS ⊢
  have hP := hP.sub (ws' := [(th, .inr (2, [.int size, .ref sa, .ref s2, .ref s3, .ref o0, .ref o1])), (o0, .inr (0, [.int nt0, .int ng0, .long mg0, .int ex0]))]) [0, 1] rfl
  have hD := hD.sub (ws' := [(th, .inr (2, [.int size, .ref sa, .ref s2, .ref s3, .ref o0, .ref o1])), (o0, .inr (0, [.int nt0, .int ng0, .long mg0, .int ex0]))]) [0, 1] (by decide) rfl
  refine lv_topi (fun x2 e2 => ?_)
  have hf := tq_nm_at e2 hf
  refine lv_istore_n (lv' := [(3, .int x2), (0, .ref th), (1, .int x), (2, .int width)]) hx hb dX2_convert_4 rfl hl (by decide) rfl (fun ls hl => ?_)
  refine lv_aload_n hx hb dX2_convert_5 rfl (lv_at hl 1 rfl) ?_
  refine va_get (D := (dC, dI)) (ci := 2) (v := .ref o0) (C := RX2) (T := TX2) (N := 6) hx hb hww tqinX2 hown hK hP 0 rfl rfl 4 (by decide) (hww _ tqt_98) (fun _ h9 => h9) rfl dX2_convert_6 ?_
  refine lv_iload_n hx hb dX2_convert_9 rfl (lv_at hl 2 rfl) ?_
  refine lv_aload_n hx hb dX2_convert_10 rfl (lv_at hl 1 rfl) ?_
  refine va_get (D := (dC, dI)) (ci := 2) (v := .int size) (C := RX2) (T := TX2) (N := 6) hx hb hww tqinX2 hown hK hP 0 rfl rfl 0 (by decide) (hww _ tqt_94) (fun _ h9 => h9) rfl dX2_convert_11 ?_
  obtain ⟨u, hu⟩ : ∃ u, u = f_read nt0 ng0 mg0 ex0 x size := ⟨_, rfl⟩
  have hf := tq_nm_at hu hf
  obtain ⟨nt03, ng04, mg05, ex06⟩ := u
  have hf := tq_nm_at (z := nt03) rfl hf
  have hf := tq_nm_at (z := ng04) rfl hf
  have hf := tq_nm_at (z := mg05) rfl hf
  have hf := tq_nm_at (z := ex06) rfl hf
  have hPc := hP.sub (ws' := [(o0, .inr (0, [.int nt0, .int ng0, .long mg0, .int ex0]))]) [1] rfl
  have hDc := hD.sub (ws' := [(o0, .inr (0, [.int nt0, .int ng0, .long mg0, .int ex0]))]) [1] (by decide) rfl
  have hKc := hK.sub (tys' := []) [] rfl
  have hFc := va_free (wc := [(o0, .inr (0, [.int nt0, .int ng0, .long mg0, .int ex0]))]) hD hS hA [1] rfl
  refine va_callv (va_runV (As := [.int x, .int size]) (rest := []) ⟨hx, hb, hml, hown, hww⟩ (c_f_read l dC dI o0 H.size x size nt0 ng0 mg0 ex0 (nt03, ng04, mg05, ex06) hu.symm) (cwV 2 hww (tq_gV tqt_133 tqt_134 tqt_135 tqt_34 tqt_136) rfl rfl rfl (by decide +kernel) ⟨Nat.le_of_ble_eq_true rfl, Nat.le_of_ble_eq_true rfl⟩) ⟨fun a U g mk q => by obtain ⟨q0, q1, qP, qK, qD, qN⟩ := q; exact ⟨q0, q1, qP, va_K.moved (u := U) (U := U.calling g mk a) (Vm.Alike.refl U.vm) qK, qD, tqN_same (u := U) (U := U.calling g mk a) rfl qN⟩, va_recv hK hP (ci := 0) rfl (q0 := 1) rfl, fun U hU hW => ⟨rfl, by rw [hU], by rw [hU]; exact hPc, va_K.moved hW.alike hKc, hDc.weaken (fun _ _ _ _ => trivial), tqN_warm hW hN⟩⟩ rfl rfl hl.1 rfl (lv_room (Nat.le_of_ble_eq_true rfl)) dX2_convert_14 ⟨Nat.zero_le _, Nat.zero_le _⟩) hS (fun q _ h => hFc q h) hFc (fun u0 t H1 locs ht hvm hpost hB hz1 hk1 hS => ?_)
  obtain ⟨hP1, hK1, hD1⟩ := hB
  rw [ht] at hP1
  obtain ⟨hP, hD⟩ := va_join (wr := [(th, .inr (2, [.int size, .ref sa, .ref s2, .ref s3, .ref o0, .ref o1]))]) (w1 := [(o0, .inr (0, [.int nt03, .int ng04, .long mg05, .int ex06]))]) hP hD [1] [0] rfl rfl (by decide) (by decide) hk1 hFc hP1 hD1
  generalize H1 = H at hP hS ⊢
  have hP := hP.sub (ws' := [(th, .inr (2, [.int size, .ref sa, .ref s2, .ref s3, .ref o0, .ref o1])), (o0, .inr (0, [.int nt03, .int ng04, .long mg05, .int ex06]))]) [0, 1] rfl
  have hD := hD.sub (ws' := [(th, .inr (2, [.int size, .ref sa, .ref s2, .ref s3, .ref o0, .ref o1])), (o0, .inr (0, [.int nt03, .int ng04, .long mg05, .int ex06]))]) [0, 1] (by decide) rfl
  refine lv_aload_n hx hb dX2_convert_17 rfl (lv_at hl 1 rfl) ?_
  refine va_get (D := (dC, dI)) (ci := 2) (v := .ref o0) (C := RX2) (T := TX2) (N := 6) hx hb hww tqinX2 hown hK hP 0 rfl rfl 4 (by decide) (hww _ tqt_98) (fun _ h9 => h9) rfl dX2_convert_18 ?_
  refine va_get (D := (dC, dI)) (ci := 0) (v := .int nt03) (C := RX0) (T := TX0) (N := 4) hx hb hww tqinX0 hown hK hP 1 rfl rfl 0 (by decide) (hww _ tqt_74) (fun _ h9 => h9) rfl dX2_convert_21 ?_
  refine lv_if_eq hx hb dX2_convert_24 rfl (fun h7 => ?_) (fun h7 => ?_)
  · rw [if_pos h7] at hf
    refine lv_iload_n hx hb dX2_convert_32 rfl (lv_at hl 0 rfl) ?_
    refine lv_aload_n hx hb dX2_convert_33 rfl (lv_at hl 1 rfl) ?_
    refine va_get (D := (dC, dI)) (ci := 2) (v := .ref o0) (C := RX2) (T := TX2) (N := 6) hx hb hww tqinX2 hown hK hP 0 rfl rfl 4 (by decide) (hww _ tqt_98) (fun _ h9 => h9) rfl dX2_convert_34 ?_
    refine va_get (D := (dC, dI)) (ci := 0) (v := .int ng04) (C := RX0) (T := TX0) (N := 4) hx hb hww tqinX0 hown hK hP 1 rfl rfl 1 (by decide) (hww _ tqt_77) (fun _ h9 => h9) rfl dX2_convert_37 ?_
    refine lv_aload_n hx hb dX2_convert_40 rfl (lv_at hl 1 rfl) ?_
    refine va_get (D := (dC, dI)) (ci := 2) (v := .ref o0) (C := RX2) (T := TX2) (N := 6) hx hb hww tqinX2 hown hK hP 0 rfl rfl 4 (by decide) (hww _ tqt_98) (fun _ h9 => h9) rfl dX2_convert_41 ?_
    refine va_get (D := (dC, dI)) (ci := 0) (v := .long mg05) (C := RX0) (T := TX0) (N := 4) hx hb hww tqinX0 hown hK hP 1 rfl rfl 2 (by decide) (hww _ tqt_80) (fun _ h9 => h9) rfl dX2_convert_44 ?_
    refine lv_aload_n hx hb dX2_convert_47 rfl (lv_at hl 1 rfl) ?_
    refine va_get (D := (dC, dI)) (ci := 2) (v := .ref o0) (C := RX2) (T := TX2) (N := 6) hx hb hww tqinX2 hown hK hP 0 rfl rfl 4 (by decide) (hww _ tqt_98) (fun _ h9 => h9) rfl dX2_convert_48 ?_
    refine va_get (D := (dC, dI)) (ci := 0) (v := .int ex06) (C := RX0) (T := TX0) (N := 4) hx hb hww tqinX0 hown hK hP 1 rfl rfl 3 (by decide) (hww _ tqt_83) (fun _ h9 => h9) rfl dX2_convert_51 ?_
    refine lv_iconst (v := 0) hx hb dX2_convert_54 (by decide) ?_
    have hPc := hP.sub (ws' := []) [] rfl
    have hDc := hD.sub (ws' := []) [] (by decide) rfl
    have hKc := hK.sub (tys' := []) [] rfl
    have hFc := va_free (wc := []) hD hS hA [] rfl
    refine va_calli (va_runS (As := [.int x2, .int ng04, .long mg05, .int ex06, .int (0 : Int32)]) (rest := []) ⟨hx, hb, hml, hown, hww⟩ (c_f_rounded l dC dI H.size x2 ng04 mg05 ex06 (0 : Int32) (f_rounded x2 ng04 mg05 ex06 (0 : Int32)) rfl) (va_cwS 5 hww (tq_gS tqt_247 tqt_248 tqt_32 tqt_249) rfl rfl rfl (by decide +kernel) ⟨Nat.le_of_ble_eq_true rfl, Nat.le_of_ble_eq_true rfl⟩) ⟨fun a U g mk q => by obtain ⟨q0, q1, qP, qK, qD, qN⟩ := q; exact ⟨q0, q1, qP, va_K.moved (u := U) (U := U.calling g mk a) (Vm.Alike.refl U.vm) qK, qD, tqN_same (u := U) (U := U.calling g mk a) rfl qN⟩, fun U hU hW => ⟨rfl, by rw [hU], by rw [hU]; exact hPc, va_K.moved hW.alike hKc, hDc.weaken (fun _ _ _ _ => trivial), tqN_warm hW hN⟩⟩ rfl rfl hl.1 rfl (lv_room (Nat.le_of_ble_eq_true rfl)) dX2_convert_55 ⟨Nat.zero_le _, Nat.zero_le _⟩) hS (fun q _ h => hFc q h) hFc (fun ra u0 t H1 locs ht hvm hpost hB hz1 hk1 hS => ?_)
    have hpost : (f_rounded x2 ng04 mg05 ex06 (0 : Int32)) = ra := (show ra = (f_rounded x2 ng04 mg05 ex06 (0 : Int32)) from hpost).symm
    subst hpost
    obtain ⟨hP1, hK1, hD1⟩ := hB
    rw [ht] at hP1
    obtain ⟨hP, hD⟩ := va_join (wr := [(th, .inr (2, [.int size, .ref sa, .ref s2, .ref s3, .ref o0, .ref o1])), (o0, .inr (0, [.int nt03, .int ng04, .long mg05, .int ex06]))]) (w1 := []) hP hD [] [0, 1] rfl rfl (by decide) (by decide) hk1 hFc hP1 hD1
    generalize H1 = H at hP hS ⊢
    have hP := hP.sub (ws' := [(th, .inr (2, [.int size, .ref sa, .ref s2, .ref s3, .ref o0, .ref o1])), (o0, .inr (0, [.int nt03, .int ng04, .long mg05, .int ex06]))]) [0, 1] rfl
    have hD := hD.sub (ws' := [(th, .inr (2, [.int size, .ref sa, .ref s2, .ref s3, .ref o0, .ref o1])), (o0, .inr (0, [.int nt03, .int ng04, .long mg05, .int ex06]))]) [0, 1] (by decide) rfl
    subst hf
    exact W.iret (v := f_rounded x2 ng04 mg05 ex06 (0 : Int32)) hx hb hr (fun t ht hW => ⟨⟨f_rounded x2 ng04 mg05 ex06 (0 : Int32), (), rfl, rfl, by rw [ht]; exact hP, va_K.moved hW.alike hK, hD⟩, hS.F ht⟩) hS.2.2 dX2_convert_58
  · rw [if_neg h7] at hf
    refine lv_iload_n hx hb dX2_convert_27 rfl (lv_at hl 0 rfl) ?_
    have hPc := hP.sub (ws' := []) [] rfl
    have hDc := hD.sub (ws' := []) [] (by decide) rfl
    have hKc := hK.sub (tys' := []) [] rfl
    have hFc := va_free (wc := []) hD hS hA [] rfl
    refine va_calli (va_runS (As := [.int x2]) (rest := []) ⟨hx, hb, hml, hown, hww⟩ (c_f_notOf l dC dI H.size x2 (f_notOf x2) rfl) (va_cwS 1 hww (tq_gS tqt_204 tqt_141 tqt_32 tqt_142) rfl rfl rfl (by decide +kernel) ⟨Nat.le_of_ble_eq_true rfl, Nat.le_of_ble_eq_true rfl⟩) ⟨fun a U g mk q => by obtain ⟨q0, q1, qP, qK, qD, qN⟩ := q; exact ⟨q0, q1, qP, va_K.moved (u := U) (U := U.calling g mk a) (Vm.Alike.refl U.vm) qK, qD, tqN_same (u := U) (U := U.calling g mk a) rfl qN⟩, fun U hU hW => ⟨rfl, by rw [hU], by rw [hU]; exact hPc, va_K.moved hW.alike hKc, hDc.weaken (fun _ _ _ _ => trivial), tqN_warm hW hN⟩⟩ rfl rfl hl.1 rfl (lv_room (Nat.le_of_ble_eq_true rfl)) dX2_convert_28 ⟨Nat.zero_le _, Nat.zero_le _⟩) hS (fun q _ h => hFc q h) hFc (fun ra u0 t H1 locs ht hvm hpost hB hz1 hk1 hS => ?_)
    have hpost : (f_notOf x2) = ra := (show ra = (f_notOf x2) from hpost).symm
    subst hpost
    obtain ⟨hP1, hK1, hD1⟩ := hB
    rw [ht] at hP1
    obtain ⟨hP, hD⟩ := va_join (wr := [(th, .inr (2, [.int size, .ref sa, .ref s2, .ref s3, .ref o0, .ref o1])), (o0, .inr (0, [.int nt03, .int ng04, .long mg05, .int ex06]))]) (w1 := []) hP hD [] [0, 1] rfl rfl (by decide) (by decide) hk1 hFc hP1 hD1
    generalize H1 = H at hP hS ⊢
    have hP := hP.sub (ws' := [(th, .inr (2, [.int size, .ref sa, .ref s2, .ref s3, .ref o0, .ref o1])), (o0, .inr (0, [.int nt03, .int ng04, .long mg05, .int ex06]))]) [0, 1] rfl
    have hD := hD.sub (ws' := [(th, .inr (2, [.int size, .ref sa, .ref s2, .ref s3, .ref o0, .ref o1])), (o0, .inr (0, [.int nt03, .int ng04, .long mg05, .int ex06]))]) [0, 1] (by decide) rfl
    subst hf
    exact W.iret (v := f_notOf x2) hx hb hr (fun t ht hW => ⟨⟨f_notOf x2, (), rfl, rfl, by rw [ht]; exact hP, va_K.moved hW.alike hK, hD⟩, hS.F ht⟩) hS.2.2 dX2_convert_31
set_option maxHeartbeats 4000000 in
set_option maxRecDepth 100000 in
theorem c_f_root (l : Launch) (dC : Nat → ClassId) (dI : Nat → Nat → Nat) (th : Nat) (sa : Nat) (s2 : Nat) (s3 : Nat) (o0 : Nat) (o1 : Nat) (sz : Nat) (x : Int32) (size : Int32) (nt0 : Int32) (ng0 : Int32) (mg0 : Int64) (ex0 : Int32) (r : Int32 × Int32 × Int32 × Int64 × Int32) (hf : f_root size nt0 ng0 mg0 ex0 x = some r) : Met l yX2_root tqw_X2_root ({ frames := 4, cells := 0, slots := 0, locals := 97 }) (va_Pc [.ref th, .int x] (fun U => U.heap.size = sz ∧ va_P (dC, dI) tqCl [(th, .inr (2, [.int size, .ref sa, .ref s2, .ref s3, .ref o0, .ref o1])), (o0, .inr (0, [.int nt0, .int ng0, .long mg0, .int ex0]))] U.heap ∧ va_K (dC, dI) tqCl [] U ∧ va_D (fun _ => True) [(th, .inr (2, [.int size, .ref sa, .ref s2, .ref s3, .ref o0, .ref o1])), (o0, .inr (0, [.int nt0, .int ng0, .long mg0, .int ex0]))] ∧ tqN U)) (va_Qi (fun (a : Int32) (_ : Unit) => a = r.1) (fun (_ : Unit) (t : State) => va_P (dC, dI) tqCl [(th, .inr (2, [.int size, .ref sa, .ref s2, .ref s3, .ref o0, .ref o1])), (o0, .inr (0, [.int r.2.1, .int r.2.2.1, .long r.2.2.2.1, .int r.2.2.2.2]))] t.heap ∧ va_K (dC, dI) tqCl [] t ∧ va_D (va_A [(th, .inr (2, [.int size, .ref sa, .ref s2, .ref s3, .ref o0, .ref o1])), (o0, .inr (0, [.int nt0, .int ng0, .long mg0, .int ex0]))] sz) [(th, .inr (2, [.int size, .ref sa, .ref s2, .ref s3, .ref o0, .ref o1])), (o0, .inr (0, [.int r.2.1, .int r.2.2.1, .long r.2.2.2.1, .int r.2.2.2.2]))]) (va_A [(th, .inr (2, [.int size, .ref sa, .ref s2, .ref s3, .ref o0, .ref o1])), (o0, .inr (0, [.int nt0, .int ng0, .long mg0, .int ex0]))] sz)) 0 0 (va_A [(th, .inr (2, [.int size, .ref sa, .ref s2, .ref s3, .ref o0, .ref o1])), (o0, .inr (0, [.int nt0, .int ng0, .long mg0, .int ex0]))] sz) := by
  refine Met.ofW (cc := cX2_root) (maxL := 8) (ret := (some .int)) (by decide) rfl ?_
  intro p e s m args below meth c s₁ B hml hv
  obtain ⟨rfl, hsz, hP, hK, hD0, hN⟩ := hv
  have hx := B.exec
  have hb := B.bytes
  have hr := B.returns
  have hts := atoms_spec (ws := tqw_X2_root) B.pre
  have hww : ∀ w ∈ tqW, w.before _ s = true := fun w h => hts w (List.mem_cons_of_mem _ h)
  have hown : s.vm.findClass RX2 = some m.cls := findClass_of_methodNamed B.named
  have hlocks := B.notSynchronized
  subst hsz
  have hD := hD0.self (sz := s.heap.size)
  generalize hAe : va_A [(th, .inr (2, [.int size, .ref sa, .ref s2, .ref s3, .ref o0, .ref o1])), (o0, .inr (0, [.int nt0, .int ng0, .long mg0, .int ex0]))] s.heap.size = A at hD ⊢
  have hA : ∀ q : Nat, s.heap.size ≤ q → A q := fun q h => by rw [← hAe]; exact Or.inr h
  have hS : va_S A s.heap s.heap [] := va_S.rf
  have hP : va_P (dC, dI) tqCl [(th, .inr (2, [.int size, .ref sa, .ref s2, .ref s3, .ref o0, .ref o1])), (o0, .inr (0, [.int nt0, .int ng0, .long mg0, .int ex0]))] s.heap := hP
  have hl := lv_entry ([.ref th, .int x]) (n := 8) (Nat.le_of_ble_eq_true rfl)
  rw [lg_entry_eq]
  generalize (lg_sl ([.ref th, .int x]) ++ List.replicate (8 - (lg_sl ([.ref th, .int x])).length) Slot.unset).toArray = ls at hl ⊢
  have hl : lv_has ls 8 [(0, .ref th), (1, .int x)] := hl
  have B32 : ∀ (ls : Array Slot) (H : Heap) (locs : List Loc) (nt0 : Int32) (ng0 : Int32) (mg0 : Int64) (ex0 : Int32), f_root_b32 size nt0 ng0 mg0 ex0 = some r → lv_has ls 8 [(0, .ref th)] → va_P (dC, dI) tqCl [(th, .inr (2, [.int size, .ref sa, .ref s2, .ref s3, .ref o0, .ref o1])), (o0, .inr (0, [.int nt0, .int ng0, .long mg0, .int ex0]))] H → va_D A [(th, .inr (2, [.int size, .ref sa, .ref s2, .ref s3, .ref o0, .ref o1])), (o0, .inr (0, [.int nt0, .int ng0, .long mg0, .int ex0]))] → va_S A s.heap H locs → W p l e ({ frames := 4, cells := 0, slots := 0, locals := 97 }) s m ([.ref th, .int x] : List Value).toArray below meth c H locs 0 0 (MQ below (va_Qi (fun (a : Int32) (_ : Unit) => a = r.1) (fun (_ : Unit) (t : State) => va_P (dC, dI) tqCl [(th, .inr (2, [.int size, .ref sa, .ref s2, .ref s3, .ref o0, .ref o1])), (o0, .inr (0, [.int r.2.1, .int r.2.2.1, .long r.2.2.2.1, .int r.2.2.2.2]))] t.heap ∧ va_K (dC, dI) tqCl [] t ∧ va_D (A) [(th, .inr (2, [.int size, .ref sa, .ref s2, .ref s3, .ref o0, .ref o1])), (o0, .inr (0, [.int r.2.1, .int r.2.2.1, .long r.2.2.2.1, .int r.2.2.2.2]))]) (A)) ([.ref th, .int x] : List Value).toArray s 0 0 A) (F0 m 32 ls []) := by
    try clear hf
    intro ls H locs nt0 ng0 mg0 ex0 hf hl hP hD hS
    unfold f_root_b32 at hf
    refine lv_aload_n hx hb dX2_root_32 rfl (lv_at hl 0 rfl) ?_
    refine va_get (D := (dC, dI)) (ci := 2) (v := .int size) (C := RX2) (T := TX2) (N := 6) hx hb hww tqinX2 hown hK hP 0 rfl rfl 0 (by decide) (hww _ tqt_94) (fun _ h9 => h9) rfl dX2_root_33 ?_
    have hPc := hP.sub (ws' := []) [] rfl
    have hDc := hD.sub (ws' := []) [] (by decide) rfl
    have hKc := hK.sub (tys' := []) [] rfl
    have hFc := va_free (wc := []) hD hS hA [] rfl
    refine va_calli (va_runS (As := [.int size]) (rest := []) ⟨hx, hb, hml, hown, hww⟩ (c_f_notOf l dC dI H.size size (f_notOf size) rfl) (va_cwS 1 hww (tq_gS tqt_204 tqt_141 tqt_32 tqt_142) rfl rfl rfl (by decide +kernel) ⟨Nat.le_of_ble_eq_true rfl, Nat.le_of_ble_eq_true rfl⟩) ⟨fun a U g mk q => by obtain ⟨q0, q1, qP, qK, qD, qN⟩ := q; exact ⟨q0, q1, qP, va_K.moved (u := U) (U := U.calling g mk a) (Vm.Alike.refl U.vm) qK, qD, tqN_same (u := U) (U := U.calling g mk a) rfl qN⟩, fun U hU hW => ⟨rfl, by rw [hU], by rw [hU]; exact hPc, va_K.moved hW.alike hKc, hDc.weaken (fun _ _ _ _ => trivial), tqN_warm hW hN⟩⟩ rfl rfl hl.1 rfl (lv_room (Nat.le_of_ble_eq_true rfl)) dX2_root_36 ⟨Nat.zero_le _, Nat.zero_le _⟩) hS (fun q _ h => hFc q h) hFc (fun ra u0 t H1 locs ht hvm hpost hB hz1 hk1 hS => ?_)
    have hpost : (f_notOf size) = ra := (show ra = (f_notOf size) from hpost).symm
    subst hpost
    obtain ⟨hP1, hK1, hD1⟩ := hB
    rw [ht] at hP1
    obtain ⟨hP, hD⟩ := va_join (wr := [(th, .inr (2, [.int size, .ref sa, .ref s2, .ref s3, .ref o0, .ref o1])), (o0, .inr (0, [.int nt0, .int ng0, .long mg0, .int ex0]))]) (w1 := []) hP hD [] [0, 1] rfl rfl (by decide) (by decide) hk1 hFc hP1 hD1
    generalize H1 = H at hP hS ⊢
    have hP := hP.sub (ws' := [(th, .inr (2, [.int size, .ref sa, .ref s2, .ref s3, .ref o0, .ref o1])), (o0, .inr (0, [.int nt0, .int ng0, .long mg0, .int ex0]))]) [0, 1] rfl
    have hD := hD.sub (ws' := [(th, .inr (2, [.int size, .ref sa, .ref s2, .ref s3, .ref o0, .ref o1])), (o0, .inr (0, [.int nt0, .int ng0, .long mg0, .int ex0]))]) [0, 1] (by decide) rfl
    have hf := Option.some.inj hf
    subst hf
    exact W.iret (v := f_notOf size) hx hb hr (fun t ht hW => ⟨⟨f_notOf size, (), rfl, rfl, by rw [ht]; exact hP, va_K.moved hW.alike hK, hD⟩, hS.F ht⟩) hS.2.2 dX2_root_39
  have B115 : ∀ (ls : Array Slot) (H : Heap) (locs : List Loc) (v2 : Int32) (v5 : Int64) (t0 : Int32) (nt0 : Int32) (ng0 : Int32) (mg0 : Int64) (ex0 : Int32), f_root_b115 size v2 v5 t0 nt0 ng0 mg0 ex0 = some r → lv_has ls 8 [(0, .ref th), (2, .int v2), (5, .long v5)] → va_P (dC, dI) tqCl [(th, .inr (2, [.int size, .ref sa, .ref s2, .ref s3, .ref o0, .ref o1])), (o0, .inr (0, [.int nt0, .int ng0, .long mg0, .int ex0]))] H → va_D A [(th, .inr (2, [.int size, .ref sa, .ref s2, .ref s3, .ref o0, .ref o1])), (o0, .inr (0, [.int nt0, .int ng0, .long mg0, .int ex0]))] → va_S A s.heap H locs → W p l e ({ frames := 4, cells := 0, slots := 0, locals := 97 }) s m ([.ref th, .int x] : List Value).toArray below meth c H locs 0 0 (MQ below (va_Qi (fun (a : Int32) (_ : Unit) => a = r.1) (fun (_ : Unit) (t : State) => va_P (dC, dI) tqCl [(th, .inr (2, [.int size, .ref sa, .ref s2, .ref s3, .ref o0, .ref o1])), (o0, .inr (0, [.int r.2.1, .int r.2.2.1, .long r.2.2.2.1, .int r.2.2.2.2]))] t.heap ∧ va_K (dC, dI) tqCl [] t ∧ va_D (A) [(th, .inr (2, [.int size, .ref sa, .ref s2, .ref s3, .ref o0, .ref o1])), (o0, .inr (0, [.int r.2.1, .int r.2.2.1, .long r.2.2.2.1, .int r.2.2.2.2]))]) (A)) ([.ref th, .int x] : List Value).toArray s 0 0 A) (F0 m 115 ls [.int t0]) := by
    try clear hf
    intro ls H locs v2 v5 t0 nt0 ng0 mg0 ex0 hf hl hP hD hS
    unfold f_root_b115 at hf
    refine lv_istore (lv' := [(7, .int t0), (0, .ref th), (2, .int v2), (5, .long v5)]) hx hb dX2_root_115 hl (by decide) rfl (fun ls hl => ?_)
    refine lv_aload_n hx hb dX2_root_117 rfl (lv_at hl 1 rfl) ?_
    refine va_get (D := (dC, dI)) (ci := 2) (v := .int size) (C := RX2) (T := TX2) (N := 6) hx hb hww tqinX2 hown hK hP 0 rfl rfl 0 (by decide) (hww _ tqt_94) (fun _ h9 => h9) rfl dX2_root_118 ?_
    refine lv_iconst (v := 0) hx hb dX2_root_121 (by decide) ?_
    refine lv_lload hx hb dX2_root_122 (lv_at hl 3 rfl) ?_
    refine lv_aload_n hx hb dX2_root_124 rfl (lv_at hl 1 rfl) ?_
    refine va_get (D := (dC, dI)) (ci := 2) (v := .ref o0) (C := RX2) (T := TX2) (N := 6) hx hb hww tqinX2 hown hK hP 0 rfl rfl 4 (by decide) (hww _ tqt_98) (fun _ h9 => h9) rfl dX2_root_125 ?_
    refine va_get (D := (dC, dI)) (ci := 0) (v := .int ex0) (C := RX0) (T := TX0) (N := 4) hx hb hww tqinX0 hown hK hP 1 rfl rfl 3 (by decide) (hww _ tqt_83) (fun _ h9 => h9) rfl dX2_root_128 ?_
    refine lv_iload_n hx hb dX2_root_131 rfl (lv_at hl 2 rfl) ?_
    refine lv_isub hx hb dX2_root_132 ?_
    refine lv_iconst (v := 1) hx hb dX2_root_133 (by decide) ?_
    refine lv_ishr hx hb dX2_root_134 ?_
    refine lv_iload hx hb dX2_root_135 (lv_at hl 0 rfl) ?_
    have hPc := hP.sub (ws' := []) [] rfl
    have hDc := hD.sub (ws' := []) [] (by decide) rfl
    have hKc := hK.sub (tys' := []) [] rfl
    have hFc := va_free (wc := []) hD hS hA [] rfl
    refine va_calli (va_runS (As := [.int size, .int (0 : Int32), .long v5, .int ((ex0 - v2) >>> ((1 : Int32) &&& 31)), .int t0]) (rest := []) ⟨hx, hb, hml, hown, hww⟩ (c_f_rounded l dC dI H.size size (0 : Int32) v5 ((ex0 - v2) >>> ((1 : Int32) &&& 31)) t0 (f_rounded size (0 : Int32) v5 ((ex0 - v2) >>> ((1 : Int32) &&& 31)) t0) rfl) (va_cwS 5 hww (tq_gS tqt_247 tqt_248 tqt_32 tqt_249) rfl rfl rfl (by decide +kernel) ⟨Nat.le_of_ble_eq_true rfl, Nat.le_of_ble_eq_true rfl⟩) ⟨fun a U g mk q => by obtain ⟨q0, q1, qP, qK, qD, qN⟩ := q; exact ⟨q0, q1, qP, va_K.moved (u := U) (U := U.calling g mk a) (Vm.Alike.refl U.vm) qK, qD, tqN_same (u := U) (U := U.calling g mk a) rfl qN⟩, fun U hU hW => ⟨rfl, by rw [hU], by rw [hU]; exact hPc, va_K.moved hW.alike hKc, hDc.weaken (fun _ _ _ _ => trivial), tqN_warm hW hN⟩⟩ rfl rfl hl.1 rfl (lv_room (Nat.le_of_ble_eq_true rfl)) dX2_root_137 ⟨Nat.zero_le _, Nat.zero_le _⟩) hS (fun q _ h => hFc q h) hFc (fun ra u0 t H1 locs ht hvm hpost hB hz1 hk1 hS => ?_)
    have hpost : (f_rounded size (0 : Int32) v5 ((ex0 - v2) >>> ((1 : Int32) &&& 31)) t0) = ra := (show ra = (f_rounded size (0 : Int32) v5 ((ex0 - v2) >>> ((1 : Int32) &&& 31)) t0) from hpost).symm
    subst hpost
    obtain ⟨hP1, hK1, hD1⟩ := hB
    rw [ht] at hP1
    obtain ⟨hP, hD⟩ := va_join (wr := [(th, .inr (2, [.int size, .ref sa, .ref s2, .ref s3, .ref o0, .ref o1])), (o0, .inr (0, [.int nt0, .int ng0, .long mg0, .int ex0]))]) (w1 := []) hP hD [] [0, 1] rfl rfl (by decide) (by decide) hk1 hFc hP1 hD1
    generalize H1 = H at hP hS ⊢
    have hP := hP.sub (ws' := [(th, .inr (2, [.int size, .ref sa, .ref s2, .ref s3, .ref o0, .ref o1])), (o0, .inr (0, [.int nt0, .int ng0, .long mg0, .int ex0]))]) [0, 1] rfl
    have hD := hD.sub (ws' := [(th, .inr (2, [.int size, .ref sa, .ref s2, .ref s3, .ref o0, .ref o1])), (o0, .inr (0, [.int nt0, .int ng0, .long mg0, .int ex0]))]) [0, 1] (by decide) rfl
    have hf := Option.some.inj hf
    subst hf
    exact W.iret (v := f_rounded size (0 : Int32) v5 ((ex0 - v2) >>> ((1 : Int32) &&& 31)) t0) hx hb hr (fun t ht hW => ⟨⟨f_rounded size (0 : Int32) v5 ((ex0 - v2) >>> ((1 : Int32) &&& 31)) t0, (), rfl, rfl, by rw [ht]; exact hP, va_K.moved hW.alike hK, hD⟩, hS.F ht⟩) hS.2.2 dX2_root_140
  have B84 : ∀ (ls : Array Slot) (H : Heap) (locs : List Loc) (v2 : Int32) (nt0 : Int32) (ng0 : Int32) (mg0 : Int64) (ex0 : Int32), f_root_b84 size v2 nt0 ng0 mg0 ex0 = some r → lv_has ls 8 [(0, .ref th), (2, .int v2)] → va_P (dC, dI) tqCl [(th, .inr (2, [.int size, .ref sa, .ref s2, .ref s3, .ref o0, .ref o1])), (o0, .inr (0, [.int nt0, .int ng0, .long mg0, .int ex0]))] H → va_D A [(th, .inr (2, [.int size, .ref sa, .ref s2, .ref s3, .ref o0, .ref o1])), (o0, .inr (0, [.int nt0, .int ng0, .long mg0, .int ex0]))] → va_S A s.heap H locs → W p l e ({ frames := 4, cells := 0, slots := 0, locals := 97 }) s m ([.ref th, .int x] : List Value).toArray below meth c H locs 0 0 (MQ below (va_Qi (fun (a : Int32) (_ : Unit) => a = r.1) (fun (_ : Unit) (t : State) => va_P (dC, dI) tqCl [(th, .inr (2, [.int size, .ref sa, .ref s2, .ref s3, .ref o0, .ref o1])), (o0, .inr (0, [.int r.2.1, .int r.2.2.1, .long r.2.2.2.1, .int r.2.2.2.2]))] t.heap ∧ va_K (dC, dI) tqCl [] t ∧ va_D (A) [(th, .inr (2, [.int size, .ref sa, .ref s2, .ref s3, .ref o0, .ref o1])), (o0, .inr (0, [.int r.2.1, .int r.2.2.1, .long r.2.2.2.1, .int r.2.2.2.2]))]) (A)) ([.ref th, .int x] : List Value).toArray s 0 0 A) (F0 m 84 ls []) := by
    try clear hf
    intro ls H locs v2 nt0 ng0 mg0 ex0 hf hl hP hD hS
    unfold f_root_b84 at hf
    refine lv_aload_n hx hb dX2_root_84 rfl (lv_at hl 0 rfl) ?_
    refine va_get (D := (dC, dI)) (ci := 2) (v := .ref o0) (C := RX2) (T := TX2) (N := 6) hx hb hww tqinX2 hown hK hP 0 rfl rfl 4 (by decide) (hww _ tqt_98) (fun _ h9 => h9) rfl dX2_root_85 ?_
    refine va_get (D := (dC, dI)) (ci := 0) (v := .long mg0) (C := RX0) (T := TX0) (N := 4) hx hb hww tqinX0 hown hK hP 1 rfl rfl 2 (by decide) (hww _ tqt_80) (fun _ h9 => h9) rfl dX2_root_88 ?_
    refine lv_iload_n hx hb dX2_root_91 rfl (lv_at hl 1 rfl) ?_
    refine lv_lshl hx hb dX2_root_92 rfl ?_
    refine lv_topl (fun x12 e12 => ?_)
    have hf := tq_nm_at e12 hf
    refine lv_lstore_n (lv' := [(3, .long x12), (0, .ref th), (2, .int v2)]) hx hb dX2_root_93 rfl hl (by decide) rfl (fun ls hl => ?_)
    refine lv_lload_n hx hb dX2_root_94 rfl (lv_at hl 0 rfl) ?_
    obtain ⟨r13, hu, hf⟩ := tq_bd_some hf
    have hPc := hP.sub (ws' := []) [] rfl
    have hDc := hD.sub (ws' := []) [] (by decide) rfl
    have hKc := hK.sub (tys' := []) [] rfl
    have hFc := va_free (wc := []) hD hS hA [] rfl
    refine va_calll (va_runS (As := [.long x12]) (rest := []) ⟨hx, hb, hml, hown, hww⟩ (c_f_floorRoot l dC dI H.size x12 r13 hu) (va_cwS 1 hww (tq_gS tqt_254 tqt_255 tqt_32 tqt_256) rfl rfl rfl (by decide +kernel) ⟨Nat.le_of_ble_eq_true rfl, Nat.le_of_ble_eq_true rfl⟩) ⟨fun a U g mk q => by obtain ⟨q0, q1, qP, qK, qD, qN⟩ := q; exact ⟨q0, q1, qP, va_K.moved (u := U) (U := U.calling g mk a) (Vm.Alike.refl U.vm) qK, qD, tqN_same (u := U) (U := U.calling g mk a) rfl qN⟩, fun U hU hW => ⟨rfl, by rw [hU], by rw [hU]; exact hPc, va_K.moved hW.alike hKc, hDc.weaken (fun _ _ _ _ => trivial), tqN_warm hW hN⟩⟩ rfl rfl hl.1 rfl (lv_room (Nat.le_of_ble_eq_true rfl)) dX2_root_95 ⟨Nat.zero_le _, Nat.zero_le _⟩) hS (fun q _ h => hFc q h) hFc (fun ra u0 t H1 locs ht hvm hpost hB hz1 hk1 hS => ?_)
    have hpost : r13 = ra := (show ra = r13 from hpost).symm
    subst hpost
    obtain ⟨hP1, hK1, hD1⟩ := hB
    rw [ht] at hP1
    obtain ⟨hP, hD⟩ := va_join (wr := [(th, .inr (2, [.int size, .ref sa, .ref s2, .ref s3, .ref o0, .ref o1])), (o0, .inr (0, [.int nt0, .int ng0, .long mg0, .int ex0]))]) (w1 := []) hP hD [] [0, 1] rfl rfl (by decide) (by decide) hk1 hFc hP1 hD1
    generalize H1 = H at hP hS ⊢
    have hP := hP.sub (ws' := [(th, .inr (2, [.int size, .ref sa, .ref s2, .ref s3, .ref o0, .ref o1])), (o0, .inr (0, [.int nt0, .int ng0, .long mg0, .int ex0]))]) [0, 1] rfl
    have hD := hD.sub (ws' := [(th, .inr (2, [.int size, .ref sa, .ref s2, .ref s3, .ref o0, .ref o1])), (o0, .inr (0, [.int nt0, .int ng0, .long mg0, .int ex0]))]) [0, 1] (by decide) rfl
    refine lv_lstore (lv' := [(5, .long r13), (3, .long x12), (0, .ref th), (2, .int v2)]) hx hb dX2_root_98 hl (by decide) rfl (fun ls hl => ?_)
    refine lv_lload hx hb dX2_root_100 (lv_at hl 0 rfl) ?_
    refine lv_lload hx hb dX2_root_102 (lv_at hl 0 rfl) ?_
    refine lv_lmul hx hb dX2_root_104 ?_
    refine lv_lload_n hx hb dX2_root_105 rfl (lv_at hl 1 rfl) ?_
    refine W.lcmp hx hb dX2_root_106 ?_
    refine lv_if_eq hx hb dX2_root_107 rfl (fun h14 => ?_) (fun h14 => ?_)
    · rw [if_pos h14] at hf
      refine lv_iconst (v := 0) hx hb dX2_root_114 (by decide) ?_
      exact B115 ls _ _ v2 r13 (0 : Int32) nt0 ng0 mg0 ex0 hf (lv_sub hl [2, 3, 0] rfl) hP hD hS
    · rw [if_neg h14] at hf
      refine lv_iconst (v := 1) hx hb dX2_root_110 (by decide) ?_
      refine lv_goto hx hb dX2_root_111 rfl ?_
      exact B115 ls _ _ v2 r13 (1 : Int32) nt0 ng0 mg0 ex0 hf (lv_sub hl [2, 3, 0] rfl) hP hD hS
  unfold f_root at hf
  refine lv_aload_n hx hb dX2_root_0 rfl (lv_at hl 0 rfl) ?_
  refine va_get (D := (dC, dI)) (ci := 2) (v := .ref o0) (C := RX2) (T := TX2) (N := 6) hx hb hww tqinX2 hown hK hP 0 rfl rfl 4 (by decide) (hww _ tqt_98) (fun _ h9 => h9) rfl dX2_root_1 ?_
  refine lv_iload_n hx hb dX2_root_4 rfl (lv_at hl 1 rfl) ?_
  refine lv_aload_n hx hb dX2_root_5 rfl (lv_at hl 0 rfl) ?_
  refine va_get (D := (dC, dI)) (ci := 2) (v := .int size) (C := RX2) (T := TX2) (N := 6) hx hb hww tqinX2 hown hK hP 0 rfl rfl 0 (by decide) (hww _ tqt_94) (fun _ h9 => h9) rfl dX2_root_6 ?_
  obtain ⟨u, hu⟩ : ∃ u, u = f_read nt0 ng0 mg0 ex0 x size := ⟨_, rfl⟩
  have hf := tq_nm_at hu hf
  obtain ⟨nt01, ng02, mg03, ex04⟩ := u
  have hf := tq_nm_at (z := nt01) rfl hf
  have hf := tq_nm_at (z := ng02) rfl hf
  have hf := tq_nm_at (z := mg03) rfl hf
  have hf := tq_nm_at (z := ex04) rfl hf
  have hPc := hP.sub (ws' := [(o0, .inr (0, [.int nt0, .int ng0, .long mg0, .int ex0]))]) [1] rfl
  have hDc := hD.sub (ws' := [(o0, .inr (0, [.int nt0, .int ng0, .long mg0, .int ex0]))]) [1] (by decide) rfl
  have hKc := hK.sub (tys' := []) [] rfl
  have hFc := va_free (wc := [(o0, .inr (0, [.int nt0, .int ng0, .long mg0, .int ex0]))]) hD hS hA [1] rfl
  refine va_callv (va_runV (As := [.int x, .int size]) (rest := []) ⟨hx, hb, hml, hown, hww⟩ (c_f_read l dC dI o0 s.heap.size x size nt0 ng0 mg0 ex0 (nt01, ng02, mg03, ex04) hu.symm) (cwV 2 hww (tq_gV tqt_133 tqt_134 tqt_135 tqt_34 tqt_136) rfl rfl rfl (by decide +kernel) ⟨Nat.le_of_ble_eq_true rfl, Nat.le_of_ble_eq_true rfl⟩) ⟨fun a U g mk q => by obtain ⟨q0, q1, qP, qK, qD, qN⟩ := q; exact ⟨q0, q1, qP, va_K.moved (u := U) (U := U.calling g mk a) (Vm.Alike.refl U.vm) qK, qD, tqN_same (u := U) (U := U.calling g mk a) rfl qN⟩, va_recv hK hP (ci := 0) rfl (q0 := 1) rfl, fun U hU hW => ⟨rfl, by rw [hU], by rw [hU]; exact hPc, va_K.moved hW.alike hKc, hDc.weaken (fun _ _ _ _ => trivial), tqN_warm hW hN⟩⟩ rfl rfl hl.1 rfl (lv_room (Nat.le_of_ble_eq_true rfl)) dX2_root_9 ⟨Nat.zero_le _, Nat.zero_le _⟩) hS (fun q _ h => hFc q h) hFc (fun u0 t H1 locs ht hvm hpost hB hz1 hk1 hS => ?_)
  obtain ⟨hP1, hK1, hD1⟩ := hB
  rw [ht] at hP1
  obtain ⟨hP, hD⟩ := va_join (wr := [(th, .inr (2, [.int size, .ref sa, .ref s2, .ref s3, .ref o0, .ref o1]))]) (w1 := [(o0, .inr (0, [.int nt01, .int ng02, .long mg03, .int ex04]))]) hP hD [1] [0] rfl rfl (by decide) (by decide) hk1 hFc hP1 hD1
  generalize H1 = H at hP hS ⊢
  have hP := hP.sub (ws' := [(th, .inr (2, [.int size, .ref sa, .ref s2, .ref s3, .ref o0, .ref o1])), (o0, .inr (0, [.int nt01, .int ng02, .long mg03, .int ex04]))]) [0, 1] rfl
  have hD := hD.sub (ws' := [(th, .inr (2, [.int size, .ref sa, .ref s2, .ref s3, .ref o0, .ref o1])), (o0, .inr (0, [.int nt01, .int ng02, .long mg03, .int ex04]))]) [0, 1] (by decide) rfl
  refine lv_aload_n hx hb dX2_root_12 rfl (lv_at hl 0 rfl) ?_
  refine va_get (D := (dC, dI)) (ci := 2) (v := .ref o0) (C := RX2) (T := TX2) (N := 6) hx hb hww tqinX2 hown hK hP 0 rfl rfl 4 (by decide) (hww _ tqt_98) (fun _ h9 => h9) rfl dX2_root_13 ?_
  refine va_get (D := (dC, dI)) (ci := 0) (v := .int nt01) (C := RX0) (T := TX0) (N := 4) hx hb hww tqinX0 hown hK hP 1 rfl rfl 0 (by decide) (hww _ tqt_74) (fun _ h9 => h9) rfl dX2_root_16 ?_
  refine lv_if_ne hx hb dX2_root_19 rfl (fun h5 => ?_) (fun h5 => ?_)
  · rw [if_pos h5] at hf
    exact B32 ls _ _ nt01 ng02 mg03 ex04 hf (lv_sub hl [0] rfl) hP hD hS
  · rw [if_neg (fun q : ¬ nt01 = 0 => q h5)] at hf
    refine lv_aload_n hx hb dX2_root_22 rfl (lv_at hl 0 rfl) ?_
    refine va_get (D := (dC, dI)) (ci := 2) (v := .ref o0) (C := RX2) (T := TX2) (N := 6) hx hb hww tqinX2 hown hK hP 0 rfl rfl 4 (by decide) (hww _ tqt_98) (fun _ h9 => h9) rfl dX2_root_23 ?_
    refine va_get (D := (dC, dI)) (ci := 0) (v := .int ng02) (C := RX0) (T := TX0) (N := 4) hx hb hww tqinX0 hown hK hP 1 rfl rfl 1 (by decide) (hww _ tqt_77) (fun _ h9 => h9) rfl dX2_root_26 ?_
    refine lv_if_eq hx hb dX2_root_29 rfl (fun h7 => ?_) (fun h7 => ?_)
    · rw [if_pos h7] at hf
      refine lv_aload_n hx hb dX2_root_40 rfl (lv_at hl 0 rfl) ?_
      refine va_get (D := (dC, dI)) (ci := 2) (v := .ref o0) (C := RX2) (T := TX2) (N := 6) hx hb hww tqinX2 hown hK hP 0 rfl rfl 4 (by decide) (hww _ tqt_98) (fun _ h9 => h9) rfl dX2_root_41 ?_
      refine va_get (D := (dC, dI)) (ci := 0) (v := .long mg03) (C := RX0) (T := TX0) (N := 4) hx hb hww tqinX0 hown hK hP 1 rfl rfl 2 (by decide) (hww _ tqt_80) (fun _ h9 => h9) rfl dX2_root_44 ?_
      refine lv_lconst (v := 0) hx hb dX2_root_47 (by decide) ?_
      refine W.lcmp hx hb dX2_root_48 ?_
      refine lv_if_ne hx hb dX2_root_49 rfl (fun h8 => ?_) (fun h8 => ?_)
      · rw [if_pos h8] at hf
        refine lv_aload_n hx hb dX2_root_54 rfl (lv_at hl 0 rfl) ?_
        refine va_get (D := (dC, dI)) (ci := 2) (v := .ref o0) (C := RX2) (T := TX2) (N := 6) hx hb hww tqinX2 hown hK hP 0 rfl rfl 4 (by decide) (hww _ tqt_98) (fun _ h9 => h9) rfl dX2_root_55 ?_
        refine va_get (D := (dC, dI)) (ci := 0) (v := .long mg03) (C := RX0) (T := TX0) (N := 4) hx hb hww tqinX0 hown hK hP 1 rfl rfl 2 (by decide) (hww _ tqt_80) (fun _ h9 => h9) rfl dX2_root_58 ?_
        have hPc := hP.sub (ws' := []) [] rfl
        have hDc := hD.sub (ws' := []) [] (by decide) rfl
        have hKc := hK.sub (tys' := []) [] rfl
        have hFc := va_free (wc := []) hD hS hA [] rfl
        refine va_calli (va_runS (As := [.long mg03]) (rest := []) ⟨hx, hb, hml, hown, hww⟩ (c_f_lnlz l dC dI H.size mg03 (f_lnlz mg03) rfl) (va_cwS 1 hww (tq_gS tqt_246 tqt_219 tqt_38 tqt_220) rfl rfl rfl (by decide +kernel) ⟨Nat.le_of_ble_eq_true rfl, Nat.le_of_ble_eq_true rfl⟩) ⟨fun a U g mk q => by obtain ⟨q0, q1, qP, qK, qD, qN⟩ := q; exact ⟨q0, q1, qP, va_K.moved (u := U) (U := U.calling g mk a) (Vm.Alike.refl U.vm) qK, qD, tqN_same (u := U) (U := U.calling g mk a) rfl qN⟩, fun U hU hW => ⟨rfl, by rw [hU], by rw [hU]; exact hPc, va_K.moved hW.alike hKc, hDc.weaken (fun _ _ _ _ => trivial), tqN_warm hW hN⟩⟩ rfl rfl hl.1 rfl (lv_room (Nat.le_of_ble_eq_true rfl)) dX2_root_61 ⟨Nat.zero_le _, Nat.zero_le _⟩) hS (fun q _ h => hFc q h) hFc (fun ra u0 t H1 locs ht hvm hpost hB hz1 hk1 hS => ?_)
        have hpost : (f_lnlz mg03) = ra := (show ra = (f_lnlz mg03) from hpost).symm
        subst hpost
        obtain ⟨hP1, hK1, hD1⟩ := hB
        rw [ht] at hP1
        obtain ⟨hP, hD⟩ := va_join (wr := [(th, .inr (2, [.int size, .ref sa, .ref s2, .ref s3, .ref o0, .ref o1])), (o0, .inr (0, [.int nt01, .int ng02, .long mg03, .int ex04]))]) (w1 := []) hP hD [] [0, 1] rfl rfl (by decide) (by decide) hk1 hFc hP1 hD1
        generalize H1 = H at hP hS ⊢
        have hP := hP.sub (ws' := [(th, .inr (2, [.int size, .ref sa, .ref s2, .ref s3, .ref o0, .ref o1])), (o0, .inr (0, [.int nt01, .int ng02, .long mg03, .int ex04]))]) [0, 1] rfl
        have hD := hD.sub (ws' := [(th, .inr (2, [.int size, .ref sa, .ref s2, .ref s3, .ref o0, .ref o1])), (o0, .inr (0, [.int nt01, .int ng02, .long mg03, .int ex04]))]) [0, 1] (by decide) rfl
        refine lv_iconst (v := 2) hx hb dX2_root_64 (by decide) ?_
        refine lv_isub hx hb dX2_root_65 ?_
        refine lv_topi (fun x10 e10 => ?_)
        have hf := tq_nm_at e10 hf
        refine lv_istore_n (lv' := [(2, .int x10), (0, .ref th), (1, .int x)]) hx hb dX2_root_66 rfl hl (by decide) rfl (fun ls hl => ?_)
        refine lv_aload_n hx hb dX2_root_67 rfl (lv_at hl 1 rfl) ?_
        refine va_get (D := (dC, dI)) (ci := 2) (v := .ref o0) (C := RX2) (T := TX2) (N := 6) hx hb hww tqinX2 hown hK hP 0 rfl rfl 4 (by decide) (hww _ tqt_98) (fun _ h9 => h9) rfl dX2_root_68 ?_
        refine va_get (D := (dC, dI)) (ci := 0) (v := .int ex04) (C := RX0) (T := TX0) (N := 4) hx hb hww tqinX0 hown hK hP 1 rfl rfl 3 (by decide) (hww _ tqt_83) (fun _ h9 => h9) rfl dX2_root_71 ?_
        refine lv_iload_n hx hb dX2_root_74 rfl (lv_at hl 0 rfl) ?_
        refine lv_isub hx hb dX2_root_75 ?_
        refine lv_iconst (v := 1) hx hb dX2_root_76 (by decide) ?_
        refine lv_iand hx hb dX2_root_77 ?_
        refine lv_if_eq hx hb dX2_root_78 rfl (fun h11 => ?_) (fun h11 => ?_)
        · rw [if_pos h11] at hf
          exact B84 ls _ _ x10 nt01 ng02 mg03 ex04 hf (lv_sub hl [1, 0] rfl) hP hD hS
        · rw [if_neg h11] at hf
          refine lv_iinc (v := x10 + (-1 : Int32)) (lv' := [(2, .int (x10 + (-1 : Int32))), (0, .ref th), (1, .int x)]) hx hb dX2_root_81 hl (k := 0) rfl rfl (by decide) rfl (fun ls hl => ?_)
          exact B84 ls _ _ (x10 + (-1 : Int32)) nt01 ng02 mg03 ex04 hf (lv_sub hl [1, 0] rfl) hP hD hS
      · rw [if_neg (fun q : ¬ (lg_cmp mg03 (0 : Int64)) = 0 => q h8)] at hf
        refine lv_iconst (v := 0) hx hb dX2_root_52 (by decide) ?_
        have hf := Option.some.inj hf
        subst hf
        exact W.iret (v := (0 : Int32)) hx hb hr (fun t ht hW => ⟨⟨(0 : Int32), (), rfl, rfl, by rw [ht]; exact hP, va_K.moved hW.alike hK, hD⟩, hS.F ht⟩) hS.2.2 dX2_root_53
    · rw [if_neg h7] at hf
      exact B32 ls _ _ nt01 ng02 mg03 ex04 hf (lv_sub hl [0] rfl) hP hD hS
