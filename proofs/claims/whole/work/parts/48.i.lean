set_option maxHeartbeats 4000000 in
set_option maxRecDepth 100000 in
theorem c_i_O (l : Launch) (dC : Nat → ClassId) (dI : Nat → Nat → Nat) (h0 : Nat) (sz : Nat) (a b : Int32) (c : Int64) (d : Int32) : Met l yX0_init tqw_X0_init ({ frames := 1, cells := 0, slots := 0, locals := 12 }) (va_Pc [.ref h0] (fun U => U.heap.size = sz ∧ va_P (dC, dI) tqCl [(h0, .inr (0, [.int a, .int b, .long c, .int d]))] U.heap ∧ va_K (dC, dI) tqCl [] U ∧ va_D (fun _ => True) [(h0, .inr (0, [.int a, .int b, .long c, .int d]))] ∧ tqN U)) (va_Qv (fun (_ : Unit) => True) (fun (u : Unit) (t : State) => va_P (dC, dI) tqCl [(h0, .inr (0, [.int a, .int b, .long c, .int d]))] t.heap ∧ va_K (dC, dI) tqCl [] t ∧ va_D (va_A [(h0, .inr (0, [.int a, .int b, .long c, .int d]))] sz) [(h0, .inr (0, [.int a, .int b, .long c, .int d]))]) (va_A [(h0, .inr (0, [.int a, .int b, .long c, .int d]))] sz)) 0 0 (va_A [(h0, .inr (0, [.int a, .int b, .long c, .int d]))] sz) := by
  refine Met.ofW (cc := cX0_init) (maxL := 1) (ret := none) (by decide) rfl ?_
  intro p e s m args below meth c s₁ B hml hv
  obtain ⟨rfl, hsz, hP, hK, hD0, hN⟩ := hv
  have hx := B.exec
  have hb := B.bytes
  have hr := B.returns
  have hts := atoms_spec (ws := tqw_X0_init) B.pre
  have hww : ∀ w ∈ tqW, w.before _ s = true := fun w h => hts w (List.mem_cons_of_mem _ h)
  have hown : s.vm.findClass RX0 = some m.cls := findClass_of_methodNamed B.named
  have hlocks := B.notSynchronized
  have hin : meth.name = "<init>" := (name_of_methodNamed B.named B.method).1
  subst hsz
  have hD := hD0.self (sz := s.heap.size)
  generalize hAe : va_A [(h0, .inr (0, [.int a, .int b, .long c, .int d]))] s.heap.size = A at hD ⊢
  have hA : ∀ q : Nat, s.heap.size ≤ q → A q := fun q h => by rw [← hAe]; exact Or.inr h
  have hS : va_S A s.heap s.heap [] := va_S.rf
  have hP : va_P (dC, dI) tqCl [(h0, .inr (0, [.int a, .int b, .long c, .int d]))] s.heap := hP
  have hl := lv_entry ([.ref h0]) (n := 1) (Nat.le_of_ble_eq_true rfl)
  rw [lg_entry_eq]
  generalize (lg_sl ([.ref h0]) ++ List.replicate (1 - (lg_sl ([.ref h0])).length) Slot.unset).toArray = ls at hl ⊢
  have hl : lv_has ls 1 [(0, .ref h0)] := hl
  refine lv_aload_n hx hb dX0_init_0 rfl (lv_at hl 0 rfl) ?_
  refine W.objInit hx hb hown (hww _ tqt_72) (hww _ tqt_45) (hww _ tqt_46) rfl (by rw [hml]; exact hl.1) rfl dX0_init_1 (Nat.le_of_ble_eq_true rfl) (Nat.le_of_ble_eq_true rfl) ?_
  refine W.eq (g2 := F0 m 4 ls []) rfl ?_
  exact W.vret hx hb hr (fun t ht hW => ⟨⟨(), rfl, trivial, by rw [ht]; exact hP, va_K.moved hW.alike hK, hD⟩, hS.F ht⟩) hS.2.2 dX0_init_4
set_option maxHeartbeats 4000000 in
set_option maxRecDepth 100000 in
theorem c_i_S (l : Launch) (dC : Nat → ClassId) (dI : Nat → Nat → Nat) (h0 : Nat) (sz : Nat) (a nz : Int32) (Nw : Nat) (hd : (16 : Int32) * nz / 64 = nI Nw) (h8 : Nw ≤ 8) : Met l yX1_init tqw_X1_init ({ frames := 1, cells := 1, slots := 8, locals := 12 }) (va_Pc [.ref h0, .int nz] (fun U => U.heap.size = sz ∧ va_P (dC, dI) tqCl [(h0, .inr (1, [.int a, .null]))] U.heap ∧ va_K (dC, dI) tqCl [] U ∧ va_D (fun _ => True) [(h0, .inr (1, [.int a, .null]))] ∧ tqN U)) (va_Qv (fun (_ : Nat × ClassId) => True) (fun (u : Nat × ClassId) (t : State) => va_P (dC, dI) tqCl [(h0, .inr (1, [.int (8 * nz - 16), .ref u.1])), (u.1, .inl (u.2, Nw, .inr (.inl (fun _ => 0))))] t.heap ∧ va_K (dC, dI) tqCl [(u.2, .long)] t ∧ va_D (va_A [(h0, .inr (1, [.int a, .null]))] sz) [(h0, .inr (1, [.int (8 * nz - 16), .ref u.1])), (u.1, .inl (u.2, Nw, .inr (.inl (fun _ => 0))))]) (va_A [(h0, .inr (1, [.int a, .null]))] sz)) 1 8 (va_A [(h0, .inr (1, [.int a, .null]))] sz) := by
  refine Met.ofW (cc := cX1_init) (maxL := 2) (ret := none) (by decide) rfl ?_
  intro p e s m args below meth c s₁ B hml hv
  obtain ⟨rfl, hsz, hP, hK, hD0, hN⟩ := hv
  have hx := B.exec
  have hb := B.bytes
  have hr := B.returns
  have hts := atoms_spec (ws := tqw_X1_init) B.pre
  have hww : ∀ w ∈ tqW, w.before _ s = true := fun w h => hts w (List.mem_cons_of_mem _ h)
  have hown : s.vm.findClass RX1 = some m.cls := findClass_of_methodNamed B.named
  have hlocks := B.notSynchronized
  have hin : meth.name = "<init>" := (name_of_methodNamed B.named B.method).1
  subst hsz
  have hD := hD0.self (sz := s.heap.size)
  generalize hAe : va_A [(h0, .inr (1, [.int a, .null]))] s.heap.size = A at hD ⊢
  have hA : ∀ q : Nat, s.heap.size ≤ q → A q := fun q h => by rw [← hAe]; exact Or.inr h
  have hS : va_S A s.heap s.heap [] := va_S.rf
  have hP : va_P (dC, dI) tqCl [(h0, .inr (1, [.int a, .null]))] s.heap := hP
  have hl := lv_entry ([.ref h0, .int nz]) (n := 2) (Nat.le_of_ble_eq_true rfl)
  rw [lg_entry_eq]
  generalize (lg_sl ([.ref h0, .int nz]) ++ List.replicate (2 - (lg_sl ([.ref h0, .int nz])).length) Slot.unset).toArray = ls at hl ⊢
  have hl : lv_has ls 2 [(0, .ref h0), (1, .int nz)] := hl
  refine lv_aload_n hx hb dX1_init_0 rfl (lv_at hl 0 rfl) ?_
  refine W.objInit hx hb hown (hww _ tqt_56) (hww _ tqt_45) (hww _ tqt_46) rfl (by rw [hml]; exact hl.1) rfl dX1_init_1 (Nat.le_of_ble_eq_true rfl) (Nat.le_of_ble_eq_true rfl) ?_
  refine W.eq (g2 := F0 m 4 ls []) rfl ?_
  refine lv_aload_n hx hb dX1_init_4 rfl (lv_at hl 0 rfl) ?_
  refine lv_bipush (v := 8) hx hb dX1_init_5 (by decide) ?_
  refine lv_iload_n hx hb dX1_init_7 rfl (lv_at hl 1 rfl) ?_
  refine lv_imul hx hb dX1_init_8 ?_
  refine lv_bipush (v := 16) hx hb dX1_init_9 (by decide) ?_
  refine lv_isub hx hb dX1_init_11 ?_
  refine va_putF (D := (dC, dI)) (ci := 1) (v := .int (8 * nz - 16)) (ty := .int) (C := RX1) (T := TX1) (N := 2) hx hb hww tqinX1 tyX1 tyX1_ok nmX1 hown hK hP hD hS 0 rfl rfl 0 (by decide) (hww _ tqt_57) (fun _ h9 => h9) rfl hin rfl (by decide +kernel) rfl rfl (Nat.le_of_ble_eq_true rfl) dX1_init_12 (fun H locs hP hD hS => ?_)
  have hP : va_P (dC, dI) tqCl [(h0, .inr (1, [.int (8 * nz - 16), .null]))] H := hP
  have hD : va_D A [(h0, .inr (1, [.int (8 * nz - 16), .null]))] := hD
  refine lv_aload_n hx hb dX1_init_15 rfl (lv_at hl 0 rfl) ?_
  refine lv_bipush (v := 16) hx hb dX1_init_16 (by decide) ?_
  refine lv_iload_n hx hb dX1_init_18 rfl (lv_at hl 1 rfl) ?_
  refine lv_imul hx hb dX1_init_19 ?_
  refine lv_bipush (v := 64) hx hb dX1_init_20 (by decide) ?_
  refine lv_idiv hx hb dX1_init_22 (by decide) ?_
  refine va_newa (ty := .long) (a0 := (Nw, .inr (.inl (fun _ => 0)))) (N' := Nw) hx hb (hww _ tqt_66) rfl hK hP hD hS hA (fun _ => rfl) (by rw [show (16 : Int32) * nz / 64 = nI Nw from hd]; exact tq_nI_nn (by omega)) (by rw [show (16 : Int32) * nz / 64 = nI Nw from hd]; exact tq_nI_cl (by omega)) (by show Nw * 8 ≤ _; omega) (Nat.le_of_ble_eq_true rfl) (by show 0 + Nw ≤ 8; omega) dX1_init_23 (fun qw cA H hK hP hD hS => ?_)
  have hP : va_P (dC, dI) tqCl [(h0, .inr (1, [.int (8 * nz - 16), .null])), (qw, .inl (cA, Nw, .inr (.inl (fun _ => 0))))] H := hP
  have hD : va_D A [(h0, .inr (1, [.int (8 * nz - 16), .null])), (qw, .inl (cA, Nw, .inr (.inl (fun _ => 0))))] := hD
  have hK : va_K (dC, dI) tqCl [(cA, .long)] s := hK
  refine va_putF (D := (dC, dI)) (ci := 1) (v := .ref qw) (ty := .array .long) (C := RX1) (T := TX1) (N := 2) hx hb hww tqinX1 tyX1 tyX1_ok nmX1 hown hK hP hD hS 0 rfl rfl 1 (by decide) (hww _ tqt_59) (fun _ h9 => h9) rfl hin rfl (by decide +kernel) rfl rfl (Nat.le_of_ble_eq_true rfl) dX1_init_25 (fun H locs hP hD hS => ?_)
  have hP : va_P (dC, dI) tqCl [(h0, .inr (1, [.int (8 * nz - 16), .ref qw])), (qw, .inl (cA, Nw, .inr (.inl (fun _ => 0))))] H := hP
  have hD : va_D A [(h0, .inr (1, [.int (8 * nz - 16), .ref qw])), (qw, .inl (cA, Nw, .inr (.inl (fun _ => 0))))] := hD
  refine W.widen (k := 1) (n := 8) (Nat.le_refl _) (by show 0 + Nw ≤ 8; omega) ?_
  exact W.vret hx hb hr (fun t ht hW => ⟨⟨(qw, cA), rfl, trivial, by rw [ht]; exact hP, va_K.moved hW.alike hK, hD⟩, hS.F ht⟩) hS.2.2 dX1_init_28
