theorem tq_arrL {D : va_G} {cl : List vw_C} {tys : List (ClassId × FieldType)} {s : State} (hK : va_K D cl tys s) (i j : Nat) {c1 c2 : ClassId} (h1 : tys[i]? = some (c1, .long)) (h2 : tys[j]? = some (c2, .long)) : c2 = c1 := by
  have a : s.vm.findClass ("[" ++ FieldType.long.toString) = some c1 := (hK.2 i _ h1).2
  have b : s.vm.findClass ("[" ++ FieldType.long.toString) = some c2 := (hK.2 j _ h2).2
  exact Option.some.inj (b.symm.trans a)
theorem tq_arrI {D : va_G} {cl : List vw_C} {tys : List (ClassId × FieldType)} {s : State} (hK : va_K D cl tys s) (i j : Nat) {c1 c2 : ClassId} (h1 : tys[i]? = some (c1, .int)) (h2 : tys[j]? = some (c2, .int)) : c2 = c1 := by
  have a : s.vm.findClass ("[" ++ FieldType.int.toString) = some c1 := (hK.2 i _ h1).2
  have b : s.vm.findClass ("[" ++ FieldType.int.toString) = some c2 := (hK.2 j _ h2).2
  exact Option.some.inj (b.symm.trans a)
set_option maxHeartbeats 4000000 in
set_option maxRecDepth 100000 in
theorem c_i_O (l : Launch) (dC : Nat → ClassId) (dI : Nat → Nat → Nat) (h0 : Nat) (sz : Nat) (x1 x2 : Int32) (x3 : Int64) (x4 : Int32) : Met l yX0_init tqw_X0_init ({ frames := 1, cells := 0, slots := 0, locals := 12 }) (va_Pc [.ref h0] (fun U => U.heap.size = sz ∧ va_P (dC, dI) tqCl [(h0, .inr (0, [.int x1, .int x2, .long x3, .int x4]))] U.heap ∧ va_K (dC, dI) tqCl [] U ∧ va_D (fun _ => True) [(h0, .inr (0, [.int x1, .int x2, .long x3, .int x4]))] ∧ tqN U)) (va_Qv (fun (_ : Unit) => True) (fun (u : Unit) (t : State) => va_P (dC, dI) tqCl [(h0, .inr (0, [.int x1, .int x2, .long x3, .int x4]))] t.heap ∧ va_K (dC, dI) tqCl [] t ∧ va_D (va_A [(h0, .inr (0, [.int x1, .int x2, .long x3, .int x4]))] sz) [(h0, .inr (0, [.int x1, .int x2, .long x3, .int x4]))]) (va_A [(h0, .inr (0, [.int x1, .int x2, .long x3, .int x4]))] sz)) 0 0 (va_A [(h0, .inr (0, [.int x1, .int x2, .long x3, .int x4]))] sz) := by
  refine Met.ofW (cc := cX0_init) (maxL := 1) (ret := none) (by decide) rfl ?_
  intro p e s m args below meth c s₁ B hml hv
  obtain ⟨rfl, hsz, hP, hK, hD0, hN⟩ := hv
  have hx := B.exec
  have hb := B.bytes
  have hr := B.returns
  have hts := atoms_spec (ws := tqw_X0_init) B.pre
  have hww : ∀ w ∈ tqW, w.before _ s = true := fun w h => hts w (List.mem_cons_of_mem _ h)
  have hown : s.vm.findClass RX0 = some m.cls := findClass_of_methodNamed B.named
  have hlocks := B.notSynchronized
  have hin : meth.name = "<init>" := (name_of_methodNamed B.named B.method).1
  subst hsz
  have hD := hD0.self (sz := s.heap.size)
  generalize hAe : va_A [(h0, .inr (0, [.int x1, .int x2, .long x3, .int x4]))] s.heap.size = A at hD ⊢
  have hA : ∀ q : Nat, s.heap.size ≤ q → A q := fun q h => by rw [← hAe]; exact Or.inr h
  have hS : va_S A s.heap s.heap [] := va_S.rf
  have hP : va_P (dC, dI) tqCl [(h0, .inr (0, [.int x1, .int x2, .long x3, .int x4]))] s.heap := hP
  have hl := lv_entry ([.ref h0]) (n := 1) (Nat.le_of_ble_eq_true rfl)
  rw [lg_entry_eq]
  generalize (lg_sl ([.ref h0]) ++ List.replicate (1 - (lg_sl ([.ref h0])).length) Slot.unset).toArray = ls at hl ⊢
  have hl : lv_has ls 1 [(0, .ref h0)] := hl
  refine lv_aload_n hx hb dX0_init_0 rfl (lv_at hl 0 rfl) ?_
  refine W.objInit hx hb hown (hww _ tqt_72) (hww _ tqt_45) (hww _ tqt_46) rfl (by rw [hml]; exact hl.1) rfl dX0_init_1 (Nat.le_of_ble_eq_true rfl) (Nat.le_of_ble_eq_true rfl) ?_
  refine W.eq (g2 := F0 m 4 ls []) rfl ?_
  exact W.vret hx hb hr (fun t ht hW => ⟨⟨(), rfl, trivial, by rw [ht]; exact hP, va_K.moved hW.alike hK, hD⟩, hS.F ht⟩) hS.2.2 dX0_init_4
set_option maxHeartbeats 4000000 in
set_option maxRecDepth 100000 in
theorem c_i_S (l : Launch) (dC : Nat → ClassId) (dI : Nat → Nat → Nat) (h0 : Nat) (sz : Nat) (x1 nz : Int32) (Nw : Nat) (hd : (16 : Int32) * nz / 64 = nI Nw) (h8 : Nw ≤ 8) : Met l yX1_init tqw_X1_init ({ frames := 1, cells := 1, slots := 8, locals := 12 }) (va_Pc [.ref h0, .int nz] (fun U => U.heap.size = sz ∧ va_P (dC, dI) tqCl [(h0, .inr (1, [.int x1, .null]))] U.heap ∧ va_K (dC, dI) tqCl [] U ∧ va_D (fun _ => True) [(h0, .inr (1, [.int x1, .null]))] ∧ tqN U)) (va_Qv (fun (_ : Nat × ClassId) => True) (fun (u : Nat × ClassId) (t : State) => va_P (dC, dI) tqCl [(h0, .inr (1, [.int (8 * nz - 16), .ref u.1])), (u.1, .inl (u.2, Nw, .inr (.inl (fun _ => 0))))] t.heap ∧ va_K (dC, dI) tqCl [(u.2, .long)] t ∧ va_D (va_A [(h0, .inr (1, [.int x1, .null]))] sz) [(h0, .inr (1, [.int (8 * nz - 16), .ref u.1])), (u.1, .inl (u.2, Nw, .inr (.inl (fun _ => 0))))]) (va_A [(h0, .inr (1, [.int x1, .null]))] sz)) 1 8 (va_A [(h0, .inr (1, [.int x1, .null]))] sz) := by
  refine Met.ofW (cc := cX1_init) (maxL := 2) (ret := none) (by decide) rfl ?_
  intro p e s m args below meth c s₁ B hml hv
  obtain ⟨rfl, hsz, hP, hK, hD0, hN⟩ := hv
  have hx := B.exec
  have hb := B.bytes
  have hr := B.returns
  have hts := atoms_spec (ws := tqw_X1_init) B.pre
  have hww : ∀ w ∈ tqW, w.before _ s = true := fun w h => hts w (List.mem_cons_of_mem _ h)
  have hown : s.vm.findClass RX1 = some m.cls := findClass_of_methodNamed B.named
  have hlocks := B.notSynchronized
  have hin : meth.name = "<init>" := (name_of_methodNamed B.named B.method).1
  subst hsz
  have hD := hD0.self (sz := s.heap.size)
  generalize hAe : va_A [(h0, .inr (1, [.int x1, .null]))] s.heap.size = A at hD ⊢
  have hA : ∀ q : Nat, s.heap.size ≤ q → A q := fun q h => by rw [← hAe]; exact Or.inr h
  have hS : va_S A s.heap s.heap [] := va_S.rf
  have hP : va_P (dC, dI) tqCl [(h0, .inr (1, [.int x1, .null]))] s.heap := hP
  have hl := lv_entry ([.ref h0, .int nz]) (n := 2) (Nat.le_of_ble_eq_true rfl)
  rw [lg_entry_eq]
  generalize (lg_sl ([.ref h0, .int nz]) ++ List.replicate (2 - (lg_sl ([.ref h0, .int nz])).length) Slot.unset).toArray = ls at hl ⊢
  have hl : lv_has ls 2 [(0, .ref h0), (1, .int nz)] := hl
  refine lv_aload_n hx hb dX1_init_0 rfl (lv_at hl 0 rfl) ?_
  refine W.objInit hx hb hown (hww _ tqt_56) (hww _ tqt_45) (hww _ tqt_46) rfl (by rw [hml]; exact hl.1) rfl dX1_init_1 (Nat.le_of_ble_eq_true rfl) (Nat.le_of_ble_eq_true rfl) ?_
  refine W.eq (g2 := F0 m 4 ls []) rfl ?_
  refine lv_aload_n hx hb dX1_init_4 rfl (lv_at hl 0 rfl) ?_
  refine lv_bipush (v := 8) hx hb dX1_init_5 (by decide) ?_
  refine lv_iload_n hx hb dX1_init_7 rfl (lv_at hl 1 rfl) ?_
  refine lv_imul hx hb dX1_init_8 ?_
  refine lv_bipush (v := 16) hx hb dX1_init_9 (by decide) ?_
  refine lv_isub hx hb dX1_init_11 ?_
  refine va_putF (D := (dC, dI)) (ci := 1) (v := .int (8 * nz - 16)) (ty := .int) (C := RX1) (T := TX1) (N := 2) hx hb hww tqinX1 tyX1 tyX1_ok nmX1 hown hK hP hD hS 0 rfl rfl 0 (by decide) (hww _ tqt_57) (fun _ h9 => h9) rfl hin rfl (by decide +kernel) rfl rfl (Nat.le_of_ble_eq_true rfl) dX1_init_12 (fun H locs hP hD hS => ?_)
  have hP : va_P (dC, dI) tqCl [(h0, .inr (1, [.int (8 * nz - 16), .null]))] H := hP
  have hD : va_D A [(h0, .inr (1, [.int (8 * nz - 16), .null]))] := hD
  refine lv_aload_n hx hb dX1_init_15 rfl (lv_at hl 0 rfl) ?_
  refine lv_bipush (v := 16) hx hb dX1_init_16 (by decide) ?_
  refine lv_iload_n hx hb dX1_init_18 rfl (lv_at hl 1 rfl) ?_
  refine lv_imul hx hb dX1_init_19 ?_
  refine lv_bipush (v := 64) hx hb dX1_init_20 (by decide) ?_
  refine lv_idiv hx hb dX1_init_22 (by decide) ?_
  refine va_newa (atype := .long) (ty := .long) (a0 := (Nw, .inr (.inl (fun _ => 0)))) (N' := Nw) hx hb (hww _ tqt_66) rfl hK hP hD hS hA (fun _ => rfl) (by rw [show (16 : Int32) * nz / 64 = nI Nw from hd]; exact tq_nI_nn (by omega)) (by rw [show (16 : Int32) * nz / 64 = nI Nw from hd]; exact tq_nI_cl (by omega)) (by show Nw * 8 ≤ _; omega) (Nat.le_of_ble_eq_true rfl) (by show 0 + Nw ≤ 8; omega) dX1_init_23 (fun qw cA H hK hP hD hS => ?_)
  have hP : va_P (dC, dI) tqCl [(h0, .inr (1, [.int (8 * nz - 16), .null])), (qw, .inl (cA, Nw, .inr (.inl (fun _ => 0))))] H := hP
  have hD : va_D A [(h0, .inr (1, [.int (8 * nz - 16), .null])), (qw, .inl (cA, Nw, .inr (.inl (fun _ => 0))))] := hD
  have hK : va_K (dC, dI) tqCl [(cA, .long)] s := hK
  refine va_putF (D := (dC, dI)) (ci := 1) (v := .ref qw) (ty := .array .long) (C := RX1) (T := TX1) (N := 2) hx hb hww tqinX1 tyX1 tyX1_ok nmX1 hown hK hP hD hS 0 rfl rfl 1 (by decide) (hww _ tqt_59) (fun _ h9 => h9) rfl hin rfl (by decide +kernel) rfl rfl (Nat.le_of_ble_eq_true rfl) dX1_init_25 (fun H locs hP hD hS => ?_)
  have hP : va_P (dC, dI) tqCl [(h0, .inr (1, [.int (8 * nz - 16), .ref qw])), (qw, .inl (cA, Nw, .inr (.inl (fun _ => 0))))] H := hP
  have hD : va_D A [(h0, .inr (1, [.int (8 * nz - 16), .ref qw])), (qw, .inl (cA, Nw, .inr (.inl (fun _ => 0))))] := hD
  refine W.widen (k := 1) (n := 8) (Nat.le_refl _) (by show 0 + Nw ≤ 8; omega) ?_
  exact W.vret hx hb hr (fun t ht hW => ⟨⟨(qw, cA), rfl, trivial, by rw [ht]; exact hP, va_K.moved hW.alike hK, hD⟩, hS.F ht⟩) hS.2.2 dX1_init_28
set_option maxHeartbeats 4000000 in
set_option maxRecDepth 100000 in
theorem c_i_M (l : Launch) (dC : Nat → ClassId) (dI : Nat → Nat → Nat) (h0 : Nat) (sz : Nat) (x1 x2 wd : Int32) : Met l yM_init tqw_M_init ({ frames := 1, cells := 2, slots := 264, locals := 20 }) (va_Pc [.ref h0, .int wd] (fun U => U.heap.size = sz ∧ va_P (dC, dI) tqCl [(h0, .inr (3, [.int x1, .null, .int x2, .null]))] U.heap ∧ va_K (dC, dI) tqCl [] U ∧ va_D (fun _ => True) [(h0, .inr (3, [.int x1, .null, .int x2, .null]))] ∧ tqN U)) (va_Qv (fun (_ : Nat × Nat × ClassId) => True) (fun (u : Nat × Nat × ClassId) (t : State) => va_P (dC, dI) tqCl [(h0, .inr (3, [.int (m_sizeOf wd), .ref u.1, .int x2, .ref u.2.1])), (u.1, .inl (u.2.2, 200, .inl (fun _ => 0))), (u.2.1, .inl (u.2.2, 64, .inl (fun _ => 0)))] t.heap ∧ va_K (dC, dI) tqCl [(u.2.2, .int)] t ∧ va_D (va_A [(h0, .inr (3, [.int x1, .null, .int x2, .null]))] sz) [(h0, .inr (3, [.int (m_sizeOf wd), .ref u.1, .int x2, .ref u.2.1])), (u.1, .inl (u.2.2, 200, .inl (fun _ => 0))), (u.2.1, .inl (u.2.2, 64, .inl (fun _ => 0)))]) (va_A [(h0, .inr (3, [.int x1, .null, .int x2, .null]))] sz)) 2 264 (va_A [(h0, .inr (3, [.int x1, .null, .int x2, .null]))] sz) := by
  refine Met.ofW (cc := cM_init) (maxL := 2) (ret := none) (by decide) rfl ?_
  intro p e s m args below meth c s₁ B hml hv
  obtain ⟨rfl, hsz, hP, hK, hD0, hN⟩ := hv
  have hx := B.exec
  have hb := B.bytes
  have hr := B.returns
  have hts := atoms_spec (ws := tqw_M_init) B.pre
  have hww : ∀ w ∈ tqW, w.before _ s = true := fun w h => hts w (List.mem_cons_of_mem _ h)
  have hown : s.vm.findClass RM = some m.cls := findClass_of_methodNamed B.named
  have hlocks := B.notSynchronized
  have hin : meth.name = "<init>" := (name_of_methodNamed B.named B.method).1
  subst hsz
  have hD := hD0.self (sz := s.heap.size)
  generalize hAe : va_A [(h0, .inr (3, [.int x1, .null, .int x2, .null]))] s.heap.size = A at hD ⊢
  have hA : ∀ q : Nat, s.heap.size ≤ q → A q := fun q h => by rw [← hAe]; exact Or.inr h
  have hS : va_S A s.heap s.heap [] := va_S.rf
  have hP : va_P (dC, dI) tqCl [(h0, .inr (3, [.int x1, .null, .int x2, .null]))] s.heap := hP
  have hl := lv_entry ([.ref h0, .int wd]) (n := 2) (Nat.le_of_ble_eq_true rfl)
  rw [lg_entry_eq]
  generalize (lg_sl ([.ref h0, .int wd]) ++ List.replicate (2 - (lg_sl ([.ref h0, .int wd])).length) Slot.unset).toArray = ls at hl ⊢
  have hl : lv_has ls 2 [(0, .ref h0), (1, .int wd)] := hl
  refine lv_aload_n hx hb dM_init_0 rfl (lv_at hl 0 rfl) ?_
  refine W.objInit hx hb hown (hww _ tqt_326) (hww _ tqt_45) (hww _ tqt_46) rfl (by rw [hml]; exact hl.1) rfl dM_init_1 (Nat.le_of_ble_eq_true rfl) (Nat.le_of_ble_eq_true rfl) ?_
  refine W.eq (g2 := F0 m 4 ls []) rfl ?_
  refine lv_aload_n hx hb dM_init_4 rfl (lv_at hl 0 rfl) ?_
  refine lv_sipush (v := 200) hx hb dM_init_5 (by decide) ?_
  refine va_newa (atype := .int) (ty := .int) (a0 := (200, .inl (fun _ => 0))) (N' := 200) hx hb (hww _ tqt_343) rfl hK hP hD hS hA (fun _ => rfl) (by decide) (by decide) (by decide) (Nat.le_of_ble_eq_true rfl) (Nat.le_of_ble_eq_true rfl) dM_init_8 (fun ql cA H hK hP hD hS => ?_)
  have hP : va_P (dC, dI) tqCl [(h0, .inr (3, [.int x1, .null, .int x2, .null])), (ql, .inl (cA, 200, .inl (fun _ => 0)))] H := hP
  have hD : va_D A [(h0, .inr (3, [.int x1, .null, .int x2, .null])), (ql, .inl (cA, 200, .inl (fun _ => 0)))] := hD
  have hK : va_K (dC, dI) tqCl [(cA, .int)] s := hK
  refine va_putF (D := (dC, dI)) (ci := 3) (v := .ref ql) (ty := .array .int) (C := RM) (T := TM) (N := 4) hx hb hww tqinM tyM tyM_ok nmM hown hK hP hD hS 0 rfl rfl 1 (by decide) (hww _ tqt_331) (fun _ h9 => h9) rfl hin rfl (by decide +kernel) rfl rfl (Nat.le_of_ble_eq_true rfl) dM_init_10 (fun H locs hP hD hS => ?_)
  have hP : va_P (dC, dI) tqCl [(h0, .inr (3, [.int x1, .ref ql, .int x2, .null])), (ql, .inl (cA, 200, .inl (fun _ => 0)))] H := hP
  have hD : va_D A [(h0, .inr (3, [.int x1, .ref ql, .int x2, .null])), (ql, .inl (cA, 200, .inl (fun _ => 0)))] := hD
  refine lv_aload_n hx hb dM_init_13 rfl (lv_at hl 0 rfl) ?_
  refine lv_bipush (v := 64) hx hb dM_init_14 (by decide) ?_
  refine va_newa (atype := .int) (ty := .int) (a0 := (64, .inl (fun _ => 0))) (N' := 64) hx hb (hww _ tqt_343) rfl hK hP hD hS hA (fun _ => rfl) (by decide) (by decide) (by decide) (Nat.le_of_ble_eq_true rfl) (Nat.le_of_ble_eq_true rfl) dM_init_16 (fun qs cB H hK hP hD hS => ?_)
  have hK : va_K (dC, dI) tqCl [(cA, .int), (cB, .int)] s := hK
  have ew : cA = cB := tq_arrI hK 1 0 rfl rfl
  subst ew
  have hK := hK.sub (tys' := [(cA, .int)]) [0] rfl
  have hP : va_P (dC, dI) tqCl [(h0, .inr (3, [.int x1, .ref ql, .int x2, .null])), (ql, .inl (cA, 200, .inl (fun _ => 0))), (qs, .inl (cA, 64, .inl (fun _ => 0)))] H := hP
  have hD : va_D A [(h0, .inr (3, [.int x1, .ref ql, .int x2, .null])), (ql, .inl (cA, 200, .inl (fun _ => 0))), (qs, .inl (cA, 64, .inl (fun _ => 0)))] := hD
  refine va_putF (D := (dC, dI)) (ci := 3) (v := .ref qs) (ty := .array .int) (C := RM) (T := TM) (N := 4) hx hb hww tqinM tyM tyM_ok nmM hown hK hP hD hS 0 rfl rfl 3 (by decide) (hww _ tqt_333) (fun _ h9 => h9) rfl hin rfl (by decide +kernel) rfl rfl (Nat.le_of_ble_eq_true rfl) dM_init_18 (fun H locs hP hD hS => ?_)
  have hP : va_P (dC, dI) tqCl [(h0, .inr (3, [.int x1, .ref ql, .int x2, .ref qs])), (ql, .inl (cA, 200, .inl (fun _ => 0))), (qs, .inl (cA, 64, .inl (fun _ => 0)))] H := hP
  have hD : va_D A [(h0, .inr (3, [.int x1, .ref ql, .int x2, .ref qs])), (ql, .inl (cA, 200, .inl (fun _ => 0))), (qs, .inl (cA, 64, .inl (fun _ => 0)))] := hD
  refine lv_aload_n hx hb dM_init_21 rfl (lv_at hl 0 rfl) ?_
  refine lv_iload_n hx hb dM_init_22 rfl (lv_at hl 1 rfl) ?_
  have hPc := hP.sub (ws' := []) [] rfl
  have hDc := hD.sub (ws' := []) [] (by decide) rfl
  have hKc := hK.sub (tys' := []) [] rfl
  have hFc := va_free (wc := []) hD hS hA [] rfl
  refine va_calli (va_runS (As := [.int wd]) (rest := [.ref h0]) ⟨hx, hb, hml, hown, hww⟩ (c_m_sizeOf l dC dI _ wd (m_sizeOf wd) rfl) (va_cwS 1 hww (tq_gS tqt_327 tqt_328 tqt_35 tqt_329) rfl rfl rfl (by decide +kernel) ⟨Nat.le_of_ble_eq_true rfl, Nat.le_of_ble_eq_true rfl⟩) ⟨fun a U g mk q => by obtain ⟨q0, q1, qP, qK, qD, qN⟩ := q; exact ⟨q0, q1, qP, va_K.moved (u := U) (U := U.calling g mk a) (Vm.Alike.refl U.vm) qK, qD, tqN_same (u := U) (U := U.calling g mk a) rfl qN⟩, fun U hU hW => ⟨rfl, by rw [hU], by rw [hU]; exact hPc, va_K.moved hW.alike hKc, hDc.weaken (fun _ _ _ _ => trivial), tqN_warm hW hN⟩⟩ rfl rfl hl.1 rfl (lv_room (Nat.le_of_ble_eq_true rfl)) dM_init_23 ⟨Nat.le_of_ble_eq_true rfl, Nat.le_of_ble_eq_true rfl⟩) hS (fun q _ h => hFc q h) hFc (fun ra u0 t H1 locs ht hvm hpost hB hz1 hk1 hS => ?_)
  have hpost : (m_sizeOf wd) = ra := (show ra = (m_sizeOf wd) from hpost).symm
  subst hpost
  obtain ⟨hP1, hK1, hD1⟩ := hB
  rw [ht] at hP1
  obtain ⟨hP, hD⟩ := va_join (wr := [(h0, .inr (3, [.int x1, .ref ql, .int x2, .ref qs])), (ql, .inl (cA, 200, .inl (fun _ => 0))), (qs, .inl (cA, 64, .inl (fun _ => 0)))]) (w1 := []) hP hD [] [0, 1, 2] rfl rfl (by decide) (by decide) hk1 hFc hP1 hD1
  generalize H1 = H at hP hS ⊢
  have hP := hP.sub (ws' := [(h0, .inr (3, [.int x1, .ref ql, .int x2, .ref qs])), (ql, .inl (cA, 200, .inl (fun _ => 0))), (qs, .inl (cA, 64, .inl (fun _ => 0)))]) [0, 1, 2] rfl
  have hD := hD.sub (ws' := [(h0, .inr (3, [.int x1, .ref ql, .int x2, .ref qs])), (ql, .inl (cA, 200, .inl (fun _ => 0))), (qs, .inl (cA, 64, .inl (fun _ => 0)))]) [0, 1, 2] (by decide) rfl
  refine va_putF (D := (dC, dI)) (ci := 3) (v := .int (m_sizeOf wd)) (ty := .int) (C := RM) (T := TM) (N := 4) hx hb hww tqinM tyM tyM_ok nmM hown hK hP hD hS 0 rfl rfl 0 (by decide) (hww _ tqt_330) (fun _ h9 => h9) rfl hin rfl (by decide +kernel) rfl rfl (Nat.le_of_ble_eq_true rfl) dM_init_26 (fun H locs hP hD hS => ?_)
  have hP : va_P (dC, dI) tqCl [(h0, .inr (3, [.int (m_sizeOf wd), .ref ql, .int x2, .ref qs])), (ql, .inl (cA, 200, .inl (fun _ => 0))), (qs, .inl (cA, 64, .inl (fun _ => 0)))] H := hP
  have hD : va_D A [(h0, .inr (3, [.int (m_sizeOf wd), .ref ql, .int x2, .ref qs])), (ql, .inl (cA, 200, .inl (fun _ => 0))), (qs, .inl (cA, 64, .inl (fun _ => 0)))] := hD
  refine W.widen (k := 2) (n := 264) (Nat.le_refl _) (Nat.le_refl _) ?_
  exact W.vret hx hb hr (fun t ht hW => ⟨⟨(ql, qs, cA), rfl, trivial, by rw [ht]; exact hP, va_K.moved hW.alike hK, hD⟩, hS.F ht⟩) hS.2.2 dM_init_29
