set_option maxHeartbeats 4000000 in
set_option maxRecDepth 100000 in
theorem c_f_add (l : Launch) (dC : Nat → ClassId) (dI : Nat → Nat → Nat) (th : Nat) (sa : Nat) (s2 : Nat) (s3 : Nat) (o0 : Nat) (o1 : Nat) (w2 : Nat) (w3 : Nat) (cL : ClassId) (sz : Nat) (x : Int32) (y : Int32) (size : Int32) (nt0 : Int32) (ng0 : Int32) (mg0 : Int64) (ex0 : Int32) (nt1 : Int32) (ng1 : Int32) (mg1 : Int64) (ex1 : Int32) (p0 : Int32) (N0 : Nat) (f2 : Nat → Int64) (f3 : Nat → Int64) (r : Int32 × Int32 × Int32 × Int64 × Int32 × Int32 × Int32 × Int64 × Int32 × (Nat → Int64) × (Nat → Int64)) (hf : f_add size nt0 ng0 mg0 ex0 nt1 ng1 mg1 ex1 p0 N0 f2 f3 x y = some r) : Met l yX2_add tqw_X2_add ({ frames := 6, cells := 0, slots := 0, locals := 143 }) (va_Pc [.ref th, .int x, .int y] (fun U => U.heap.size = sz ∧ va_P (dC, dI) tqCl [(th, .inr (2, [.int size, .ref sa, .ref s2, .ref s3, .ref o0, .ref o1])), (o0, .inr (0, [.int nt0, .int ng0, .long mg0, .int ex0])), (o1, .inr (0, [.int nt1, .int ng1, .long mg1, .int ex1])), (s2, .inr (1, [.int p0, .ref w2])), (w2, .inl (cL, N0, .inr (.inl f2))), (s3, .inr (1, [.int p0, .ref w3])), (w3, .inl (cL, N0, .inr (.inl f3)))] U.heap ∧ va_K (dC, dI) tqCl [(cL, .long)] U ∧ va_D (fun _ => True) [(th, .inr (2, [.int size, .ref sa, .ref s2, .ref s3, .ref o0, .ref o1])), (o0, .inr (0, [.int nt0, .int ng0, .long mg0, .int ex0])), (o1, .inr (0, [.int nt1, .int ng1, .long mg1, .int ex1])), (s2, .inr (1, [.int p0, .ref w2])), (w2, .inl (cL, N0, .inr (.inl f2))), (s3, .inr (1, [.int p0, .ref w3])), (w3, .inl (cL, N0, .inr (.inl f3)))] ∧ tqN U)) (va_Qi (fun (a : Int32) (_ : Unit) => a = r.1) (fun (_ : Unit) (t : State) => va_P (dC, dI) tqCl [(th, .inr (2, [.int size, .ref sa, .ref s2, .ref s3, .ref o0, .ref o1])), (o0, .inr (0, [.int r.2.1, .int r.2.2.1, .long r.2.2.2.1, .int r.2.2.2.2.1])), (o1, .inr (0, [.int r.2.2.2.2.2.1, .int r.2.2.2.2.2.2.1, .long r.2.2.2.2.2.2.2.1, .int r.2.2.2.2.2.2.2.2.1])), (s2, .inr (1, [.int p0, .ref w2])), (w2, .inl (cL, N0, .inr (.inl r.2.2.2.2.2.2.2.2.2.1))), (s3, .inr (1, [.int p0, .ref w3])), (w3, .inl (cL, N0, .inr (.inl r.2.2.2.2.2.2.2.2.2.2)))] t.heap ∧ va_K (dC, dI) tqCl [(cL, .long)] t ∧ va_D (va_A [(th, .inr (2, [.int size, .ref sa, .ref s2, .ref s3, .ref o0, .ref o1])), (o0, .inr (0, [.int nt0, .int ng0, .long mg0, .int ex0])), (o1, .inr (0, [.int nt1, .int ng1, .long mg1, .int ex1])), (s2, .inr (1, [.int p0, .ref w2])), (w2, .inl (cL, N0, .inr (.inl f2))), (s3, .inr (1, [.int p0, .ref w3])), (w3, .inl (cL, N0, .inr (.inl f3)))] sz) [(th, .inr (2, [.int size, .ref sa, .ref s2, .ref s3, .ref o0, .ref o1])), (o0, .inr (0, [.int r.2.1, .int r.2.2.1, .long r.2.2.2.1, .int r.2.2.2.2.1])), (o1, .inr (0, [.int r.2.2.2.2.2.1, .int r.2.2.2.2.2.2.1, .long r.2.2.2.2.2.2.2.1, .int r.2.2.2.2.2.2.2.2.1])), (s2, .inr (1, [.int p0, .ref w2])), (w2, .inl (cL, N0, .inr (.inl r.2.2.2.2.2.2.2.2.2.1))), (s3, .inr (1, [.int p0, .ref w3])), (w3, .inl (cL, N0, .inr (.inl r.2.2.2.2.2.2.2.2.2.2)))]) (va_A [(th, .inr (2, [.int size, .ref sa, .ref s2, .ref s3, .ref o0, .ref o1])), (o0, .inr (0, [.int nt0, .int ng0, .long mg0, .int ex0])), (o1, .inr (0, [.int nt1, .int ng1, .long mg1, .int ex1])), (s2, .inr (1, [.int p0, .ref w2])), (w2, .inl (cL, N0, .inr (.inl f2))), (s3, .inr (1, [.int p0, .ref w3])), (w3, .inl (cL, N0, .inr (.inl f3)))] sz)) 0 0 (va_A [(th, .inr (2, [.int size, .ref sa, .ref s2, .ref s3, .ref o0, .ref o1])), (o0, .inr (0, [.int nt0, .int ng0, .long mg0, .int ex0])), (o1, .inr (0, [.int nt1, .int ng1, .long mg1, .int ex1])), (s2, .inr (1, [.int p0, .ref w2])), (w2, .inl (cL, N0, .inr (.inl f2))), (s3, .inr (1, [.int p0, .ref w3])), (w3, .inl (cL, N0, .inr (.inl f3)))] sz) := by
  refine Met.ofW (cc := cX2_add) (maxL := 3) (ret := (some .int)) (by decide) rfl ?_
  intro p e s m args below meth c s₁ B hml hv
  obtain ⟨rfl, hsz, hP, hK, hD0, hN⟩ := hv
  have hx := B.exec
  have hb := B.bytes
  have hr := B.returns
  have hts := atoms_spec (ws := tqw_X2_add) B.pre
  have hww : ∀ w ∈ tqW, w.before _ s = true := fun w h => hts w (List.mem_cons_of_mem _ h)
  have hown : s.vm.findClass RX2 = some m.cls := findClass_of_methodNamed B.named
  have hlocks := B.notSynchronized
  subst hsz
  have hD := hD0.self (sz := s.heap.size)
  generalize hAe : va_A [(th, .inr (2, [.int size, .ref sa, .ref s2, .ref s3, .ref o0, .ref o1])), (o0, .inr (0, [.int nt0, .int ng0, .long mg0, .int ex0])), (o1, .inr (0, [.int nt1, .int ng1, .long mg1, .int ex1])), (s2, .inr (1, [.int p0, .ref w2])), (w2, .inl (cL, N0, .inr (.inl f2))), (s3, .inr (1, [.int p0, .ref w3])), (w3, .inl (cL, N0, .inr (.inl f3)))] s.heap.size = A at hD ⊢
  have hA : ∀ q : Nat, s.heap.size ≤ q → A q := fun q h => by rw [← hAe]; exact Or.inr h
  have hS : va_S A s.heap s.heap [] := va_S.rf
  have hP : va_P (dC, dI) tqCl [(th, .inr (2, [.int size, .ref sa, .ref s2, .ref s3, .ref o0, .ref o1])), (o0, .inr (0, [.int nt0, .int ng0, .long mg0, .int ex0])), (o1, .inr (0, [.int nt1, .int ng1, .long mg1, .int ex1])), (s2, .inr (1, [.int p0, .ref w2])), (w2, .inl (cL, N0, .inr (.inl f2))), (s3, .inr (1, [.int p0, .ref w3])), (w3, .inl (cL, N0, .inr (.inl f3)))] s.heap := hP
  have hl := lv_entry ([.ref th, .int x, .int y]) (n := 3) (Nat.le_of_ble_eq_true rfl)
  rw [lg_entry_eq]
  generalize (lg_sl ([.ref th, .int x, .int y]) ++ List.replicate (3 - (lg_sl ([.ref th, .int x, .int y])).length) Slot.unset).toArray = ls at hl ⊢
  have hl : lv_has ls 3 [(0, .ref th), (1, .int x), (2, .int y)] := hl
  unfold f_add at hf
  refine lv_aload_n hx hb dX2_add_0 rfl (lv_at hl 0 rfl) ?_
  refine lv_iload_n hx hb dX2_add_1 rfl (lv_at hl 1 rfl) ?_
  refine lv_aload_n hx hb dX2_add_2 rfl (lv_at hl 0 rfl) ?_
  have hPc := hP.sub (ws' := [(th, .inr (2, [.int size, .ref sa, .ref s2, .ref s3, .ref o0, .ref o1]))]) [0] rfl
  have hDc := hD.sub (ws' := [(th, .inr (2, [.int size, .ref sa, .ref s2, .ref s3, .ref o0, .ref o1]))]) [0] (by decide) rfl
  have hKc := hK.sub (tys' := []) [] rfl
  have hFc := va_free (wc := [(th, .inr (2, [.int size, .ref sa, .ref s2, .ref s3, .ref o0, .ref o1]))]) hD hS hA [0] rfl
  refine va_calli (va_runV (As := []) (rest := [.int x, .ref th]) ⟨hx, hb, hml, hown, hww⟩ (c_f_one l dC dI th sa s2 s3 o0 o1 s.heap.size size (f_one size) rfl) (cwV 0 hww (tq_gV tqt_121 tqt_123 tqt_0 tqt_32 tqt_124) rfl rfl rfl (by decide +kernel) ⟨Nat.le_of_ble_eq_true rfl, Nat.le_of_ble_eq_true rfl⟩) ⟨fun a U g mk q => by obtain ⟨q0, q1, qP, qK, qD, qN⟩ := q; exact ⟨q0, q1, qP, va_K.moved (u := U) (U := U.calling g mk a) (Vm.Alike.refl U.vm) qK, qD, tqN_same (u := U) (U := U.calling g mk a) rfl qN⟩, va_recv hK hP (ci := 2) rfl (q0 := 0) rfl, fun U hU hW => ⟨rfl, by rw [hU], by rw [hU]; exact hPc, va_K.moved hW.alike hKc, hDc.weaken (fun _ _ _ _ => trivial), tqN_warm hW hN⟩⟩ rfl rfl hl.1 rfl (lv_room (Nat.le_of_ble_eq_true rfl)) dX2_add_3 ⟨Nat.zero_le _, Nat.zero_le _⟩) hS (fun q _ h => hFc q h) hFc (fun ra u0 t H1 locs ht hvm hpost hB hz1 hk1 hS => ?_)
  have hpost : (f_one size) = ra := (show ra = (f_one size) from hpost).symm
  subst hpost
  obtain ⟨hP1, hK1, hD1⟩ := hB
  rw [ht] at hP1
  obtain ⟨hP, hD⟩ := va_join (wr := [(o0, .inr (0, [.int nt0, .int ng0, .long mg0, .int ex0])), (o1, .inr (0, [.int nt1, .int ng1, .long mg1, .int ex1])), (s2, .inr (1, [.int p0, .ref w2])), (w2, .inl (cL, N0, .inr (.inl f2))), (s3, .inr (1, [.int p0, .ref w3])), (w3, .inl (cL, N0, .inr (.inl f3)))]) (w1 := [(th, .inr (2, [.int size, .ref sa, .ref s2, .ref s3, .ref o0, .ref o1]))]) hP hD [0] [1, 2, 3, 4, 5, 6] rfl rfl (by decide) (by decide) hk1 hFc hP1 hD1
  generalize H1 = H at hP hS ⊢
  have hP := hP.sub (ws' := [(th, .inr (2, [.int size, .ref sa, .ref s2, .ref s3, .ref o0, .ref o1])), (o0, .inr (0, [.int nt0, .int ng0, .long mg0, .int ex0])), (o1, .inr (0, [.int nt1, .int ng1, .long mg1, .int ex1])), (s2, .inr (1, [.int p0, .ref w2])), (w2, .inl (cL, N0, .inr (.inl f2))), (s3, .inr (1, [.int p0, .ref w3])), (w3, .inl (cL, N0, .inr (.inl f3)))]) [6, 0, 1, 2, 3, 4, 5] rfl
  have hD := hD.sub (ws' := [(th, .inr (2, [.int size, .ref sa, .ref s2, .ref s3, .ref o0, .ref o1])), (o0, .inr (0, [.int nt0, .int ng0, .long mg0, .int ex0])), (o1, .inr (0, [.int nt1, .int ng1, .long mg1, .int ex1])), (s2, .inr (1, [.int p0, .ref w2])), (w2, .inl (cL, N0, .inr (.inl f2))), (s3, .inr (1, [.int p0, .ref w3])), (w3, .inl (cL, N0, .inr (.inl f3)))]) [6, 0, 1, 2, 3, 4, 5] (by decide) rfl
  refine lv_iload_n hx hb dX2_add_6 rfl (lv_at hl 2 rfl) ?_
  obtain ⟨u, hu, hf⟩ := tq_bd_some hf
  obtain ⟨r2, nt03, ng04, mg05, ex06, nt17, ng18, mg19, ex110, f211, f312⟩ := u
  have hf := tq_nm_at (z := r2) rfl hf
  have hf := tq_nm_at (z := nt03) rfl hf
  have hf := tq_nm_at (z := ng04) rfl hf
  have hf := tq_nm_at (z := mg05) rfl hf
  have hf := tq_nm_at (z := ex06) rfl hf
  have hf := tq_nm_at (z := nt17) rfl hf
  have hf := tq_nm_at (z := ng18) rfl hf
  have hf := tq_nm_at (z := mg19) rfl hf
  have hf := tq_nm_at (z := ex110) rfl hf
  have hf := tq_nm_at (z := f211) rfl hf
  have hf := tq_nm_at (z := f312) rfl hf
  have hPc := hP.sub (ws' := [(th, .inr (2, [.int size, .ref sa, .ref s2, .ref s3, .ref o0, .ref o1])), (o0, .inr (0, [.int nt0, .int ng0, .long mg0, .int ex0])), (o1, .inr (0, [.int nt1, .int ng1, .long mg1, .int ex1])), (s2, .inr (1, [.int p0, .ref w2])), (w2, .inl (cL, N0, .inr (.inl f2))), (s3, .inr (1, [.int p0, .ref w3])), (w3, .inl (cL, N0, .inr (.inl f3)))]) [0, 1, 2, 3, 4, 5, 6] rfl
  have hDc := hD.sub (ws' := [(th, .inr (2, [.int size, .ref sa, .ref s2, .ref s3, .ref o0, .ref o1])), (o0, .inr (0, [.int nt0, .int ng0, .long mg0, .int ex0])), (o1, .inr (0, [.int nt1, .int ng1, .long mg1, .int ex1])), (s2, .inr (1, [.int p0, .ref w2])), (w2, .inl (cL, N0, .inr (.inl f2))), (s3, .inr (1, [.int p0, .ref w3])), (w3, .inl (cL, N0, .inr (.inl f3)))]) [0, 1, 2, 3, 4, 5, 6] (by decide) rfl
  have hKc := hK.sub (tys' := [(cL, .long)]) [0] rfl
  have hFc := va_free (wc := [(th, .inr (2, [.int size, .ref sa, .ref s2, .ref s3, .ref o0, .ref o1])), (o0, .inr (0, [.int nt0, .int ng0, .long mg0, .int ex0])), (o1, .inr (0, [.int nt1, .int ng1, .long mg1, .int ex1])), (s2, .inr (1, [.int p0, .ref w2])), (w2, .inl (cL, N0, .inr (.inl f2))), (s3, .inr (1, [.int p0, .ref w3])), (w3, .inl (cL, N0, .inr (.inl f3)))]) hD hS hA [0, 1, 2, 3, 4, 5, 6] rfl
  refine va_calli (va_runV (As := [.int x, .int (f_one size), .int y]) (rest := []) ⟨hx, hb, hml, hown, hww⟩ (c_f_fused l dC dI th sa s2 s3 o0 o1 w2 w3 cL H.size x (f_one size) y size nt0 ng0 mg0 ex0 nt1 ng1 mg1 ex1 p0 N0 f2 f3 (r2, nt03, ng04, mg05, ex06, nt17, ng18, mg19, ex110, f211, f312) hu) (cwV 3 hww (tq_gV tqt_125 tqt_126 tqt_127 tqt_32 tqt_128) rfl rfl rfl (by decide +kernel) ⟨Nat.le_of_ble_eq_true rfl, Nat.le_of_ble_eq_true rfl⟩) ⟨fun a U g mk q => by obtain ⟨q0, q1, qP, qK, qD, qN⟩ := q; exact ⟨q0, q1, qP, va_K.moved (u := U) (U := U.calling g mk a) (Vm.Alike.refl U.vm) qK, qD, tqN_same (u := U) (U := U.calling g mk a) rfl qN⟩, va_recv hK hP (ci := 2) rfl (q0 := 0) rfl, fun U hU hW => ⟨rfl, by rw [hU], by rw [hU]; exact hPc, va_K.moved hW.alike hKc, hDc.weaken (fun _ _ _ _ => trivial), tqN_warm hW hN⟩⟩ rfl rfl hl.1 rfl (lv_room (Nat.le_of_ble_eq_true rfl)) dX2_add_7 ⟨Nat.zero_le _, Nat.zero_le _⟩) hS (fun q _ h => hFc q h) hFc (fun ra u0 t H1 locs ht hvm hpost hB hz1 hk1 hS => ?_)
  have hpost : r2 = ra := (show ra = r2 from hpost).symm
  subst hpost
  obtain ⟨hP1, hK1, hD1⟩ := hB
  rw [ht] at hP1
  obtain ⟨hP, hD⟩ := va_join (wr := []) (w1 := [(th, .inr (2, [.int size, .ref sa, .ref s2, .ref s3, .ref o0, .ref o1])), (o0, .inr (0, [.int nt03, .int ng04, .long mg05, .int ex06])), (o1, .inr (0, [.int nt17, .int ng18, .long mg19, .int ex110])), (s2, .inr (1, [.int p0, .ref w2])), (w2, .inl (cL, N0, .inr (.inl f211))), (s3, .inr (1, [.int p0, .ref w3])), (w3, .inl (cL, N0, .inr (.inl f312)))]) hP hD [0, 1, 2, 3, 4, 5, 6] [] rfl rfl (by decide) (by decide) hk1 hFc hP1 hD1
  generalize H1 = H at hP hS ⊢
  have hP := hP.sub (ws' := [(th, .inr (2, [.int size, .ref sa, .ref s2, .ref s3, .ref o0, .ref o1])), (o0, .inr (0, [.int nt03, .int ng04, .long mg05, .int ex06])), (o1, .inr (0, [.int nt17, .int ng18, .long mg19, .int ex110])), (s2, .inr (1, [.int p0, .ref w2])), (w2, .inl (cL, N0, .inr (.inl f211))), (s3, .inr (1, [.int p0, .ref w3])), (w3, .inl (cL, N0, .inr (.inl f312)))]) [0, 1, 2, 3, 4, 5, 6] rfl
  have hD := hD.sub (ws' := [(th, .inr (2, [.int size, .ref sa, .ref s2, .ref s3, .ref o0, .ref o1])), (o0, .inr (0, [.int nt03, .int ng04, .long mg05, .int ex06])), (o1, .inr (0, [.int nt17, .int ng18, .long mg19, .int ex110])), (s2, .inr (1, [.int p0, .ref w2])), (w2, .inl (cL, N0, .inr (.inl f211))), (s3, .inr (1, [.int p0, .ref w3])), (w3, .inl (cL, N0, .inr (.inl f312)))]) [0, 1, 2, 3, 4, 5, 6] (by decide) rfl
  have hf := Option.some.inj hf
  subst hf
  exact W.iret (v := r2) hx hb hr (fun t ht hW => ⟨⟨r2, (), rfl, rfl, by rw [ht]; exact hP, va_K.moved hW.alike hK, hD⟩, hS.F ht⟩) hS.2.2 dX2_add_10
set_option maxHeartbeats 4000000 in
set_option maxRecDepth 100000 in
theorem c_f_subtract (l : Launch) (dC : Nat → ClassId) (dI : Nat → Nat → Nat) (th : Nat) (sa : Nat) (s2 : Nat) (s3 : Nat) (o0 : Nat) (o1 : Nat) (w2 : Nat) (w3 : Nat) (cL : ClassId) (sz : Nat) (x : Int32) (y : Int32) (size : Int32) (nt0 : Int32) (ng0 : Int32) (mg0 : Int64) (ex0 : Int32) (nt1 : Int32) (ng1 : Int32) (mg1 : Int64) (ex1 : Int32) (p0 : Int32) (N0 : Nat) (f2 : Nat → Int64) (f3 : Nat → Int64) (r : Int32 × Int32 × Int32 × Int64 × Int32 × Int32 × Int32 × Int64 × Int32 × (Nat → Int64) × (Nat → Int64)) (hf : f_subtract size nt0 ng0 mg0 ex0 nt1 ng1 mg1 ex1 p0 N0 f2 f3 x y = some r) : Met l yX2_subtract tqw_X2_subtract ({ frames := 6, cells := 0, slots := 0, locals := 143 }) (va_Pc [.ref th, .int x, .int y] (fun U => U.heap.size = sz ∧ va_P (dC, dI) tqCl [(th, .inr (2, [.int size, .ref sa, .ref s2, .ref s3, .ref o0, .ref o1])), (o0, .inr (0, [.int nt0, .int ng0, .long mg0, .int ex0])), (o1, .inr (0, [.int nt1, .int ng1, .long mg1, .int ex1])), (s2, .inr (1, [.int p0, .ref w2])), (w2, .inl (cL, N0, .inr (.inl f2))), (s3, .inr (1, [.int p0, .ref w3])), (w3, .inl (cL, N0, .inr (.inl f3)))] U.heap ∧ va_K (dC, dI) tqCl [(cL, .long)] U ∧ va_D (fun _ => True) [(th, .inr (2, [.int size, .ref sa, .ref s2, .ref s3, .ref o0, .ref o1])), (o0, .inr (0, [.int nt0, .int ng0, .long mg0, .int ex0])), (o1, .inr (0, [.int nt1, .int ng1, .long mg1, .int ex1])), (s2, .inr (1, [.int p0, .ref w2])), (w2, .inl (cL, N0, .inr (.inl f2))), (s3, .inr (1, [.int p0, .ref w3])), (w3, .inl (cL, N0, .inr (.inl f3)))] ∧ tqN U)) (va_Qi (fun (a : Int32) (_ : Unit) => a = r.1) (fun (_ : Unit) (t : State) => va_P (dC, dI) tqCl [(th, .inr (2, [.int size, .ref sa, .ref s2, .ref s3, .ref o0, .ref o1])), (o0, .inr (0, [.int r.2.1, .int r.2.2.1, .long r.2.2.2.1, .int r.2.2.2.2.1])), (o1, .inr (0, [.int r.2.2.2.2.2.1, .int r.2.2.2.2.2.2.1, .long r.2.2.2.2.2.2.2.1, .int r.2.2.2.2.2.2.2.2.1])), (s2, .inr (1, [.int p0, .ref w2])), (w2, .inl (cL, N0, .inr (.inl r.2.2.2.2.2.2.2.2.2.1))), (s3, .inr (1, [.int p0, .ref w3])), (w3, .inl (cL, N0, .inr (.inl r.2.2.2.2.2.2.2.2.2.2)))] t.heap ∧ va_K (dC, dI) tqCl [(cL, .long)] t ∧ va_D (va_A [(th, .inr (2, [.int size, .ref sa, .ref s2, .ref s3, .ref o0, .ref o1])), (o0, .inr (0, [.int nt0, .int ng0, .long mg0, .int ex0])), (o1, .inr (0, [.int nt1, .int ng1, .long mg1, .int ex1])), (s2, .inr (1, [.int p0, .ref w2])), (w2, .inl (cL, N0, .inr (.inl f2))), (s3, .inr (1, [.int p0, .ref w3])), (w3, .inl (cL, N0, .inr (.inl f3)))] sz) [(th, .inr (2, [.int size, .ref sa, .ref s2, .ref s3, .ref o0, .ref o1])), (o0, .inr (0, [.int r.2.1, .int r.2.2.1, .long r.2.2.2.1, .int r.2.2.2.2.1])), (o1, .inr (0, [.int r.2.2.2.2.2.1, .int r.2.2.2.2.2.2.1, .long r.2.2.2.2.2.2.2.1, .int r.2.2.2.2.2.2.2.2.1])), (s2, .inr (1, [.int p0, .ref w2])), (w2, .inl (cL, N0, .inr (.inl r.2.2.2.2.2.2.2.2.2.1))), (s3, .inr (1, [.int p0, .ref w3])), (w3, .inl (cL, N0, .inr (.inl r.2.2.2.2.2.2.2.2.2.2)))]) (va_A [(th, .inr (2, [.int size, .ref sa, .ref s2, .ref s3, .ref o0, .ref o1])), (o0, .inr (0, [.int nt0, .int ng0, .long mg0, .int ex0])), (o1, .inr (0, [.int nt1, .int ng1, .long mg1, .int ex1])), (s2, .inr (1, [.int p0, .ref w2])), (w2, .inl (cL, N0, .inr (.inl f2))), (s3, .inr (1, [.int p0, .ref w3])), (w3, .inl (cL, N0, .inr (.inl f3)))] sz)) 0 0 (va_A [(th, .inr (2, [.int size, .ref sa, .ref s2, .ref s3, .ref o0, .ref o1])), (o0, .inr (0, [.int nt0, .int ng0, .long mg0, .int ex0])), (o1, .inr (0, [.int nt1, .int ng1, .long mg1, .int ex1])), (s2, .inr (1, [.int p0, .ref w2])), (w2, .inl (cL, N0, .inr (.inl f2))), (s3, .inr (1, [.int p0, .ref w3])), (w3, .inl (cL, N0, .inr (.inl f3)))] sz) := by
  refine Met.ofW (cc := cX2_subtract) (maxL := 3) (ret := (some .int)) (by decide) rfl ?_
  intro p e s m args below meth c s₁ B hml hv
  obtain ⟨rfl, hsz, hP, hK, hD0, hN⟩ := hv
  have hx := B.exec
  have hb := B.bytes
  have hr := B.returns
  have hts := atoms_spec (ws := tqw_X2_subtract) B.pre
  have hww : ∀ w ∈ tqW, w.before _ s = true := fun w h => hts w (List.mem_cons_of_mem _ h)
  have hown : s.vm.findClass RX2 = some m.cls := findClass_of_methodNamed B.named
  have hlocks := B.notSynchronized
  subst hsz
  have hD := hD0.self (sz := s.heap.size)
  generalize hAe : va_A [(th, .inr (2, [.int size, .ref sa, .ref s2, .ref s3, .ref o0, .ref o1])), (o0, .inr (0, [.int nt0, .int ng0, .long mg0, .int ex0])), (o1, .inr (0, [.int nt1, .int ng1, .long mg1, .int ex1])), (s2, .inr (1, [.int p0, .ref w2])), (w2, .inl (cL, N0, .inr (.inl f2))), (s3, .inr (1, [.int p0, .ref w3])), (w3, .inl (cL, N0, .inr (.inl f3)))] s.heap.size = A at hD ⊢
  have hA : ∀ q : Nat, s.heap.size ≤ q → A q := fun q h => by rw [← hAe]; exact Or.inr h
  have hS : va_S A s.heap s.heap [] := va_S.rf
  have hP : va_P (dC, dI) tqCl [(th, .inr (2, [.int size, .ref sa, .ref s2, .ref s3, .ref o0, .ref o1])), (o0, .inr (0, [.int nt0, .int ng0, .long mg0, .int ex0])), (o1, .inr (0, [.int nt1, .int ng1, .long mg1, .int ex1])), (s2, .inr (1, [.int p0, .ref w2])), (w2, .inl (cL, N0, .inr (.inl f2))), (s3, .inr (1, [.int p0, .ref w3])), (w3, .inl (cL, N0, .inr (.inl f3)))] s.heap := hP
  have hl := lv_entry ([.ref th, .int x, .int y]) (n := 3) (Nat.le_of_ble_eq_true rfl)
  rw [lg_entry_eq]
  generalize (lg_sl ([.ref th, .int x, .int y]) ++ List.replicate (3 - (lg_sl ([.ref th, .int x, .int y])).length) Slot.unset).toArray = ls at hl ⊢
  have hl : lv_has ls 3 [(0, .ref th), (1, .int x), (2, .int y)] := hl
  unfold f_subtract at hf
  refine lv_aload_n hx hb dX2_subtract_0 rfl (lv_at hl 0 rfl) ?_
  refine lv_iload_n hx hb dX2_subtract_1 rfl (lv_at hl 1 rfl) ?_
  refine lv_aload_n hx hb dX2_subtract_2 rfl (lv_at hl 0 rfl) ?_
  have hPc := hP.sub (ws' := [(th, .inr (2, [.int size, .ref sa, .ref s2, .ref s3, .ref o0, .ref o1]))]) [0] rfl
  have hDc := hD.sub (ws' := [(th, .inr (2, [.int size, .ref sa, .ref s2, .ref s3, .ref o0, .ref o1]))]) [0] (by decide) rfl
  have hKc := hK.sub (tys' := []) [] rfl
  have hFc := va_free (wc := [(th, .inr (2, [.int size, .ref sa, .ref s2, .ref s3, .ref o0, .ref o1]))]) hD hS hA [0] rfl
  refine va_calli (va_runV (As := []) (rest := [.int x, .ref th]) ⟨hx, hb, hml, hown, hww⟩ (c_f_one l dC dI th sa s2 s3 o0 o1 s.heap.size size (f_one size) rfl) (cwV 0 hww (tq_gV tqt_121 tqt_123 tqt_0 tqt_32 tqt_124) rfl rfl rfl (by decide +kernel) ⟨Nat.le_of_ble_eq_true rfl, Nat.le_of_ble_eq_true rfl⟩) ⟨fun a U g mk q => by obtain ⟨q0, q1, qP, qK, qD, qN⟩ := q; exact ⟨q0, q1, qP, va_K.moved (u := U) (U := U.calling g mk a) (Vm.Alike.refl U.vm) qK, qD, tqN_same (u := U) (U := U.calling g mk a) rfl qN⟩, va_recv hK hP (ci := 2) rfl (q0 := 0) rfl, fun U hU hW => ⟨rfl, by rw [hU], by rw [hU]; exact hPc, va_K.moved hW.alike hKc, hDc.weaken (fun _ _ _ _ => trivial), tqN_warm hW hN⟩⟩ rfl rfl hl.1 rfl (lv_room (Nat.le_of_ble_eq_true rfl)) dX2_subtract_3 ⟨Nat.zero_le _, Nat.zero_le _⟩) hS (fun q _ h => hFc q h) hFc (fun ra u0 t H1 locs ht hvm hpost hB hz1 hk1 hS => ?_)
  have hpost : (f_one size) = ra := (show ra = (f_one size) from hpost).symm
  subst hpost
  obtain ⟨hP1, hK1, hD1⟩ := hB
  rw [ht] at hP1
  obtain ⟨hP, hD⟩ := va_join (wr := [(o0, .inr (0, [.int nt0, .int ng0, .long mg0, .int ex0])), (o1, .inr (0, [.int nt1, .int ng1, .long mg1, .int ex1])), (s2, .inr (1, [.int p0, .ref w2])), (w2, .inl (cL, N0, .inr (.inl f2))), (s3, .inr (1, [.int p0, .ref w3])), (w3, .inl (cL, N0, .inr (.inl f3)))]) (w1 := [(th, .inr (2, [.int size, .ref sa, .ref s2, .ref s3, .ref o0, .ref o1]))]) hP hD [0] [1, 2, 3, 4, 5, 6] rfl rfl (by decide) (by decide) hk1 hFc hP1 hD1
  generalize H1 = H at hP hS ⊢
  have hP := hP.sub (ws' := [(th, .inr (2, [.int size, .ref sa, .ref s2, .ref s3, .ref o0, .ref o1])), (o0, .inr (0, [.int nt0, .int ng0, .long mg0, .int ex0])), (o1, .inr (0, [.int nt1, .int ng1, .long mg1, .int ex1])), (s2, .inr (1, [.int p0, .ref w2])), (w2, .inl (cL, N0, .inr (.inl f2))), (s3, .inr (1, [.int p0, .ref w3])), (w3, .inl (cL, N0, .inr (.inl f3)))]) [6, 0, 1, 2, 3, 4, 5] rfl
  have hD := hD.sub (ws' := [(th, .inr (2, [.int size, .ref sa, .ref s2, .ref s3, .ref o0, .ref o1])), (o0, .inr (0, [.int nt0, .int ng0, .long mg0, .int ex0])), (o1, .inr (0, [.int nt1, .int ng1, .long mg1, .int ex1])), (s2, .inr (1, [.int p0, .ref w2])), (w2, .inl (cL, N0, .inr (.inl f2))), (s3, .inr (1, [.int p0, .ref w3])), (w3, .inl (cL, N0, .inr (.inl f3)))]) [6, 0, 1, 2, 3, 4, 5] (by decide) rfl
  refine lv_iload_n hx hb dX2_subtract_6 rfl (lv_at hl 2 rfl) ?_
  refine lv_ineg hx hb dX2_subtract_7 ?_
  obtain ⟨u, hu, hf⟩ := tq_bd_some hf
  obtain ⟨r2, nt03, ng04, mg05, ex06, nt17, ng18, mg19, ex110, f211, f312⟩ := u
  have hf := tq_nm_at (z := r2) rfl hf
  have hf := tq_nm_at (z := nt03) rfl hf
  have hf := tq_nm_at (z := ng04) rfl hf
  have hf := tq_nm_at (z := mg05) rfl hf
  have hf := tq_nm_at (z := ex06) rfl hf
  have hf := tq_nm_at (z := nt17) rfl hf
  have hf := tq_nm_at (z := ng18) rfl hf
  have hf := tq_nm_at (z := mg19) rfl hf
  have hf := tq_nm_at (z := ex110) rfl hf
  have hf := tq_nm_at (z := f211) rfl hf
  have hf := tq_nm_at (z := f312) rfl hf
  have hPc := hP.sub (ws' := [(th, .inr (2, [.int size, .ref sa, .ref s2, .ref s3, .ref o0, .ref o1])), (o0, .inr (0, [.int nt0, .int ng0, .long mg0, .int ex0])), (o1, .inr (0, [.int nt1, .int ng1, .long mg1, .int ex1])), (s2, .inr (1, [.int p0, .ref w2])), (w2, .inl (cL, N0, .inr (.inl f2))), (s3, .inr (1, [.int p0, .ref w3])), (w3, .inl (cL, N0, .inr (.inl f3)))]) [0, 1, 2, 3, 4, 5, 6] rfl
  have hDc := hD.sub (ws' := [(th, .inr (2, [.int size, .ref sa, .ref s2, .ref s3, .ref o0, .ref o1])), (o0, .inr (0, [.int nt0, .int ng0, .long mg0, .int ex0])), (o1, .inr (0, [.int nt1, .int ng1, .long mg1, .int ex1])), (s2, .inr (1, [.int p0, .ref w2])), (w2, .inl (cL, N0, .inr (.inl f2))), (s3, .inr (1, [.int p0, .ref w3])), (w3, .inl (cL, N0, .inr (.inl f3)))]) [0, 1, 2, 3, 4, 5, 6] (by decide) rfl
  have hKc := hK.sub (tys' := [(cL, .long)]) [0] rfl
  have hFc := va_free (wc := [(th, .inr (2, [.int size, .ref sa, .ref s2, .ref s3, .ref o0, .ref o1])), (o0, .inr (0, [.int nt0, .int ng0, .long mg0, .int ex0])), (o1, .inr (0, [.int nt1, .int ng1, .long mg1, .int ex1])), (s2, .inr (1, [.int p0, .ref w2])), (w2, .inl (cL, N0, .inr (.inl f2))), (s3, .inr (1, [.int p0, .ref w3])), (w3, .inl (cL, N0, .inr (.inl f3)))]) hD hS hA [0, 1, 2, 3, 4, 5, 6] rfl
  refine va_calli (va_runV (As := [.int x, .int (f_one size), .int (-y)]) (rest := []) ⟨hx, hb, hml, hown, hww⟩ (c_f_fused l dC dI th sa s2 s3 o0 o1 w2 w3 cL H.size x (f_one size) (-y) size nt0 ng0 mg0 ex0 nt1 ng1 mg1 ex1 p0 N0 f2 f3 (r2, nt03, ng04, mg05, ex06, nt17, ng18, mg19, ex110, f211, f312) hu) (cwV 3 hww (tq_gV tqt_125 tqt_126 tqt_127 tqt_32 tqt_128) rfl rfl rfl (by decide +kernel) ⟨Nat.le_of_ble_eq_true rfl, Nat.le_of_ble_eq_true rfl⟩) ⟨fun a U g mk q => by obtain ⟨q0, q1, qP, qK, qD, qN⟩ := q; exact ⟨q0, q1, qP, va_K.moved (u := U) (U := U.calling g mk a) (Vm.Alike.refl U.vm) qK, qD, tqN_same (u := U) (U := U.calling g mk a) rfl qN⟩, va_recv hK hP (ci := 2) rfl (q0 := 0) rfl, fun U hU hW => ⟨rfl, by rw [hU], by rw [hU]; exact hPc, va_K.moved hW.alike hKc, hDc.weaken (fun _ _ _ _ => trivial), tqN_warm hW hN⟩⟩ rfl rfl hl.1 rfl (lv_room (Nat.le_of_ble_eq_true rfl)) dX2_subtract_8 ⟨Nat.zero_le _, Nat.zero_le _⟩) hS (fun q _ h => hFc q h) hFc (fun ra u0 t H1 locs ht hvm hpost hB hz1 hk1 hS => ?_)
  have hpost : r2 = ra := (show ra = r2 from hpost).symm
  subst hpost
  obtain ⟨hP1, hK1, hD1⟩ := hB
  rw [ht] at hP1
  obtain ⟨hP, hD⟩ := va_join (wr := []) (w1 := [(th, .inr (2, [.int size, .ref sa, .ref s2, .ref s3, .ref o0, .ref o1])), (o0, .inr (0, [.int nt03, .int ng04, .long mg05, .int ex06])), (o1, .inr (0, [.int nt17, .int ng18, .long mg19, .int ex110])), (s2, .inr (1, [.int p0, .ref w2])), (w2, .inl (cL, N0, .inr (.inl f211))), (s3, .inr (1, [.int p0, .ref w3])), (w3, .inl (cL, N0, .inr (.inl f312)))]) hP hD [0, 1, 2, 3, 4, 5, 6] [] rfl rfl (by decide) (by decide) hk1 hFc hP1 hD1
  generalize H1 = H at hP hS ⊢
  have hP := hP.sub (ws' := [(th, .inr (2, [.int size, .ref sa, .ref s2, .ref s3, .ref o0, .ref o1])), (o0, .inr (0, [.int nt03, .int ng04, .long mg05, .int ex06])), (o1, .inr (0, [.int nt17, .int ng18, .long mg19, .int ex110])), (s2, .inr (1, [.int p0, .ref w2])), (w2, .inl (cL, N0, .inr (.inl f211))), (s3, .inr (1, [.int p0, .ref w3])), (w3, .inl (cL, N0, .inr (.inl f312)))]) [0, 1, 2, 3, 4, 5, 6] rfl
  have hD := hD.sub (ws' := [(th, .inr (2, [.int size, .ref sa, .ref s2, .ref s3, .ref o0, .ref o1])), (o0, .inr (0, [.int nt03, .int ng04, .long mg05, .int ex06])), (o1, .inr (0, [.int nt17, .int ng18, .long mg19, .int ex110])), (s2, .inr (1, [.int p0, .ref w2])), (w2, .inl (cL, N0, .inr (.inl f211))), (s3, .inr (1, [.int p0, .ref w3])), (w3, .inl (cL, N0, .inr (.inl f312)))]) [0, 1, 2, 3, 4, 5, 6] (by decide) rfl
  have hf := Option.some.inj hf
  subst hf
  exact W.iret (v := r2) hx hb hr (fun t ht hW => ⟨⟨r2, (), rfl, rfl, by rw [ht]; exact hP, va_K.moved hW.alike hK, hD⟩, hS.F ht⟩) hS.2.2 dX2_subtract_11
set_option maxHeartbeats 4000000 in
set_option maxRecDepth 100000 in
theorem c_f_multiply (l : Launch) (dC : Nat → ClassId) (dI : Nat → Nat → Nat) (th : Nat) (sa : Nat) (s2 : Nat) (s3 : Nat) (o0 : Nat) (o1 : Nat) (w2 : Nat) (w3 : Nat) (cL : ClassId) (sz : Nat) (x : Int32) (y : Int32) (size : Int32) (nt0 : Int32) (ng0 : Int32) (mg0 : Int64) (ex0 : Int32) (nt1 : Int32) (ng1 : Int32) (mg1 : Int64) (ex1 : Int32) (p0 : Int32) (N0 : Nat) (f2 : Nat → Int64) (f3 : Nat → Int64) (r : Int32 × Int32 × Int32 × Int64 × Int32 × Int32 × Int32 × Int64 × Int32 × (Nat → Int64) × (Nat → Int64)) (hf : f_multiply size nt0 ng0 mg0 ex0 nt1 ng1 mg1 ex1 p0 N0 f2 f3 x y = some r) : Met l yX2_multiply tqw_X2_multiply ({ frames := 6, cells := 0, slots := 0, locals := 143 }) (va_Pc [.ref th, .int x, .int y] (fun U => U.heap.size = sz ∧ va_P (dC, dI) tqCl [(th, .inr (2, [.int size, .ref sa, .ref s2, .ref s3, .ref o0, .ref o1])), (o0, .inr (0, [.int nt0, .int ng0, .long mg0, .int ex0])), (o1, .inr (0, [.int nt1, .int ng1, .long mg1, .int ex1])), (s2, .inr (1, [.int p0, .ref w2])), (w2, .inl (cL, N0, .inr (.inl f2))), (s3, .inr (1, [.int p0, .ref w3])), (w3, .inl (cL, N0, .inr (.inl f3)))] U.heap ∧ va_K (dC, dI) tqCl [(cL, .long)] U ∧ va_D (fun _ => True) [(th, .inr (2, [.int size, .ref sa, .ref s2, .ref s3, .ref o0, .ref o1])), (o0, .inr (0, [.int nt0, .int ng0, .long mg0, .int ex0])), (o1, .inr (0, [.int nt1, .int ng1, .long mg1, .int ex1])), (s2, .inr (1, [.int p0, .ref w2])), (w2, .inl (cL, N0, .inr (.inl f2))), (s3, .inr (1, [.int p0, .ref w3])), (w3, .inl (cL, N0, .inr (.inl f3)))] ∧ tqN U)) (va_Qi (fun (a : Int32) (_ : Unit) => a = r.1) (fun (_ : Unit) (t : State) => va_P (dC, dI) tqCl [(th, .inr (2, [.int size, .ref sa, .ref s2, .ref s3, .ref o0, .ref o1])), (o0, .inr (0, [.int r.2.1, .int r.2.2.1, .long r.2.2.2.1, .int r.2.2.2.2.1])), (o1, .inr (0, [.int r.2.2.2.2.2.1, .int r.2.2.2.2.2.2.1, .long r.2.2.2.2.2.2.2.1, .int r.2.2.2.2.2.2.2.2.1])), (s2, .inr (1, [.int p0, .ref w2])), (w2, .inl (cL, N0, .inr (.inl r.2.2.2.2.2.2.2.2.2.1))), (s3, .inr (1, [.int p0, .ref w3])), (w3, .inl (cL, N0, .inr (.inl r.2.2.2.2.2.2.2.2.2.2)))] t.heap ∧ va_K (dC, dI) tqCl [(cL, .long)] t ∧ va_D (va_A [(th, .inr (2, [.int size, .ref sa, .ref s2, .ref s3, .ref o0, .ref o1])), (o0, .inr (0, [.int nt0, .int ng0, .long mg0, .int ex0])), (o1, .inr (0, [.int nt1, .int ng1, .long mg1, .int ex1])), (s2, .inr (1, [.int p0, .ref w2])), (w2, .inl (cL, N0, .inr (.inl f2))), (s3, .inr (1, [.int p0, .ref w3])), (w3, .inl (cL, N0, .inr (.inl f3)))] sz) [(th, .inr (2, [.int size, .ref sa, .ref s2, .ref s3, .ref o0, .ref o1])), (o0, .inr (0, [.int r.2.1, .int r.2.2.1, .long r.2.2.2.1, .int r.2.2.2.2.1])), (o1, .inr (0, [.int r.2.2.2.2.2.1, .int r.2.2.2.2.2.2.1, .long r.2.2.2.2.2.2.2.1, .int r.2.2.2.2.2.2.2.2.1])), (s2, .inr (1, [.int p0, .ref w2])), (w2, .inl (cL, N0, .inr (.inl r.2.2.2.2.2.2.2.2.2.1))), (s3, .inr (1, [.int p0, .ref w3])), (w3, .inl (cL, N0, .inr (.inl r.2.2.2.2.2.2.2.2.2.2)))]) (va_A [(th, .inr (2, [.int size, .ref sa, .ref s2, .ref s3, .ref o0, .ref o1])), (o0, .inr (0, [.int nt0, .int ng0, .long mg0, .int ex0])), (o1, .inr (0, [.int nt1, .int ng1, .long mg1, .int ex1])), (s2, .inr (1, [.int p0, .ref w2])), (w2, .inl (cL, N0, .inr (.inl f2))), (s3, .inr (1, [.int p0, .ref w3])), (w3, .inl (cL, N0, .inr (.inl f3)))] sz)) 0 0 (va_A [(th, .inr (2, [.int size, .ref sa, .ref s2, .ref s3, .ref o0, .ref o1])), (o0, .inr (0, [.int nt0, .int ng0, .long mg0, .int ex0])), (o1, .inr (0, [.int nt1, .int ng1, .long mg1, .int ex1])), (s2, .inr (1, [.int p0, .ref w2])), (w2, .inl (cL, N0, .inr (.inl f2))), (s3, .inr (1, [.int p0, .ref w3])), (w3, .inl (cL, N0, .inr (.inl f3)))] sz) := by
  refine Met.ofW (cc := cX2_multiply) (maxL := 3) (ret := (some .int)) (by decide) rfl ?_
  intro p e s m args below meth c s₁ B hml hv
  obtain ⟨rfl, hsz, hP, hK, hD0, hN⟩ := hv
  have hx := B.exec
  have hb := B.bytes
  have hr := B.returns
  have hts := atoms_spec (ws := tqw_X2_multiply) B.pre
  have hww : ∀ w ∈ tqW, w.before _ s = true := fun w h => hts w (List.mem_cons_of_mem _ h)
  have hown : s.vm.findClass RX2 = some m.cls := findClass_of_methodNamed B.named
  have hlocks := B.notSynchronized
  subst hsz
  have hD := hD0.self (sz := s.heap.size)
  generalize hAe : va_A [(th, .inr (2, [.int size, .ref sa, .ref s2, .ref s3, .ref o0, .ref o1])), (o0, .inr (0, [.int nt0, .int ng0, .long mg0, .int ex0])), (o1, .inr (0, [.int nt1, .int ng1, .long mg1, .int ex1])), (s2, .inr (1, [.int p0, .ref w2])), (w2, .inl (cL, N0, .inr (.inl f2))), (s3, .inr (1, [.int p0, .ref w3])), (w3, .inl (cL, N0, .inr (.inl f3)))] s.heap.size = A at hD ⊢
  have hA : ∀ q : Nat, s.heap.size ≤ q → A q := fun q h => by rw [← hAe]; exact Or.inr h
  have hS : va_S A s.heap s.heap [] := va_S.rf
  have hP : va_P (dC, dI) tqCl [(th, .inr (2, [.int size, .ref sa, .ref s2, .ref s3, .ref o0, .ref o1])), (o0, .inr (0, [.int nt0, .int ng0, .long mg0, .int ex0])), (o1, .inr (0, [.int nt1, .int ng1, .long mg1, .int ex1])), (s2, .inr (1, [.int p0, .ref w2])), (w2, .inl (cL, N0, .inr (.inl f2))), (s3, .inr (1, [.int p0, .ref w3])), (w3, .inl (cL, N0, .inr (.inl f3)))] s.heap := hP
  have hl := lv_entry ([.ref th, .int x, .int y]) (n := 3) (Nat.le_of_ble_eq_true rfl)
  rw [lg_entry_eq]
  generalize (lg_sl ([.ref th, .int x, .int y]) ++ List.replicate (3 - (lg_sl ([.ref th, .int x, .int y])).length) Slot.unset).toArray = ls at hl ⊢
  have hl : lv_has ls 3 [(0, .ref th), (1, .int x), (2, .int y)] := hl
  unfold f_multiply at hf
  refine lv_aload_n hx hb dX2_multiply_0 rfl (lv_at hl 0 rfl) ?_
  refine lv_iload_n hx hb dX2_multiply_1 rfl (lv_at hl 1 rfl) ?_
  refine lv_iload_n hx hb dX2_multiply_2 rfl (lv_at hl 2 rfl) ?_
  refine lv_iconst (v := 0) hx hb dX2_multiply_3 (by decide) ?_
  obtain ⟨u, hu, hf⟩ := tq_bd_some hf
  obtain ⟨r1, nt02, ng03, mg04, ex05, nt16, ng17, mg18, ex19, f210, f311⟩ := u
  have hf := tq_nm_at (z := r1) rfl hf
  have hf := tq_nm_at (z := nt02) rfl hf
  have hf := tq_nm_at (z := ng03) rfl hf
  have hf := tq_nm_at (z := mg04) rfl hf
  have hf := tq_nm_at (z := ex05) rfl hf
  have hf := tq_nm_at (z := nt16) rfl hf
  have hf := tq_nm_at (z := ng17) rfl hf
  have hf := tq_nm_at (z := mg18) rfl hf
  have hf := tq_nm_at (z := ex19) rfl hf
  have hf := tq_nm_at (z := f210) rfl hf
  have hf := tq_nm_at (z := f311) rfl hf
  have hPc := hP.sub (ws' := [(th, .inr (2, [.int size, .ref sa, .ref s2, .ref s3, .ref o0, .ref o1])), (o0, .inr (0, [.int nt0, .int ng0, .long mg0, .int ex0])), (o1, .inr (0, [.int nt1, .int ng1, .long mg1, .int ex1])), (s2, .inr (1, [.int p0, .ref w2])), (w2, .inl (cL, N0, .inr (.inl f2))), (s3, .inr (1, [.int p0, .ref w3])), (w3, .inl (cL, N0, .inr (.inl f3)))]) [0, 1, 2, 3, 4, 5, 6] rfl
  have hDc := hD.sub (ws' := [(th, .inr (2, [.int size, .ref sa, .ref s2, .ref s3, .ref o0, .ref o1])), (o0, .inr (0, [.int nt0, .int ng0, .long mg0, .int ex0])), (o1, .inr (0, [.int nt1, .int ng1, .long mg1, .int ex1])), (s2, .inr (1, [.int p0, .ref w2])), (w2, .inl (cL, N0, .inr (.inl f2))), (s3, .inr (1, [.int p0, .ref w3])), (w3, .inl (cL, N0, .inr (.inl f3)))]) [0, 1, 2, 3, 4, 5, 6] (by decide) rfl
  have hKc := hK.sub (tys' := [(cL, .long)]) [0] rfl
  have hFc := va_free (wc := [(th, .inr (2, [.int size, .ref sa, .ref s2, .ref s3, .ref o0, .ref o1])), (o0, .inr (0, [.int nt0, .int ng0, .long mg0, .int ex0])), (o1, .inr (0, [.int nt1, .int ng1, .long mg1, .int ex1])), (s2, .inr (1, [.int p0, .ref w2])), (w2, .inl (cL, N0, .inr (.inl f2))), (s3, .inr (1, [.int p0, .ref w3])), (w3, .inl (cL, N0, .inr (.inl f3)))]) hD hS hA [0, 1, 2, 3, 4, 5, 6] rfl
  refine va_calli (va_runV (As := [.int x, .int y, .int (0 : Int32)]) (rest := []) ⟨hx, hb, hml, hown, hww⟩ (c_f_fused l dC dI th sa s2 s3 o0 o1 w2 w3 cL s.heap.size x y (0 : Int32) size nt0 ng0 mg0 ex0 nt1 ng1 mg1 ex1 p0 N0 f2 f3 (r1, nt02, ng03, mg04, ex05, nt16, ng17, mg18, ex19, f210, f311) hu) (cwV 3 hww (tq_gV tqt_125 tqt_126 tqt_127 tqt_32 tqt_128) rfl rfl rfl (by decide +kernel) ⟨Nat.le_of_ble_eq_true rfl, Nat.le_of_ble_eq_true rfl⟩) ⟨fun a U g mk q => by obtain ⟨q0, q1, qP, qK, qD, qN⟩ := q; exact ⟨q0, q1, qP, va_K.moved (u := U) (U := U.calling g mk a) (Vm.Alike.refl U.vm) qK, qD, tqN_same (u := U) (U := U.calling g mk a) rfl qN⟩, va_recv hK hP (ci := 2) rfl (q0 := 0) rfl, fun U hU hW => ⟨rfl, by rw [hU], by rw [hU]; exact hPc, va_K.moved hW.alike hKc, hDc.weaken (fun _ _ _ _ => trivial), tqN_warm hW hN⟩⟩ rfl rfl hl.1 rfl (lv_room (Nat.le_of_ble_eq_true rfl)) dX2_multiply_4 ⟨Nat.zero_le _, Nat.zero_le _⟩) hS (fun q _ h => hFc q h) hFc (fun ra u0 t H1 locs ht hvm hpost hB hz1 hk1 hS => ?_)
  have hpost : r1 = ra := (show ra = r1 from hpost).symm
  subst hpost
  obtain ⟨hP1, hK1, hD1⟩ := hB
  rw [ht] at hP1
  obtain ⟨hP, hD⟩ := va_join (wr := []) (w1 := [(th, .inr (2, [.int size, .ref sa, .ref s2, .ref s3, .ref o0, .ref o1])), (o0, .inr (0, [.int nt02, .int ng03, .long mg04, .int ex05])), (o1, .inr (0, [.int nt16, .int ng17, .long mg18, .int ex19])), (s2, .inr (1, [.int p0, .ref w2])), (w2, .inl (cL, N0, .inr (.inl f210))), (s3, .inr (1, [.int p0, .ref w3])), (w3, .inl (cL, N0, .inr (.inl f311)))]) hP hD [0, 1, 2, 3, 4, 5, 6] [] rfl rfl (by decide) (by decide) hk1 hFc hP1 hD1
  generalize H1 = H at hP hS ⊢
  have hP := hP.sub (ws' := [(th, .inr (2, [.int size, .ref sa, .ref s2, .ref s3, .ref o0, .ref o1])), (o0, .inr (0, [.int nt02, .int ng03, .long mg04, .int ex05])), (o1, .inr (0, [.int nt16, .int ng17, .long mg18, .int ex19])), (s2, .inr (1, [.int p0, .ref w2])), (w2, .inl (cL, N0, .inr (.inl f210))), (s3, .inr (1, [.int p0, .ref w3])), (w3, .inl (cL, N0, .inr (.inl f311)))]) [0, 1, 2, 3, 4, 5, 6] rfl
  have hD := hD.sub (ws' := [(th, .inr (2, [.int size, .ref sa, .ref s2, .ref s3, .ref o0, .ref o1])), (o0, .inr (0, [.int nt02, .int ng03, .long mg04, .int ex05])), (o1, .inr (0, [.int nt16, .int ng17, .long mg18, .int ex19])), (s2, .inr (1, [.int p0, .ref w2])), (w2, .inl (cL, N0, .inr (.inl f210))), (s3, .inr (1, [.int p0, .ref w3])), (w3, .inl (cL, N0, .inr (.inl f311)))]) [0, 1, 2, 3, 4, 5, 6] (by decide) rfl
  have hf := Option.some.inj hf
  subst hf
  exact W.iret (v := r1) hx hb hr (fun t ht hW => ⟨⟨r1, (), rfl, rfl, by rw [ht]; exact hP, va_K.moved hW.alike hK, hD⟩, hS.F ht⟩) hS.2.2 dX2_multiply_7
set_option maxHeartbeats 4000000 in
set_option maxRecDepth 100000 in
theorem c_f_clear (l : Launch) (dC : Nat → ClassId) (dI : Nat → Nat → Nat) (th : Nat) (sa : Nat) (s2 : Nat) (s3 : Nat) (o0 : Nat) (o1 : Nat) (s0 : Nat) (s1 : Nat) (w0 : Nat) (w1 : Nat) (cL : ClassId) (cA : ClassId) (sz : Nat) (q : Int32) (size : Int32) (p0 : Int32) (N0 : Nat) (f0 : Nat → Int64) (f1 : Nat → Int64) (r : Int32 × (Nat → Int64) × (Nat → Int64)) (hf : f_clear p0 N0 f0 f1 q = some r) : Met l yX2_clear tqw_X2_clear ({ frames := 1, cells := 0, slots := 0, locals := 21 }) (va_Pc [.ref th, .int q] (fun U => U.heap.size = sz ∧ va_P (dC, dI) tqCl [(th, .inr (2, [.int size, .ref sa, .ref s2, .ref s3, .ref o0, .ref o1])), (sa, .inl (cA, 2, .inr (.inr (.inr (.inr (sref s0 s1)))))), (s0, .inr (1, [.int p0, .ref w0])), (w0, .inl (cL, N0, .inr (.inl f0))), (s1, .inr (1, [.int p0, .ref w1])), (w1, .inl (cL, N0, .inr (.inl f1)))] U.heap ∧ va_K (dC, dI) tqCl [(cL, .long), (cA, .object RX1)] U ∧ va_D (fun _ => True) [(th, .inr (2, [.int size, .ref sa, .ref s2, .ref s3, .ref o0, .ref o1])), (sa, .inl (cA, 2, .inr (.inr (.inr (.inr (sref s0 s1)))))), (s0, .inr (1, [.int p0, .ref w0])), (w0, .inl (cL, N0, .inr (.inl f0))), (s1, .inr (1, [.int p0, .ref w1])), (w1, .inl (cL, N0, .inr (.inl f1)))] ∧ tqN U)) (va_Qi (fun (a : Int32) (_ : Unit) => a = r.1) (fun (_ : Unit) (t : State) => va_P (dC, dI) tqCl [(th, .inr (2, [.int size, .ref sa, .ref s2, .ref s3, .ref o0, .ref o1])), (sa, .inl (cA, 2, .inr (.inr (.inr (.inr (sref s0 s1)))))), (s0, .inr (1, [.int p0, .ref w0])), (w0, .inl (cL, N0, .inr (.inl r.2.1))), (s1, .inr (1, [.int p0, .ref w1])), (w1, .inl (cL, N0, .inr (.inl r.2.2)))] t.heap ∧ va_K (dC, dI) tqCl [(cL, .long), (cA, .object RX1)] t ∧ va_D (va_A [(th, .inr (2, [.int size, .ref sa, .ref s2, .ref s3, .ref o0, .ref o1])), (sa, .inl (cA, 2, .inr (.inr (.inr (.inr (sref s0 s1)))))), (s0, .inr (1, [.int p0, .ref w0])), (w0, .inl (cL, N0, .inr (.inl f0))), (s1, .inr (1, [.int p0, .ref w1])), (w1, .inl (cL, N0, .inr (.inl f1)))] sz) [(th, .inr (2, [.int size, .ref sa, .ref s2, .ref s3, .ref o0, .ref o1])), (sa, .inl (cA, 2, .inr (.inr (.inr (.inr (sref s0 s1)))))), (s0, .inr (1, [.int p0, .ref w0])), (w0, .inl (cL, N0, .inr (.inl r.2.1))), (s1, .inr (1, [.int p0, .ref w1])), (w1, .inl (cL, N0, .inr (.inl r.2.2)))]) (va_A [(th, .inr (2, [.int size, .ref sa, .ref s2, .ref s3, .ref o0, .ref o1])), (sa, .inl (cA, 2, .inr (.inr (.inr (.inr (sref s0 s1)))))), (s0, .inr (1, [.int p0, .ref w0])), (w0, .inl (cL, N0, .inr (.inl f0))), (s1, .inr (1, [.int p0, .ref w1])), (w1, .inl (cL, N0, .inr (.inl f1)))] sz)) 0 0 (va_A [(th, .inr (2, [.int size, .ref sa, .ref s2, .ref s3, .ref o0, .ref o1])), (sa, .inl (cA, 2, .inr (.inr (.inr (.inr (sref s0 s1)))))), (s0, .inr (1, [.int p0, .ref w0])), (w0, .inl (cL, N0, .inr (.inl f0))), (s1, .inr (1, [.int p0, .ref w1])), (w1, .inl (cL, N0, .inr (.inl f1)))] sz) := by
  refine Met.ofW (cc := cX2_clear) (maxL := 2) (ret := (some .boolean)) (by decide) rfl ?_
  intro p e s m args below meth c s₁ B hml hv
  obtain ⟨rfl, hsz, hP, hK, hD0, hN⟩ := hv
  have hx := B.exec
  have hb := B.bytes
  have hr := B.returns
  have hts := atoms_spec (ws := tqw_X2_clear) B.pre
  have hww : ∀ w ∈ tqW, w.before _ s = true := fun w h => hts w (List.mem_cons_of_mem _ h)
  have hown : s.vm.findClass RX2 = some m.cls := findClass_of_methodNamed B.named
  have hlocks := B.notSynchronized
  subst hsz
  have hD := hD0.self (sz := s.heap.size)
  generalize hAe : va_A [(th, .inr (2, [.int size, .ref sa, .ref s2, .ref s3, .ref o0, .ref o1])), (sa, .inl (cA, 2, .inr (.inr (.inr (.inr (sref s0 s1)))))), (s0, .inr (1, [.int p0, .ref w0])), (w0, .inl (cL, N0, .inr (.inl f0))), (s1, .inr (1, [.int p0, .ref w1])), (w1, .inl (cL, N0, .inr (.inl f1)))] s.heap.size = A at hD ⊢
  have hA : ∀ q : Nat, s.heap.size ≤ q → A q := fun q h => by rw [← hAe]; exact Or.inr h
  have hS : va_S A s.heap s.heap [] := va_S.rf
  have hP : va_P (dC, dI) tqCl [(th, .inr (2, [.int size, .ref sa, .ref s2, .ref s3, .ref o0, .ref o1])), (sa, .inl (cA, 2, .inr (.inr (.inr (.inr (sref s0 s1)))))), (s0, .inr (1, [.int p0, .ref w0])), (w0, .inl (cL, N0, .inr (.inl f0))), (s1, .inr (1, [.int p0, .ref w1])), (w1, .inl (cL, N0, .inr (.inl f1)))] s.heap := hP
  have hl := lv_entry ([.ref th, .int q]) (n := 2) (Nat.le_of_ble_eq_true rfl)
  rw [lg_entry_eq]
  generalize (lg_sl ([.ref th, .int q]) ++ List.replicate (2 - (lg_sl ([.ref th, .int q])).length) Slot.unset).toArray = ls at hl ⊢
  have hl : lv_has ls 2 [(0, .ref th), (1, .int q)] := hl
  unfold f_clear at hf
  refine lv_iload_n hx hb dX2_clear_0 rfl (lv_at hl 1 rfl) ?_
  have hPc := hP.sub (ws' := []) [] rfl
  have hDc := hD.sub (ws' := []) [] (by decide) rfl
  have hKc := hK.sub (tys' := []) [] rfl
  have hFc := va_free (wc := []) hD hS hA [] rfl
  refine va_calli (va_runS (As := [.int q]) (rest := []) ⟨hx, hb, hml, hown, hww⟩ (c_f_isSum l dC dI s.heap.size q (f_isSum q) rfl) (va_cwS 1 hww (tq_gS tqt_290 tqt_291 tqt_32 tqt_292) rfl rfl rfl (by decide +kernel) ⟨Nat.le_of_ble_eq_true rfl, Nat.le_of_ble_eq_true rfl⟩) ⟨fun a U g mk q => by obtain ⟨q0, q1, qP, qK, qD, qN⟩ := q; exact ⟨q0, q1, qP, va_K.moved (u := U) (U := U.calling g mk a) (Vm.Alike.refl U.vm) qK, qD, tqN_same (u := U) (U := U.calling g mk a) rfl qN⟩, fun U hU hW => ⟨rfl, by rw [hU], by rw [hU]; exact hPc, va_K.moved hW.alike hKc, hDc.weaken (fun _ _ _ _ => trivial), tqN_warm hW hN⟩⟩ rfl rfl hl.1 rfl (lv_room (Nat.le_of_ble_eq_true rfl)) dX2_clear_1 ⟨Nat.zero_le _, Nat.zero_le _⟩) hS (fun q _ h => hFc q h) hFc (fun ra u0 t H1 locs ht hvm hpost hB hz1 hk1 hS => ?_)
  have hpost : (f_isSum q) = ra := (show ra = (f_isSum q) from hpost).symm
  subst hpost
  obtain ⟨hP1, hK1, hD1⟩ := hB
  rw [ht] at hP1
  obtain ⟨hP, hD⟩ := va_join (wr := [(th, .inr (2, [.int size, .ref sa, .ref s2, .ref s3, .ref o0, .ref o1])), (sa, .inl (cA, 2, .inr (.inr (.inr (.inr (sref s0 s1)))))), (s0, .inr (1, [.int p0, .ref w0])), (w0, .inl (cL, N0, .inr (.inl f0))), (s1, .inr (1, [.int p0, .ref w1])), (w1, .inl (cL, N0, .inr (.inl f1)))]) (w1 := []) hP hD [] [0, 1, 2, 3, 4, 5] rfl rfl (by decide) (by decide) hk1 hFc hP1 hD1
  generalize H1 = H at hP hS ⊢
  have hP := hP.sub (ws' := [(th, .inr (2, [.int size, .ref sa, .ref s2, .ref s3, .ref o0, .ref o1])), (sa, .inl (cA, 2, .inr (.inr (.inr (.inr (sref s0 s1)))))), (s0, .inr (1, [.int p0, .ref w0])), (w0, .inl (cL, N0, .inr (.inl f0))), (s1, .inr (1, [.int p0, .ref w1])), (w1, .inl (cL, N0, .inr (.inl f1)))]) [0, 1, 2, 3, 4, 5] rfl
  have hD := hD.sub (ws' := [(th, .inr (2, [.int size, .ref sa, .ref s2, .ref s3, .ref o0, .ref o1])), (sa, .inl (cA, 2, .inr (.inr (.inr (.inr (sref s0 s1)))))), (s0, .inr (1, [.int p0, .ref w0])), (w0, .inl (cL, N0, .inr (.inl f0))), (s1, .inr (1, [.int p0, .ref w1])), (w1, .inl (cL, N0, .inr (.inl f1)))]) [0, 1, 2, 3, 4, 5] (by decide) rfl
  refine lv_if_ne hx hb dX2_clear_4 rfl (fun h2 => ?_) (fun h2 => ?_)
  · rw [if_pos h2] at hf
    refine lv_aload_n hx hb dX2_clear_9 rfl (lv_at hl 0 rfl) ?_
    refine va_get (D := (dC, dI)) (ci := 2) (v := .ref sa) (C := RX2) (T := TX2) (N := 6) hx hb hww tqinX2 hown hK hP 0 rfl rfl 1 (by decide) (hww _ tqt_95) (fun _ h9 => h9) rfl dX2_clear_10 ?_
    refine lv_iload_n hx hb dX2_clear_13 rfl (lv_at hl 1 rfl) ?_
    by_cases h3 : q = 0
    · rw [if_pos h3] at hf
      subst h3
      refine va_aldq hx hb hK hP 1 1 rfl rfl (by unfold vp_in; decide) dX2_clear_14 ?_
      show W _ _ _ _ _ _ _ _ _ _ _ _ _ _ _ (F0 _ _ _ (.ref s0 :: _))
      obtain ⟨f04, hu, hf⟩ := tq_bd_some hf
      have hPc := hP.sub (ws' := [(s0, .inr (1, [.int p0, .ref w0])), (w0, .inl (cL, N0, .inr (.inl f0)))]) [2, 3] rfl
      have hDc := hD.sub (ws' := [(s0, .inr (1, [.int p0, .ref w0])), (w0, .inl (cL, N0, .inr (.inl f0)))]) [2, 3] (by decide) rfl
      have hKc := hK.sub (tys' := [(cL, .long)]) [0] rfl
      have hFc := va_free (wc := [(s0, .inr (1, [.int p0, .ref w0])), (w0, .inl (cL, N0, .inr (.inl f0)))]) hD hS hA [2, 3] rfl
      refine va_callv (va_runV (As := []) (rest := []) ⟨hx, hb, hml, hown, hww⟩ (c_f_setZero l dC dI s0 w0 cL H.size p0 N0 f0 f04 hu) (cwV 0 hww (tq_gV tqt_293 tqt_171 tqt_172 tqt_33 tqt_173) rfl rfl rfl (by decide +kernel) ⟨Nat.le_of_ble_eq_true rfl, Nat.le_of_ble_eq_true rfl⟩) ⟨fun a U g mk q => by obtain ⟨q0, q1, qP, qK, qD, qN⟩ := q; exact ⟨q0, q1, qP, va_K.moved (u := U) (U := U.calling g mk a) (Vm.Alike.refl U.vm) qK, qD, tqN_same (u := U) (U := U.calling g mk a) rfl qN⟩, va_recv hK hP (ci := 1) rfl (q0 := 2) rfl, fun U hU hW => ⟨rfl, by rw [hU], by rw [hU]; exact hPc, va_K.moved hW.alike hKc, hDc.weaken (fun _ _ _ _ => trivial), tqN_warm hW hN⟩⟩ rfl rfl hl.1 rfl (lv_room (Nat.le_of_ble_eq_true rfl)) dX2_clear_15 ⟨Nat.zero_le _, Nat.zero_le _⟩) hS (fun q _ h => hFc q h) hFc (fun u0 t H1 locs ht hvm hpost hB hz1 hk1 hS => ?_)
      obtain ⟨hP1, hK1, hD1⟩ := hB
      rw [ht] at hP1
      obtain ⟨hP, hD⟩ := va_join (wr := [(th, .inr (2, [.int size, .ref sa, .ref s2, .ref s3, .ref o0, .ref o1])), (sa, .inl (cA, 2, .inr (.inr (.inr (.inr (sref s0 s1)))))), (s1, .inr (1, [.int p0, .ref w1])), (w1, .inl (cL, N0, .inr (.inl f1)))]) (w1 := [(s0, .inr (1, [.int p0, .ref w0])), (w0, .inl (cL, N0, .inr (.inl f04)))]) hP hD [2, 3] [0, 1, 4, 5] rfl rfl (by decide) (by decide) hk1 hFc hP1 hD1
      generalize H1 = H at hP hS ⊢
      have hP := hP.sub (ws' := [(th, .inr (2, [.int size, .ref sa, .ref s2, .ref s3, .ref o0, .ref o1])), (sa, .inl (cA, 2, .inr (.inr (.inr (.inr (sref s0 s1)))))), (s0, .inr (1, [.int p0, .ref w0])), (w0, .inl (cL, N0, .inr (.inl f04))), (s1, .inr (1, [.int p0, .ref w1])), (w1, .inl (cL, N0, .inr (.inl f1)))]) [0, 1, 4, 5, 2, 3] rfl
      have hD := hD.sub (ws' := [(th, .inr (2, [.int size, .ref sa, .ref s2, .ref s3, .ref o0, .ref o1])), (sa, .inl (cA, 2, .inr (.inr (.inr (.inr (sref s0 s1)))))), (s0, .inr (1, [.int p0, .ref w0])), (w0, .inl (cL, N0, .inr (.inl f04))), (s1, .inr (1, [.int p0, .ref w1])), (w1, .inl (cL, N0, .inr (.inl f1)))]) [0, 1, 4, 5, 2, 3] (by decide) rfl
      refine lv_iconst (v := 1) hx hb dX2_clear_18 (by decide) ?_
      have hf := Option.some.inj hf
      subst hf
      exact W.zret (v := (1 : Int32)) hx hb hr (tq_nb_bool (by decide)) (fun t ht hW => ⟨⟨(1 : Int32), (), rfl, rfl, by rw [ht]; exact hP, va_K.moved hW.alike hK, hD⟩, hS.F ht⟩) hS.2.2 dX2_clear_19
    · rw [if_neg h3] at hf
      by_cases h5 : q = 1
      · rw [if_pos h5] at hf
        subst h5
        refine va_aldq hx hb hK hP 1 1 rfl rfl (by unfold vp_in; decide) dX2_clear_14 ?_
        show W _ _ _ _ _ _ _ _ _ _ _ _ _ _ _ (F0 _ _ _ (.ref s1 :: _))
        obtain ⟨f06, hu, hf⟩ := tq_bd_some hf
        have hPc := hP.sub (ws' := [(s1, .inr (1, [.int p0, .ref w1])), (w1, .inl (cL, N0, .inr (.inl f1)))]) [4, 5] rfl
        have hDc := hD.sub (ws' := [(s1, .inr (1, [.int p0, .ref w1])), (w1, .inl (cL, N0, .inr (.inl f1)))]) [4, 5] (by decide) rfl
        have hKc := hK.sub (tys' := [(cL, .long)]) [0] rfl
        have hFc := va_free (wc := [(s1, .inr (1, [.int p0, .ref w1])), (w1, .inl (cL, N0, .inr (.inl f1)))]) hD hS hA [4, 5] rfl
        refine va_callv (va_runV (As := []) (rest := []) ⟨hx, hb, hml, hown, hww⟩ (c_f_setZero l dC dI s1 w1 cL H.size p0 N0 f1 f06 hu) (cwV 0 hww (tq_gV tqt_293 tqt_171 tqt_172 tqt_33 tqt_173) rfl rfl rfl (by decide +kernel) ⟨Nat.le_of_ble_eq_true rfl, Nat.le_of_ble_eq_true rfl⟩) ⟨fun a U g mk q => by obtain ⟨q0, q1, qP, qK, qD, qN⟩ := q; exact ⟨q0, q1, qP, va_K.moved (u := U) (U := U.calling g mk a) (Vm.Alike.refl U.vm) qK, qD, tqN_same (u := U) (U := U.calling g mk a) rfl qN⟩, va_recv hK hP (ci := 1) rfl (q0 := 4) rfl, fun U hU hW => ⟨rfl, by rw [hU], by rw [hU]; exact hPc, va_K.moved hW.alike hKc, hDc.weaken (fun _ _ _ _ => trivial), tqN_warm hW hN⟩⟩ rfl rfl hl.1 rfl (lv_room (Nat.le_of_ble_eq_true rfl)) dX2_clear_15 ⟨Nat.zero_le _, Nat.zero_le _⟩) hS (fun q _ h => hFc q h) hFc (fun u0 t H1 locs ht hvm hpost hB hz1 hk1 hS => ?_)
        obtain ⟨hP1, hK1, hD1⟩ := hB
        rw [ht] at hP1
        obtain ⟨hP, hD⟩ := va_join (wr := [(th, .inr (2, [.int size, .ref sa, .ref s2, .ref s3, .ref o0, .ref o1])), (sa, .inl (cA, 2, .inr (.inr (.inr (.inr (sref s0 s1)))))), (s0, .inr (1, [.int p0, .ref w0])), (w0, .inl (cL, N0, .inr (.inl f0)))]) (w1 := [(s1, .inr (1, [.int p0, .ref w1])), (w1, .inl (cL, N0, .inr (.inl f06)))]) hP hD [4, 5] [0, 1, 2, 3] rfl rfl (by decide) (by decide) hk1 hFc hP1 hD1
        generalize H1 = H at hP hS ⊢
        have hP := hP.sub (ws' := [(th, .inr (2, [.int size, .ref sa, .ref s2, .ref s3, .ref o0, .ref o1])), (sa, .inl (cA, 2, .inr (.inr (.inr (.inr (sref s0 s1)))))), (s0, .inr (1, [.int p0, .ref w0])), (w0, .inl (cL, N0, .inr (.inl f0))), (s1, .inr (1, [.int p0, .ref w1])), (w1, .inl (cL, N0, .inr (.inl f06)))]) [0, 1, 2, 3, 4, 5] rfl
        have hD := hD.sub (ws' := [(th, .inr (2, [.int size, .ref sa, .ref s2, .ref s3, .ref o0, .ref o1])), (sa, .inl (cA, 2, .inr (.inr (.inr (.inr (sref s0 s1)))))), (s0, .inr (1, [.int p0, .ref w0])), (w0, .inl (cL, N0, .inr (.inl f0))), (s1, .inr (1, [.int p0, .ref w1])), (w1, .inl (cL, N0, .inr (.inl f06)))]) [0, 1, 2, 3, 4, 5] (by decide) rfl
        refine lv_iconst (v := 1) hx hb dX2_clear_18 (by decide) ?_
        have hf := Option.some.inj hf
        subst hf
        exact W.zret (v := (1 : Int32)) hx hb hr (tq_nb_bool (by decide)) (fun t ht hW => ⟨⟨(1 : Int32), (), rfl, rfl, by rw [ht]; exact hP, va_K.moved hW.alike hK, hD⟩, hS.F ht⟩) hS.2.2 dX2_clear_19
      · rw [if_neg h5] at hf
        cases hf
  · rw [if_neg (fun q : ¬ (f_isSum q) = 0 => q h2)] at hf
    refine lv_iconst (v := 0) hx hb dX2_clear_7 (by decide) ?_
    have hf := Option.some.inj hf
    subst hf
    exact W.zret (v := (0 : Int32)) hx hb hr (tq_nb_bool (by decide)) (fun t ht hW => ⟨⟨(0 : Int32), (), rfl, rfl, by rw [ht]; exact hP, va_K.moved hW.alike hK, hD⟩, hS.F ht⟩) hS.2.2 dX2_clear_8
set_option maxHeartbeats 4000000 in
set_option maxRecDepth 100000 in
theorem c_f_merge (l : Launch) (dC : Nat → ClassId) (dI : Nat → Nat → Nat) (th : Nat) (sa : Nat) (s2 : Nat) (s3 : Nat) (o0 : Nat) (o1 : Nat) (s0 : Nat) (s1 : Nat) (w0 : Nat) (w1 : Nat) (cL : ClassId) (cA : ClassId) (sz : Nat) (q : Int32) (size : Int32) (p0 : Int32) (N0 : Nat) (f0 : Nat → Int64) (f1 : Nat → Int64) (r : Int32 × (Nat → Int64) × (Nat → Int64)) (hf : f_merge p0 N0 f0 f1 q = some r) : Met l yX2_merge tqw_X2_merge ({ frames := 4, cells := 0, slots := 0, locals := 95 }) (va_Pc [.ref th, .int q] (fun U => U.heap.size = sz ∧ va_P (dC, dI) tqCl [(th, .inr (2, [.int size, .ref sa, .ref s2, .ref s3, .ref o0, .ref o1])), (sa, .inl (cA, 2, .inr (.inr (.inr (.inr (sref s0 s1)))))), (s0, .inr (1, [.int p0, .ref w0])), (w0, .inl (cL, N0, .inr (.inl f0))), (s1, .inr (1, [.int p0, .ref w1])), (w1, .inl (cL, N0, .inr (.inl f1)))] U.heap ∧ va_K (dC, dI) tqCl [(cL, .long), (cA, .object RX1)] U ∧ va_D (fun _ => True) [(th, .inr (2, [.int size, .ref sa, .ref s2, .ref s3, .ref o0, .ref o1])), (sa, .inl (cA, 2, .inr (.inr (.inr (.inr (sref s0 s1)))))), (s0, .inr (1, [.int p0, .ref w0])), (w0, .inl (cL, N0, .inr (.inl f0))), (s1, .inr (1, [.int p0, .ref w1])), (w1, .inl (cL, N0, .inr (.inl f1)))] ∧ tqN U)) (va_Qi (fun (a : Int32) (_ : Unit) => a = r.1) (fun (_ : Unit) (t : State) => va_P (dC, dI) tqCl [(th, .inr (2, [.int size, .ref sa, .ref s2, .ref s3, .ref o0, .ref o1])), (sa, .inl (cA, 2, .inr (.inr (.inr (.inr (sref s0 s1)))))), (s0, .inr (1, [.int p0, .ref w0])), (w0, .inl (cL, N0, .inr (.inl r.2.1))), (s1, .inr (1, [.int p0, .ref w1])), (w1, .inl (cL, N0, .inr (.inl r.2.2)))] t.heap ∧ va_K (dC, dI) tqCl [(cL, .long), (cA, .object RX1)] t ∧ va_D (va_A [(th, .inr (2, [.int size, .ref sa, .ref s2, .ref s3, .ref o0, .ref o1])), (sa, .inl (cA, 2, .inr (.inr (.inr (.inr (sref s0 s1)))))), (s0, .inr (1, [.int p0, .ref w0])), (w0, .inl (cL, N0, .inr (.inl f0))), (s1, .inr (1, [.int p0, .ref w1])), (w1, .inl (cL, N0, .inr (.inl f1)))] sz) [(th, .inr (2, [.int size, .ref sa, .ref s2, .ref s3, .ref o0, .ref o1])), (sa, .inl (cA, 2, .inr (.inr (.inr (.inr (sref s0 s1)))))), (s0, .inr (1, [.int p0, .ref w0])), (w0, .inl (cL, N0, .inr (.inl r.2.1))), (s1, .inr (1, [.int p0, .ref w1])), (w1, .inl (cL, N0, .inr (.inl r.2.2)))]) (va_A [(th, .inr (2, [.int size, .ref sa, .ref s2, .ref s3, .ref o0, .ref o1])), (sa, .inl (cA, 2, .inr (.inr (.inr (.inr (sref s0 s1)))))), (s0, .inr (1, [.int p0, .ref w0])), (w0, .inl (cL, N0, .inr (.inl f0))), (s1, .inr (1, [.int p0, .ref w1])), (w1, .inl (cL, N0, .inr (.inl f1)))] sz)) 0 0 (va_A [(th, .inr (2, [.int size, .ref sa, .ref s2, .ref s3, .ref o0, .ref o1])), (sa, .inl (cA, 2, .inr (.inr (.inr (.inr (sref s0 s1)))))), (s0, .inr (1, [.int p0, .ref w0])), (w0, .inl (cL, N0, .inr (.inl f0))), (s1, .inr (1, [.int p0, .ref w1])), (w1, .inl (cL, N0, .inr (.inl f1)))] sz) := by
  refine Met.ofW (cc := cX2_merge) (maxL := 2) (ret := (some .boolean)) (by decide) rfl ?_
  intro p e s m args below meth c s₁ B hml hv
  obtain ⟨rfl, hsz, hP, hK, hD0, hN⟩ := hv
  have hx := B.exec
  have hb := B.bytes
  have hr := B.returns
  have hts := atoms_spec (ws := tqw_X2_merge) B.pre
  have hww : ∀ w ∈ tqW, w.before _ s = true := fun w h => hts w (List.mem_cons_of_mem _ h)
  have hown : s.vm.findClass RX2 = some m.cls := findClass_of_methodNamed B.named
  have hlocks := B.notSynchronized
  subst hsz
  have hD := hD0.self (sz := s.heap.size)
  generalize hAe : va_A [(th, .inr (2, [.int size, .ref sa, .ref s2, .ref s3, .ref o0, .ref o1])), (sa, .inl (cA, 2, .inr (.inr (.inr (.inr (sref s0 s1)))))), (s0, .inr (1, [.int p0, .ref w0])), (w0, .inl (cL, N0, .inr (.inl f0))), (s1, .inr (1, [.int p0, .ref w1])), (w1, .inl (cL, N0, .inr (.inl f1)))] s.heap.size = A at hD ⊢
  have hA : ∀ q : Nat, s.heap.size ≤ q → A q := fun q h => by rw [← hAe]; exact Or.inr h
  have hS : va_S A s.heap s.heap [] := va_S.rf
  have hP : va_P (dC, dI) tqCl [(th, .inr (2, [.int size, .ref sa, .ref s2, .ref s3, .ref o0, .ref o1])), (sa, .inl (cA, 2, .inr (.inr (.inr (.inr (sref s0 s1)))))), (s0, .inr (1, [.int p0, .ref w0])), (w0, .inl (cL, N0, .inr (.inl f0))), (s1, .inr (1, [.int p0, .ref w1])), (w1, .inl (cL, N0, .inr (.inl f1)))] s.heap := hP
  have hl := lv_entry ([.ref th, .int q]) (n := 2) (Nat.le_of_ble_eq_true rfl)
  rw [lg_entry_eq]
  generalize (lg_sl ([.ref th, .int q]) ++ List.replicate (2 - (lg_sl ([.ref th, .int q])).length) Slot.unset).toArray = ls at hl ⊢
  have hl : lv_has ls 2 [(0, .ref th), (1, .int q)] := hl
  unfold f_merge at hf
  refine lv_iload_n hx hb dX2_merge_0 rfl (lv_at hl 1 rfl) ?_
  have hPc := hP.sub (ws' := []) [] rfl
  have hDc := hD.sub (ws' := []) [] (by decide) rfl
  have hKc := hK.sub (tys' := []) [] rfl
  have hFc := va_free (wc := []) hD hS hA [] rfl
  refine va_calli (va_runS (As := [.int q]) (rest := []) ⟨hx, hb, hml, hown, hww⟩ (c_f_isSum l dC dI s.heap.size q (f_isSum q) rfl) (va_cwS 1 hww (tq_gS tqt_290 tqt_291 tqt_32 tqt_292) rfl rfl rfl (by decide +kernel) ⟨Nat.le_of_ble_eq_true rfl, Nat.le_of_ble_eq_true rfl⟩) ⟨fun a U g mk q => by obtain ⟨q0, q1, qP, qK, qD, qN⟩ := q; exact ⟨q0, q1, qP, va_K.moved (u := U) (U := U.calling g mk a) (Vm.Alike.refl U.vm) qK, qD, tqN_same (u := U) (U := U.calling g mk a) rfl qN⟩, fun U hU hW => ⟨rfl, by rw [hU], by rw [hU]; exact hPc, va_K.moved hW.alike hKc, hDc.weaken (fun _ _ _ _ => trivial), tqN_warm hW hN⟩⟩ rfl rfl hl.1 rfl (lv_room (Nat.le_of_ble_eq_true rfl)) dX2_merge_1 ⟨Nat.zero_le _, Nat.zero_le _⟩) hS (fun q _ h => hFc q h) hFc (fun ra u0 t H1 locs ht hvm hpost hB hz1 hk1 hS => ?_)
  have hpost : (f_isSum q) = ra := (show ra = (f_isSum q) from hpost).symm
  subst hpost
  obtain ⟨hP1, hK1, hD1⟩ := hB
  rw [ht] at hP1
  obtain ⟨hP, hD⟩ := va_join (wr := [(th, .inr (2, [.int size, .ref sa, .ref s2, .ref s3, .ref o0, .ref o1])), (sa, .inl (cA, 2, .inr (.inr (.inr (.inr (sref s0 s1)))))), (s0, .inr (1, [.int p0, .ref w0])), (w0, .inl (cL, N0, .inr (.inl f0))), (s1, .inr (1, [.int p0, .ref w1])), (w1, .inl (cL, N0, .inr (.inl f1)))]) (w1 := []) hP hD [] [0, 1, 2, 3, 4, 5] rfl rfl (by decide) (by decide) hk1 hFc hP1 hD1
  generalize H1 = H at hP hS ⊢
  have hP := hP.sub (ws' := [(th, .inr (2, [.int size, .ref sa, .ref s2, .ref s3, .ref o0, .ref o1])), (sa, .inl (cA, 2, .inr (.inr (.inr (.inr (sref s0 s1)))))), (s0, .inr (1, [.int p0, .ref w0])), (w0, .inl (cL, N0, .inr (.inl f0))), (s1, .inr (1, [.int p0, .ref w1])), (w1, .inl (cL, N0, .inr (.inl f1)))]) [0, 1, 2, 3, 4, 5] rfl
  have hD := hD.sub (ws' := [(th, .inr (2, [.int size, .ref sa, .ref s2, .ref s3, .ref o0, .ref o1])), (sa, .inl (cA, 2, .inr (.inr (.inr (.inr (sref s0 s1)))))), (s0, .inr (1, [.int p0, .ref w0])), (w0, .inl (cL, N0, .inr (.inl f0))), (s1, .inr (1, [.int p0, .ref w1])), (w1, .inl (cL, N0, .inr (.inl f1)))]) [0, 1, 2, 3, 4, 5] (by decide) rfl
  refine lv_if_ne hx hb dX2_merge_4 rfl (fun h2 => ?_) (fun h2 => ?_)
  · rw [if_pos h2] at hf
    refine lv_aload_n hx hb dX2_merge_9 rfl (lv_at hl 0 rfl) ?_
    refine va_get (D := (dC, dI)) (ci := 2) (v := .ref sa) (C := RX2) (T := TX2) (N := 6) hx hb hww tqinX2 hown hK hP 0 rfl rfl 1 (by decide) (hww _ tqt_95) (fun _ h9 => h9) rfl dX2_merge_10 ?_
    refine lv_iload_n hx hb dX2_merge_13 rfl (lv_at hl 1 rfl) ?_
    by_cases h3 : q = 0
    · rw [if_pos h3] at hf
      subst h3
      refine va_aldq hx hb hK hP 1 1 rfl rfl (by unfold vp_in; decide) dX2_merge_14 ?_
      show W _ _ _ _ _ _ _ _ _ _ _ _ _ _ _ (F0 _ _ _ (.ref s0 :: _))
      refine lv_aload_n hx hb dX2_merge_15 rfl (lv_at hl 0 rfl) ?_
      refine va_get (D := (dC, dI)) (ci := 2) (v := .ref sa) (C := RX2) (T := TX2) (N := 6) hx hb hww tqinX2 hown hK hP 0 rfl rfl 1 (by decide) (hww _ tqt_95) (fun _ h9 => h9) rfl dX2_merge_16 ?_
      refine lv_iconst (v := 1) hx hb dX2_merge_19 (by decide) ?_
      refine lv_iload_n hx hb dX2_merge_20 rfl (lv_at hl 1 rfl) ?_
      refine lv_isub hx hb dX2_merge_21 ?_
      refine va_aldq hx hb hK hP 1 1 rfl rfl (by unfold vp_in; decide) dX2_merge_22 ?_
      show W _ _ _ _ _ _ _ _ _ _ _ _ _ _ _ (F0 _ _ _ (.ref s1 :: _))
      obtain ⟨f04, hu, hf⟩ := tq_bd_some hf
      have hPc := hP.sub (ws' := [(s0, .inr (1, [.int p0, .ref w0])), (w0, .inl (cL, N0, .inr (.inl f0))), (s1, .inr (1, [.int p0, .ref w1])), (w1, .inl (cL, N0, .inr (.inl f1)))]) [2, 3, 4, 5] rfl
      have hDc := hD.sub (ws' := [(s0, .inr (1, [.int p0, .ref w0])), (w0, .inl (cL, N0, .inr (.inl f0))), (s1, .inr (1, [.int p0, .ref w1])), (w1, .inl (cL, N0, .inr (.inl f1)))]) [2, 3, 4, 5] (by decide) rfl
      have hKc := hK.sub (tys' := [(cL, .long)]) [0] rfl
      have hFc := va_free (wc := [(s0, .inr (1, [.int p0, .ref w0])), (w0, .inl (cL, N0, .inr (.inl f0))), (s1, .inr (1, [.int p0, .ref w1])), (w1, .inl (cL, N0, .inr (.inl f1)))]) hD hS hA [2, 3, 4, 5] rfl
      refine va_callv (va_runV (As := [.ref s1]) (rest := []) ⟨hx, hb, hml, hown, hww⟩ (c_f_include l dC dI s0 s1 w0 w1 cL H.size p0 N0 f0 p0 N0 f1 f04 hu) (cwV 1 hww (tq_gV tqt_184 tqt_185 tqt_186 tqt_33 tqt_187) rfl rfl rfl (by decide +kernel) ⟨Nat.le_of_ble_eq_true rfl, Nat.le_of_ble_eq_true rfl⟩) ⟨fun a U g mk q => by obtain ⟨q0, q1, qP, qK, qD, qN⟩ := q; exact ⟨q0, q1, qP, va_K.moved (u := U) (U := U.calling g mk a) (Vm.Alike.refl U.vm) qK, qD, tqN_same (u := U) (U := U.calling g mk a) rfl qN⟩, va_recv hK hP (ci := 1) rfl (q0 := 2) rfl, fun U hU hW => ⟨rfl, by rw [hU], by rw [hU]; exact hPc, va_K.moved hW.alike hKc, hDc.weaken (fun _ _ _ _ => trivial), tqN_warm hW hN⟩⟩ rfl rfl hl.1 rfl (lv_room (Nat.le_of_ble_eq_true rfl)) dX2_merge_23 ⟨Nat.zero_le _, Nat.zero_le _⟩) hS (fun q _ h => hFc q h) hFc (fun u0 t H1 locs ht hvm hpost hB hz1 hk1 hS => ?_)
      obtain ⟨hP1, hK1, hD1⟩ := hB
      rw [ht] at hP1
      obtain ⟨hP, hD⟩ := va_join (wr := [(th, .inr (2, [.int size, .ref sa, .ref s2, .ref s3, .ref o0, .ref o1])), (sa, .inl (cA, 2, .inr (.inr (.inr (.inr (sref s0 s1))))))]) (w1 := [(s0, .inr (1, [.int p0, .ref w0])), (w0, .inl (cL, N0, .inr (.inl f04))), (s1, .inr (1, [.int p0, .ref w1])), (w1, .inl (cL, N0, .inr (.inl f1)))]) hP hD [2, 3, 4, 5] [0, 1] rfl rfl (by decide) (by decide) hk1 hFc hP1 hD1
      generalize H1 = H at hP hS ⊢
      have hP := hP.sub (ws' := [(th, .inr (2, [.int size, .ref sa, .ref s2, .ref s3, .ref o0, .ref o1])), (sa, .inl (cA, 2, .inr (.inr (.inr (.inr (sref s0 s1)))))), (s0, .inr (1, [.int p0, .ref w0])), (w0, .inl (cL, N0, .inr (.inl f04))), (s1, .inr (1, [.int p0, .ref w1])), (w1, .inl (cL, N0, .inr (.inl f1)))]) [0, 1, 2, 3, 4, 5] rfl
      have hD := hD.sub (ws' := [(th, .inr (2, [.int size, .ref sa, .ref s2, .ref s3, .ref o0, .ref o1])), (sa, .inl (cA, 2, .inr (.inr (.inr (.inr (sref s0 s1)))))), (s0, .inr (1, [.int p0, .ref w0])), (w0, .inl (cL, N0, .inr (.inl f04))), (s1, .inr (1, [.int p0, .ref w1])), (w1, .inl (cL, N0, .inr (.inl f1)))]) [0, 1, 2, 3, 4, 5] (by decide) rfl
      refine lv_iconst (v := 1) hx hb dX2_merge_26 (by decide) ?_
      have hf := Option.some.inj hf
      subst hf
      exact W.zret (v := (1 : Int32)) hx hb hr (tq_nb_bool (by decide)) (fun t ht hW => ⟨⟨(1 : Int32), (), rfl, rfl, by rw [ht]; exact hP, va_K.moved hW.alike hK, hD⟩, hS.F ht⟩) hS.2.2 dX2_merge_27
    · rw [if_neg h3] at hf
      by_cases h5 : q = 1
      · rw [if_pos h5] at hf
        subst h5
        refine va_aldq hx hb hK hP 1 1 rfl rfl (by unfold vp_in; decide) dX2_merge_14 ?_
        show W _ _ _ _ _ _ _ _ _ _ _ _ _ _ _ (F0 _ _ _ (.ref s1 :: _))
        refine lv_aload_n hx hb dX2_merge_15 rfl (lv_at hl 0 rfl) ?_
        refine va_get (D := (dC, dI)) (ci := 2) (v := .ref sa) (C := RX2) (T := TX2) (N := 6) hx hb hww tqinX2 hown hK hP 0 rfl rfl 1 (by decide) (hww _ tqt_95) (fun _ h9 => h9) rfl dX2_merge_16 ?_
        refine lv_iconst (v := 1) hx hb dX2_merge_19 (by decide) ?_
        refine lv_iload_n hx hb dX2_merge_20 rfl (lv_at hl 1 rfl) ?_
        refine lv_isub hx hb dX2_merge_21 ?_
        refine va_aldq hx hb hK hP 1 1 rfl rfl (by unfold vp_in; decide) dX2_merge_22 ?_
        show W _ _ _ _ _ _ _ _ _ _ _ _ _ _ _ (F0 _ _ _ (.ref s0 :: _))
        obtain ⟨f06, hu, hf⟩ := tq_bd_some hf
        have hPc := hP.sub (ws' := [(s1, .inr (1, [.int p0, .ref w1])), (w1, .inl (cL, N0, .inr (.inl f1))), (s0, .inr (1, [.int p0, .ref w0])), (w0, .inl (cL, N0, .inr (.inl f0)))]) [4, 5, 2, 3] rfl
        have hDc := hD.sub (ws' := [(s1, .inr (1, [.int p0, .ref w1])), (w1, .inl (cL, N0, .inr (.inl f1))), (s0, .inr (1, [.int p0, .ref w0])), (w0, .inl (cL, N0, .inr (.inl f0)))]) [4, 5, 2, 3] (by decide) rfl
        have hKc := hK.sub (tys' := [(cL, .long)]) [0] rfl
        have hFc := va_free (wc := [(s1, .inr (1, [.int p0, .ref w1])), (w1, .inl (cL, N0, .inr (.inl f1))), (s0, .inr (1, [.int p0, .ref w0])), (w0, .inl (cL, N0, .inr (.inl f0)))]) hD hS hA [4, 5, 2, 3] rfl
        refine va_callv (va_runV (As := [.ref s0]) (rest := []) ⟨hx, hb, hml, hown, hww⟩ (c_f_include l dC dI s1 s0 w1 w0 cL H.size p0 N0 f1 p0 N0 f0 f06 hu) (cwV 1 hww (tq_gV tqt_184 tqt_185 tqt_186 tqt_33 tqt_187) rfl rfl rfl (by decide +kernel) ⟨Nat.le_of_ble_eq_true rfl, Nat.le_of_ble_eq_true rfl⟩) ⟨fun a U g mk q => by obtain ⟨q0, q1, qP, qK, qD, qN⟩ := q; exact ⟨q0, q1, qP, va_K.moved (u := U) (U := U.calling g mk a) (Vm.Alike.refl U.vm) qK, qD, tqN_same (u := U) (U := U.calling g mk a) rfl qN⟩, va_recv hK hP (ci := 1) rfl (q0 := 4) rfl, fun U hU hW => ⟨rfl, by rw [hU], by rw [hU]; exact hPc, va_K.moved hW.alike hKc, hDc.weaken (fun _ _ _ _ => trivial), tqN_warm hW hN⟩⟩ rfl rfl hl.1 rfl (lv_room (Nat.le_of_ble_eq_true rfl)) dX2_merge_23 ⟨Nat.zero_le _, Nat.zero_le _⟩) hS (fun q _ h => hFc q h) hFc (fun u0 t H1 locs ht hvm hpost hB hz1 hk1 hS => ?_)
        obtain ⟨hP1, hK1, hD1⟩ := hB
        rw [ht] at hP1
        obtain ⟨hP, hD⟩ := va_join (wr := [(th, .inr (2, [.int size, .ref sa, .ref s2, .ref s3, .ref o0, .ref o1])), (sa, .inl (cA, 2, .inr (.inr (.inr (.inr (sref s0 s1))))))]) (w1 := [(s1, .inr (1, [.int p0, .ref w1])), (w1, .inl (cL, N0, .inr (.inl f06))), (s0, .inr (1, [.int p0, .ref w0])), (w0, .inl (cL, N0, .inr (.inl f0)))]) hP hD [4, 5, 2, 3] [0, 1] rfl rfl (by decide) (by decide) hk1 hFc hP1 hD1
        generalize H1 = H at hP hS ⊢
        have hP := hP.sub (ws' := [(th, .inr (2, [.int size, .ref sa, .ref s2, .ref s3, .ref o0, .ref o1])), (sa, .inl (cA, 2, .inr (.inr (.inr (.inr (sref s0 s1)))))), (s0, .inr (1, [.int p0, .ref w0])), (w0, .inl (cL, N0, .inr (.inl f0))), (s1, .inr (1, [.int p0, .ref w1])), (w1, .inl (cL, N0, .inr (.inl f06)))]) [0, 1, 4, 5, 2, 3] rfl
        have hD := hD.sub (ws' := [(th, .inr (2, [.int size, .ref sa, .ref s2, .ref s3, .ref o0, .ref o1])), (sa, .inl (cA, 2, .inr (.inr (.inr (.inr (sref s0 s1)))))), (s0, .inr (1, [.int p0, .ref w0])), (w0, .inl (cL, N0, .inr (.inl f0))), (s1, .inr (1, [.int p0, .ref w1])), (w1, .inl (cL, N0, .inr (.inl f06)))]) [0, 1, 4, 5, 2, 3] (by decide) rfl
        refine lv_iconst (v := 1) hx hb dX2_merge_26 (by decide) ?_
        have hf := Option.some.inj hf
        subst hf
        exact W.zret (v := (1 : Int32)) hx hb hr (tq_nb_bool (by decide)) (fun t ht hW => ⟨⟨(1 : Int32), (), rfl, rfl, by rw [ht]; exact hP, va_K.moved hW.alike hK, hD⟩, hS.F ht⟩) hS.2.2 dX2_merge_27
      · rw [if_neg h5] at hf
        cases hf
  · rw [if_neg (fun q : ¬ (f_isSum q) = 0 => q h2)] at hf
    refine lv_iconst (v := 0) hx hb dX2_merge_7 (by decide) ?_
    have hf := Option.some.inj hf
    subst hf
    exact W.zret (v := (0 : Int32)) hx hb hr (tq_nb_bool (by decide)) (fun t ht hW => ⟨⟨(0 : Int32), (), rfl, rfl, by rw [ht]; exact hP, va_K.moved hW.alike hK, hD⟩, hS.F ht⟩) hS.2.2 dX2_merge_8
set_option maxHeartbeats 4000000 in
set_option maxRecDepth 100000 in
theorem c_f_negate (l : Launch) (dC : Nat → ClassId) (dI : Nat → Nat → Nat) (th : Nat) (sa : Nat) (s2 : Nat) (s3 : Nat) (o0 : Nat) (o1 : Nat) (s0 : Nat) (s1 : Nat) (w0 : Nat) (w1 : Nat) (cL : ClassId) (cA : ClassId) (sz : Nat) (q : Int32) (size : Int32) (p0 : Int32) (N0 : Nat) (f0 : Nat → Int64) (f1 : Nat → Int64) (r : Int32 × (Nat → Int64) × (Nat → Int64)) (hf : f_negate p0 N0 f0 f1 q = some r) : Met l yX2_negate tqw_X2_negate ({ frames := 1, cells := 0, slots := 0, locals := 23 }) (va_Pc [.ref th, .int q] (fun U => U.heap.size = sz ∧ va_P (dC, dI) tqCl [(th, .inr (2, [.int size, .ref sa, .ref s2, .ref s3, .ref o0, .ref o1])), (sa, .inl (cA, 2, .inr (.inr (.inr (.inr (sref s0 s1)))))), (s0, .inr (1, [.int p0, .ref w0])), (w0, .inl (cL, N0, .inr (.inl f0))), (s1, .inr (1, [.int p0, .ref w1])), (w1, .inl (cL, N0, .inr (.inl f1)))] U.heap ∧ va_K (dC, dI) tqCl [(cL, .long), (cA, .object RX1)] U ∧ va_D (fun _ => True) [(th, .inr (2, [.int size, .ref sa, .ref s2, .ref s3, .ref o0, .ref o1])), (sa, .inl (cA, 2, .inr (.inr (.inr (.inr (sref s0 s1)))))), (s0, .inr (1, [.int p0, .ref w0])), (w0, .inl (cL, N0, .inr (.inl f0))), (s1, .inr (1, [.int p0, .ref w1])), (w1, .inl (cL, N0, .inr (.inl f1)))] ∧ tqN U)) (va_Qi (fun (a : Int32) (_ : Unit) => a = r.1) (fun (_ : Unit) (t : State) => va_P (dC, dI) tqCl [(th, .inr (2, [.int size, .ref sa, .ref s2, .ref s3, .ref o0, .ref o1])), (sa, .inl (cA, 2, .inr (.inr (.inr (.inr (sref s0 s1)))))), (s0, .inr (1, [.int p0, .ref w0])), (w0, .inl (cL, N0, .inr (.inl r.2.1))), (s1, .inr (1, [.int p0, .ref w1])), (w1, .inl (cL, N0, .inr (.inl r.2.2)))] t.heap ∧ va_K (dC, dI) tqCl [(cL, .long), (cA, .object RX1)] t ∧ va_D (va_A [(th, .inr (2, [.int size, .ref sa, .ref s2, .ref s3, .ref o0, .ref o1])), (sa, .inl (cA, 2, .inr (.inr (.inr (.inr (sref s0 s1)))))), (s0, .inr (1, [.int p0, .ref w0])), (w0, .inl (cL, N0, .inr (.inl f0))), (s1, .inr (1, [.int p0, .ref w1])), (w1, .inl (cL, N0, .inr (.inl f1)))] sz) [(th, .inr (2, [.int size, .ref sa, .ref s2, .ref s3, .ref o0, .ref o1])), (sa, .inl (cA, 2, .inr (.inr (.inr (.inr (sref s0 s1)))))), (s0, .inr (1, [.int p0, .ref w0])), (w0, .inl (cL, N0, .inr (.inl r.2.1))), (s1, .inr (1, [.int p0, .ref w1])), (w1, .inl (cL, N0, .inr (.inl r.2.2)))]) (va_A [(th, .inr (2, [.int size, .ref sa, .ref s2, .ref s3, .ref o0, .ref o1])), (sa, .inl (cA, 2, .inr (.inr (.inr (.inr (sref s0 s1)))))), (s0, .inr (1, [.int p0, .ref w0])), (w0, .inl (cL, N0, .inr (.inl f0))), (s1, .inr (1, [.int p0, .ref w1])), (w1, .inl (cL, N0, .inr (.inl f1)))] sz)) 0 0 (va_A [(th, .inr (2, [.int size, .ref sa, .ref s2, .ref s3, .ref o0, .ref o1])), (sa, .inl (cA, 2, .inr (.inr (.inr (.inr (sref s0 s1)))))), (s0, .inr (1, [.int p0, .ref w0])), (w0, .inl (cL, N0, .inr (.inl f0))), (s1, .inr (1, [.int p0, .ref w1])), (w1, .inl (cL, N0, .inr (.inl f1)))] sz) := by
  refine Met.ofW (cc := cX2_negate) (maxL := 2) (ret := (some .boolean)) (by decide) rfl ?_
  intro p e s m args below meth c s₁ B hml hv
  obtain ⟨rfl, hsz, hP, hK, hD0, hN⟩ := hv
  have hx := B.exec
  have hb := B.bytes
  have hr := B.returns
  have hts := atoms_spec (ws := tqw_X2_negate) B.pre
  have hww : ∀ w ∈ tqW, w.before _ s = true := fun w h => hts w (List.mem_cons_of_mem _ h)
  have hown : s.vm.findClass RX2 = some m.cls := findClass_of_methodNamed B.named
  have hlocks := B.notSynchronized
  subst hsz
  have hD := hD0.self (sz := s.heap.size)
  generalize hAe : va_A [(th, .inr (2, [.int size, .ref sa, .ref s2, .ref s3, .ref o0, .ref o1])), (sa, .inl (cA, 2, .inr (.inr (.inr (.inr (sref s0 s1)))))), (s0, .inr (1, [.int p0, .ref w0])), (w0, .inl (cL, N0, .inr (.inl f0))), (s1, .inr (1, [.int p0, .ref w1])), (w1, .inl (cL, N0, .inr (.inl f1)))] s.heap.size = A at hD ⊢
  have hA : ∀ q : Nat, s.heap.size ≤ q → A q := fun q h => by rw [← hAe]; exact Or.inr h
  have hS : va_S A s.heap s.heap [] := va_S.rf
  have hP : va_P (dC, dI) tqCl [(th, .inr (2, [.int size, .ref sa, .ref s2, .ref s3, .ref o0, .ref o1])), (sa, .inl (cA, 2, .inr (.inr (.inr (.inr (sref s0 s1)))))), (s0, .inr (1, [.int p0, .ref w0])), (w0, .inl (cL, N0, .inr (.inl f0))), (s1, .inr (1, [.int p0, .ref w1])), (w1, .inl (cL, N0, .inr (.inl f1)))] s.heap := hP
  have hl := lv_entry ([.ref th, .int q]) (n := 2) (Nat.le_of_ble_eq_true rfl)
  rw [lg_entry_eq]
  generalize (lg_sl ([.ref th, .int q]) ++ List.replicate (2 - (lg_sl ([.ref th, .int q])).length) Slot.unset).toArray = ls at hl ⊢
  have hl : lv_has ls 2 [(0, .ref th), (1, .int q)] := hl
  unfold f_negate at hf
  refine lv_iload_n hx hb dX2_negate_0 rfl (lv_at hl 1 rfl) ?_
  have hPc := hP.sub (ws' := []) [] rfl
  have hDc := hD.sub (ws' := []) [] (by decide) rfl
  have hKc := hK.sub (tys' := []) [] rfl
  have hFc := va_free (wc := []) hD hS hA [] rfl
  refine va_calli (va_runS (As := [.int q]) (rest := []) ⟨hx, hb, hml, hown, hww⟩ (c_f_isSum l dC dI s.heap.size q (f_isSum q) rfl) (va_cwS 1 hww (tq_gS tqt_290 tqt_291 tqt_32 tqt_292) rfl rfl rfl (by decide +kernel) ⟨Nat.le_of_ble_eq_true rfl, Nat.le_of_ble_eq_true rfl⟩) ⟨fun a U g mk q => by obtain ⟨q0, q1, qP, qK, qD, qN⟩ := q; exact ⟨q0, q1, qP, va_K.moved (u := U) (U := U.calling g mk a) (Vm.Alike.refl U.vm) qK, qD, tqN_same (u := U) (U := U.calling g mk a) rfl qN⟩, fun U hU hW => ⟨rfl, by rw [hU], by rw [hU]; exact hPc, va_K.moved hW.alike hKc, hDc.weaken (fun _ _ _ _ => trivial), tqN_warm hW hN⟩⟩ rfl rfl hl.1 rfl (lv_room (Nat.le_of_ble_eq_true rfl)) dX2_negate_1 ⟨Nat.zero_le _, Nat.zero_le _⟩) hS (fun q _ h => hFc q h) hFc (fun ra u0 t H1 locs ht hvm hpost hB hz1 hk1 hS => ?_)
  have hpost : (f_isSum q) = ra := (show ra = (f_isSum q) from hpost).symm
  subst hpost
  obtain ⟨hP1, hK1, hD1⟩ := hB
  rw [ht] at hP1
  obtain ⟨hP, hD⟩ := va_join (wr := [(th, .inr (2, [.int size, .ref sa, .ref s2, .ref s3, .ref o0, .ref o1])), (sa, .inl (cA, 2, .inr (.inr (.inr (.inr (sref s0 s1)))))), (s0, .inr (1, [.int p0, .ref w0])), (w0, .inl (cL, N0, .inr (.inl f0))), (s1, .inr (1, [.int p0, .ref w1])), (w1, .inl (cL, N0, .inr (.inl f1)))]) (w1 := []) hP hD [] [0, 1, 2, 3, 4, 5] rfl rfl (by decide) (by decide) hk1 hFc hP1 hD1
  generalize H1 = H at hP hS ⊢
  have hP := hP.sub (ws' := [(th, .inr (2, [.int size, .ref sa, .ref s2, .ref s3, .ref o0, .ref o1])), (sa, .inl (cA, 2, .inr (.inr (.inr (.inr (sref s0 s1)))))), (s0, .inr (1, [.int p0, .ref w0])), (w0, .inl (cL, N0, .inr (.inl f0))), (s1, .inr (1, [.int p0, .ref w1])), (w1, .inl (cL, N0, .inr (.inl f1)))]) [0, 1, 2, 3, 4, 5] rfl
  have hD := hD.sub (ws' := [(th, .inr (2, [.int size, .ref sa, .ref s2, .ref s3, .ref o0, .ref o1])), (sa, .inl (cA, 2, .inr (.inr (.inr (.inr (sref s0 s1)))))), (s0, .inr (1, [.int p0, .ref w0])), (w0, .inl (cL, N0, .inr (.inl f0))), (s1, .inr (1, [.int p0, .ref w1])), (w1, .inl (cL, N0, .inr (.inl f1)))]) [0, 1, 2, 3, 4, 5] (by decide) rfl
  refine lv_if_ne hx hb dX2_negate_4 rfl (fun h2 => ?_) (fun h2 => ?_)
  · rw [if_pos h2] at hf
    refine lv_aload_n hx hb dX2_negate_9 rfl (lv_at hl 0 rfl) ?_
    refine va_get (D := (dC, dI)) (ci := 2) (v := .ref sa) (C := RX2) (T := TX2) (N := 6) hx hb hww tqinX2 hown hK hP 0 rfl rfl 1 (by decide) (hww _ tqt_95) (fun _ h9 => h9) rfl dX2_negate_10 ?_
    refine lv_iload_n hx hb dX2_negate_13 rfl (lv_at hl 1 rfl) ?_
    by_cases h3 : q = 0
    · rw [if_pos h3] at hf
      subst h3
      refine va_aldq hx hb hK hP 1 1 rfl rfl (by unfold vp_in; decide) dX2_negate_14 ?_
      show W _ _ _ _ _ _ _ _ _ _ _ _ _ _ _ (F0 _ _ _ (.ref s0 :: _))
      obtain ⟨f04, hu, hf⟩ := tq_bd_some hf
      have hPc := hP.sub (ws' := [(s0, .inr (1, [.int p0, .ref w0])), (w0, .inl (cL, N0, .inr (.inl f0)))]) [2, 3] rfl
      have hDc := hD.sub (ws' := [(s0, .inr (1, [.int p0, .ref w0])), (w0, .inl (cL, N0, .inr (.inl f0)))]) [2, 3] (by decide) rfl
      have hKc := hK.sub (tys' := [(cL, .long)]) [0] rfl
      have hFc := va_free (wc := [(s0, .inr (1, [.int p0, .ref w0])), (w0, .inl (cL, N0, .inr (.inl f0)))]) hD hS hA [2, 3] rfl
      refine va_callv (va_runV (As := []) (rest := []) ⟨hx, hb, hml, hown, hww⟩ (c_f_flip l dC dI s0 w0 cL H.size p0 N0 f0 f04 hu) (cwV 0 hww (tq_gV tqt_213 tqt_180 tqt_181 tqt_33 tqt_182) rfl rfl rfl (by decide +kernel) ⟨Nat.le_of_ble_eq_true rfl, Nat.le_of_ble_eq_true rfl⟩) ⟨fun a U g mk q => by obtain ⟨q0, q1, qP, qK, qD, qN⟩ := q; exact ⟨q0, q1, qP, va_K.moved (u := U) (U := U.calling g mk a) (Vm.Alike.refl U.vm) qK, qD, tqN_same (u := U) (U := U.calling g mk a) rfl qN⟩, va_recv hK hP (ci := 1) rfl (q0 := 2) rfl, fun U hU hW => ⟨rfl, by rw [hU], by rw [hU]; exact hPc, va_K.moved hW.alike hKc, hDc.weaken (fun _ _ _ _ => trivial), tqN_warm hW hN⟩⟩ rfl rfl hl.1 rfl (lv_room (Nat.le_of_ble_eq_true rfl)) dX2_negate_15 ⟨Nat.zero_le _, Nat.zero_le _⟩) hS (fun q _ h => hFc q h) hFc (fun u0 t H1 locs ht hvm hpost hB hz1 hk1 hS => ?_)
      obtain ⟨hP1, hK1, hD1⟩ := hB
      rw [ht] at hP1
      obtain ⟨hP, hD⟩ := va_join (wr := [(th, .inr (2, [.int size, .ref sa, .ref s2, .ref s3, .ref o0, .ref o1])), (sa, .inl (cA, 2, .inr (.inr (.inr (.inr (sref s0 s1)))))), (s1, .inr (1, [.int p0, .ref w1])), (w1, .inl (cL, N0, .inr (.inl f1)))]) (w1 := [(s0, .inr (1, [.int p0, .ref w0])), (w0, .inl (cL, N0, .inr (.inl f04)))]) hP hD [2, 3] [0, 1, 4, 5] rfl rfl (by decide) (by decide) hk1 hFc hP1 hD1
      generalize H1 = H at hP hS ⊢
      have hP := hP.sub (ws' := [(th, .inr (2, [.int size, .ref sa, .ref s2, .ref s3, .ref o0, .ref o1])), (sa, .inl (cA, 2, .inr (.inr (.inr (.inr (sref s0 s1)))))), (s0, .inr (1, [.int p0, .ref w0])), (w0, .inl (cL, N0, .inr (.inl f04))), (s1, .inr (1, [.int p0, .ref w1])), (w1, .inl (cL, N0, .inr (.inl f1)))]) [0, 1, 4, 5, 2, 3] rfl
      have hD := hD.sub (ws' := [(th, .inr (2, [.int size, .ref sa, .ref s2, .ref s3, .ref o0, .ref o1])), (sa, .inl (cA, 2, .inr (.inr (.inr (.inr (sref s0 s1)))))), (s0, .inr (1, [.int p0, .ref w0])), (w0, .inl (cL, N0, .inr (.inl f04))), (s1, .inr (1, [.int p0, .ref w1])), (w1, .inl (cL, N0, .inr (.inl f1)))]) [0, 1, 4, 5, 2, 3] (by decide) rfl
      refine lv_iconst (v := 1) hx hb dX2_negate_18 (by decide) ?_
      have hf := Option.some.inj hf
      subst hf
      exact W.zret (v := (1 : Int32)) hx hb hr (tq_nb_bool (by decide)) (fun t ht hW => ⟨⟨(1 : Int32), (), rfl, rfl, by rw [ht]; exact hP, va_K.moved hW.alike hK, hD⟩, hS.F ht⟩) hS.2.2 dX2_negate_19
    · rw [if_neg h3] at hf
      by_cases h5 : q = 1
      · rw [if_pos h5] at hf
        subst h5
        refine va_aldq hx hb hK hP 1 1 rfl rfl (by unfold vp_in; decide) dX2_negate_14 ?_
        show W _ _ _ _ _ _ _ _ _ _ _ _ _ _ _ (F0 _ _ _ (.ref s1 :: _))
        obtain ⟨f06, hu, hf⟩ := tq_bd_some hf
        have hPc := hP.sub (ws' := [(s1, .inr (1, [.int p0, .ref w1])), (w1, .inl (cL, N0, .inr (.inl f1)))]) [4, 5] rfl
        have hDc := hD.sub (ws' := [(s1, .inr (1, [.int p0, .ref w1])), (w1, .inl (cL, N0, .inr (.inl f1)))]) [4, 5] (by decide) rfl
        have hKc := hK.sub (tys' := [(cL, .long)]) [0] rfl
        have hFc := va_free (wc := [(s1, .inr (1, [.int p0, .ref w1])), (w1, .inl (cL, N0, .inr (.inl f1)))]) hD hS hA [4, 5] rfl
        refine va_callv (va_runV (As := []) (rest := []) ⟨hx, hb, hml, hown, hww⟩ (c_f_flip l dC dI s1 w1 cL H.size p0 N0 f1 f06 hu) (cwV 0 hww (tq_gV tqt_213 tqt_180 tqt_181 tqt_33 tqt_182) rfl rfl rfl (by decide +kernel) ⟨Nat.le_of_ble_eq_true rfl, Nat.le_of_ble_eq_true rfl⟩) ⟨fun a U g mk q => by obtain ⟨q0, q1, qP, qK, qD, qN⟩ := q; exact ⟨q0, q1, qP, va_K.moved (u := U) (U := U.calling g mk a) (Vm.Alike.refl U.vm) qK, qD, tqN_same (u := U) (U := U.calling g mk a) rfl qN⟩, va_recv hK hP (ci := 1) rfl (q0 := 4) rfl, fun U hU hW => ⟨rfl, by rw [hU], by rw [hU]; exact hPc, va_K.moved hW.alike hKc, hDc.weaken (fun _ _ _ _ => trivial), tqN_warm hW hN⟩⟩ rfl rfl hl.1 rfl (lv_room (Nat.le_of_ble_eq_true rfl)) dX2_negate_15 ⟨Nat.zero_le _, Nat.zero_le _⟩) hS (fun q _ h => hFc q h) hFc (fun u0 t H1 locs ht hvm hpost hB hz1 hk1 hS => ?_)
        obtain ⟨hP1, hK1, hD1⟩ := hB
        rw [ht] at hP1
        obtain ⟨hP, hD⟩ := va_join (wr := [(th, .inr (2, [.int size, .ref sa, .ref s2, .ref s3, .ref o0, .ref o1])), (sa, .inl (cA, 2, .inr (.inr (.inr (.inr (sref s0 s1)))))), (s0, .inr (1, [.int p0, .ref w0])), (w0, .inl (cL, N0, .inr (.inl f0)))]) (w1 := [(s1, .inr (1, [.int p0, .ref w1])), (w1, .inl (cL, N0, .inr (.inl f06)))]) hP hD [4, 5] [0, 1, 2, 3] rfl rfl (by decide) (by decide) hk1 hFc hP1 hD1
        generalize H1 = H at hP hS ⊢
        have hP := hP.sub (ws' := [(th, .inr (2, [.int size, .ref sa, .ref s2, .ref s3, .ref o0, .ref o1])), (sa, .inl (cA, 2, .inr (.inr (.inr (.inr (sref s0 s1)))))), (s0, .inr (1, [.int p0, .ref w0])), (w0, .inl (cL, N0, .inr (.inl f0))), (s1, .inr (1, [.int p0, .ref w1])), (w1, .inl (cL, N0, .inr (.inl f06)))]) [0, 1, 2, 3, 4, 5] rfl
        have hD := hD.sub (ws' := [(th, .inr (2, [.int size, .ref sa, .ref s2, .ref s3, .ref o0, .ref o1])), (sa, .inl (cA, 2, .inr (.inr (.inr (.inr (sref s0 s1)))))), (s0, .inr (1, [.int p0, .ref w0])), (w0, .inl (cL, N0, .inr (.inl f0))), (s1, .inr (1, [.int p0, .ref w1])), (w1, .inl (cL, N0, .inr (.inl f06)))]) [0, 1, 2, 3, 4, 5] (by decide) rfl
        refine lv_iconst (v := 1) hx hb dX2_negate_18 (by decide) ?_
        have hf := Option.some.inj hf
        subst hf
        exact W.zret (v := (1 : Int32)) hx hb hr (tq_nb_bool (by decide)) (fun t ht hW => ⟨⟨(1 : Int32), (), rfl, rfl, by rw [ht]; exact hP, va_K.moved hW.alike hK, hD⟩, hS.F ht⟩) hS.2.2 dX2_negate_19
      · rw [if_neg h5] at hf
        cases hf
  · rw [if_neg (fun q : ¬ (f_isSum q) = 0 => q h2)] at hf
    refine lv_iconst (v := 0) hx hb dX2_negate_7 (by decide) ?_
    have hf := Option.some.inj hf
    subst hf
    exact W.zret (v := (0 : Int32)) hx hb hr (tq_nb_bool (by decide)) (fun t ht hW => ⟨⟨(0 : Int32), (), rfl, rfl, by rw [ht]; exact hP, va_K.moved hW.alike hK, hD⟩, hS.F ht⟩) hS.2.2 dX2_negate_8
