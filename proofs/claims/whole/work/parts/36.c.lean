set_option maxHeartbeats 4000000 in
set_option maxRecDepth 100000 in
theorem c_f_divide (l : Launch) (dC : Nat → ClassId) (dI : Nat → Nat → Nat) (th : Nat) (sa : Nat) (s2 : Nat) (s3 : Nat) (o0 : Nat) (o1 : Nat) (sz : Nat) (x : Int32) (y : Int32) (size : Int32) (nt0 : Int32) (ng0 : Int32) (mg0 : Int64) (ex0 : Int32) (nt1 : Int32) (ng1 : Int32) (mg1 : Int64) (ex1 : Int32) (r : Int32 × Int32 × Int32 × Int64 × Int32 × Int32 × Int32 × Int64 × Int32) (hf : f_divide size nt0 ng0 mg0 ex0 nt1 ng1 mg1 ex1 x y = some r) : Met l yX2_divide tqw_X2_divide ({ frames := 4, cells := 0, slots := 0, locals := 97 }) (va_Pc [.ref th, .int x, .int y] (fun U => U.heap.size = sz ∧ va_P (dC, dI) tqCl [(th, .inr (2, [.int size, .ref sa, .ref s2, .ref s3, .ref o0, .ref o1])), (o0, .inr (0, [.int nt0, .int ng0, .long mg0, .int ex0])), (o1, .inr (0, [.int nt1, .int ng1, .long mg1, .int ex1]))] U.heap ∧ va_K (dC, dI) tqCl [] U ∧ va_D (fun _ => True) [(th, .inr (2, [.int size, .ref sa, .ref s2, .ref s3, .ref o0, .ref o1])), (o0, .inr (0, [.int nt0, .int ng0, .long mg0, .int ex0])), (o1, .inr (0, [.int nt1, .int ng1, .long mg1, .int ex1]))] ∧ tqN U)) (va_Qi (fun (a : Int32) (_ : Unit) => a = r.1) (fun (_ : Unit) (t : State) => va_P (dC, dI) tqCl [(th, .inr (2, [.int size, .ref sa, .ref s2, .ref s3, .ref o0, .ref o1])), (o0, .inr (0, [.int r.2.1, .int r.2.2.1, .long r.2.2.2.1, .int r.2.2.2.2.1])), (o1, .inr (0, [.int r.2.2.2.2.2.1, .int r.2.2.2.2.2.2.1, .long r.2.2.2.2.2.2.2.1, .int r.2.2.2.2.2.2.2.2]))] t.heap ∧ va_K (dC, dI) tqCl [] t ∧ va_D (va_A [(th, .inr (2, [.int size, .ref sa, .ref s2, .ref s3, .ref o0, .ref o1])), (o0, .inr (0, [.int nt0, .int ng0, .long mg0, .int ex0])), (o1, .inr (0, [.int nt1, .int ng1, .long mg1, .int ex1]))] sz) [(th, .inr (2, [.int size, .ref sa, .ref s2, .ref s3, .ref o0, .ref o1])), (o0, .inr (0, [.int r.2.1, .int r.2.2.1, .long r.2.2.2.1, .int r.2.2.2.2.1])), (o1, .inr (0, [.int r.2.2.2.2.2.1, .int r.2.2.2.2.2.2.1, .long r.2.2.2.2.2.2.2.1, .int r.2.2.2.2.2.2.2.2]))]) (va_A [(th, .inr (2, [.int size, .ref sa, .ref s2, .ref s3, .ref o0, .ref o1])), (o0, .inr (0, [.int nt0, .int ng0, .long mg0, .int ex0])), (o1, .inr (0, [.int nt1, .int ng1, .long mg1, .int ex1]))] sz)) 0 0 (va_A [(th, .inr (2, [.int size, .ref sa, .ref s2, .ref s3, .ref o0, .ref o1])), (o0, .inr (0, [.int nt0, .int ng0, .long mg0, .int ex0])), (o1, .inr (0, [.int nt1, .int ng1, .long mg1, .int ex1]))] sz) := by
  refine Met.ofW (cc := cX2_divide) (maxL := 10) (ret := (some .int)) (by decide) rfl ?_
  intro p e s m args below meth c s₁ B hml hv
  obtain ⟨rfl, hsz, hP, hK, hD0, hN⟩ := hv
  have hx := B.exec
  have hb := B.bytes
  have hr := B.returns
  have hts := atoms_spec (ws := tqw_X2_divide) B.pre
  have hww : ∀ w ∈ tqW, w.before _ s = true := fun w h => hts w (List.mem_cons_of_mem _ h)
  have hown : s.vm.findClass RX2 = some m.cls := findClass_of_methodNamed B.named
  have hlocks := B.notSynchronized
  subst hsz
  have hD := hD0.self (sz := s.heap.size)
  generalize hAe : va_A [(th, .inr (2, [.int size, .ref sa, .ref s2, .ref s3, .ref o0, .ref o1])), (o0, .inr (0, [.int nt0, .int ng0, .long mg0, .int ex0])), (o1, .inr (0, [.int nt1, .int ng1, .long mg1, .int ex1]))] s.heap.size = A at hD ⊢
  have hA : ∀ q : Nat, s.heap.size ≤ q → A q := fun q h => by rw [← hAe]; exact Or.inr h
  have hS : va_S A s.heap s.heap [] := va_S.rf
  have hP : va_P (dC, dI) tqCl [(th, .inr (2, [.int size, .ref sa, .ref s2, .ref s3, .ref o0, .ref o1])), (o0, .inr (0, [.int nt0, .int ng0, .long mg0, .int ex0])), (o1, .inr (0, [.int nt1, .int ng1, .long mg1, .int ex1]))] s.heap := hP
  have hl := lv_entry ([.ref th, .int x, .int y]) (n := 10) (Nat.le_of_ble_eq_true rfl)
  rw [lg_entry_eq]
  generalize (lg_sl ([.ref th, .int x, .int y]) ++ List.replicate (10 - (lg_sl ([.ref th, .int x, .int y])).length) Slot.unset).toArray = ls at hl ⊢
  have hl : lv_has ls 10 [(0, .ref th), (1, .int x), (2, .int y)] := hl
  have B56 : ∀ (ls : Array Slot) (H : Heap) (locs : List Loc) (nt0 : Int32) (ng0 : Int32) (mg0 : Int64) (ex0 : Int32) (nt1 : Int32) (ng1 : Int32) (mg1 : Int64) (ex1 : Int32), f_divide_b56 size nt0 ng0 mg0 ex0 nt1 ng1 mg1 ex1 = some r → lv_has ls 10 [(0, .ref th)] → va_P (dC, dI) tqCl [(th, .inr (2, [.int size, .ref sa, .ref s2, .ref s3, .ref o0, .ref o1])), (o0, .inr (0, [.int nt0, .int ng0, .long mg0, .int ex0])), (o1, .inr (0, [.int nt1, .int ng1, .long mg1, .int ex1]))] H → va_D A [(th, .inr (2, [.int size, .ref sa, .ref s2, .ref s3, .ref o0, .ref o1])), (o0, .inr (0, [.int nt0, .int ng0, .long mg0, .int ex0])), (o1, .inr (0, [.int nt1, .int ng1, .long mg1, .int ex1]))] → va_S A s.heap H locs → W p l e ({ frames := 4, cells := 0, slots := 0, locals := 97 }) s m ([.ref th, .int x, .int y] : List Value).toArray below meth c H locs 0 0 (MQ below (va_Qi (fun (a : Int32) (_ : Unit) => a = r.1) (fun (_ : Unit) (t : State) => va_P (dC, dI) tqCl [(th, .inr (2, [.int size, .ref sa, .ref s2, .ref s3, .ref o0, .ref o1])), (o0, .inr (0, [.int r.2.1, .int r.2.2.1, .long r.2.2.2.1, .int r.2.2.2.2.1])), (o1, .inr (0, [.int r.2.2.2.2.2.1, .int r.2.2.2.2.2.2.1, .long r.2.2.2.2.2.2.2.1, .int r.2.2.2.2.2.2.2.2]))] t.heap ∧ va_K (dC, dI) tqCl [] t ∧ va_D (A) [(th, .inr (2, [.int size, .ref sa, .ref s2, .ref s3, .ref o0, .ref o1])), (o0, .inr (0, [.int r.2.1, .int r.2.2.1, .long r.2.2.2.1, .int r.2.2.2.2.1])), (o1, .inr (0, [.int r.2.2.2.2.2.1, .int r.2.2.2.2.2.2.1, .long r.2.2.2.2.2.2.2.1, .int r.2.2.2.2.2.2.2.2]))]) (A)) ([.ref th, .int x, .int y] : List Value).toArray s 0 0 A) (F0 m 56 ls []) := by
    try clear hf
    intro ls H locs nt0 ng0 mg0 ex0 nt1 ng1 mg1 ex1 hf hl hP hD hS
    unfold f_divide_b56 at hf
    refine lv_aload_n hx hb dX2_divide_56 rfl (lv_at hl 0 rfl) ?_
    refine va_get (D := (dC, dI)) (ci := 2) (v := .int size) (C := RX2) (T := TX2) (N := 6) hx hb hww tqinX2 hown hK hP 0 rfl rfl 0 (by decide) (hww _ tqt_94) (fun _ h9 => h9) rfl dX2_divide_57 ?_
    have hPc := hP.sub (ws' := []) [] rfl
    have hDc := hD.sub (ws' := []) [] (by decide) rfl
    have hKc := hK.sub (tys' := []) [] rfl
    have hFc := va_free (wc := []) hD hS hA [] rfl
    refine va_calli (va_runS (As := [.int size]) (rest := []) ⟨hx, hb, hml, hown, hww⟩ (c_f_notOf l dC dI H.size size (f_notOf size) rfl) (va_cwS 1 hww (tq_gS tqt_204 tqt_141 tqt_32 tqt_142) rfl rfl rfl (by decide +kernel) ⟨Nat.le_of_ble_eq_true rfl, Nat.le_of_ble_eq_true rfl⟩) ⟨fun a U g mk q => by obtain ⟨q0, q1, qP, qK, qD, qN⟩ := q; exact ⟨q0, q1, qP, va_K.moved (u := U) (U := U.calling g mk a) (Vm.Alike.refl U.vm) qK, qD, tqN_same (u := U) (U := U.calling g mk a) rfl qN⟩, fun U hU hW => ⟨rfl, by rw [hU], by rw [hU]; exact hPc, va_K.moved hW.alike hKc, hDc.weaken (fun _ _ _ _ => trivial), tqN_warm hW hN⟩⟩ rfl rfl hl.1 rfl (lv_room (Nat.le_of_ble_eq_true rfl)) dX2_divide_60 ⟨Nat.zero_le _, Nat.zero_le _⟩) hS (fun q _ h => hFc q h) hFc (fun ra u0 t H1 locs ht hvm hpost hB hz1 hk1 hS => ?_)
    have hpost : (f_notOf size) = ra := (show ra = (f_notOf size) from hpost).symm
    subst hpost
    obtain ⟨hP1, hK1, hD1⟩ := hB
    rw [ht] at hP1
    obtain ⟨hP, hD⟩ := va_join (wr := [(th, .inr (2, [.int size, .ref sa, .ref s2, .ref s3, .ref o0, .ref o1])), (o0, .inr (0, [.int nt0, .int ng0, .long mg0, .int ex0])), (o1, .inr (0, [.int nt1, .int ng1, .long mg1, .int ex1]))]) (w1 := []) hP hD [] [0, 1, 2] rfl rfl (by decide) (by decide) hk1 hFc hP1 hD1
    generalize H1 = H at hP hS ⊢
    have hP := hP.sub (ws' := [(th, .inr (2, [.int size, .ref sa, .ref s2, .ref s3, .ref o0, .ref o1])), (o0, .inr (0, [.int nt0, .int ng0, .long mg0, .int ex0])), (o1, .inr (0, [.int nt1, .int ng1, .long mg1, .int ex1]))]) [0, 1, 2] rfl
    have hD := hD.sub (ws' := [(th, .inr (2, [.int size, .ref sa, .ref s2, .ref s3, .ref o0, .ref o1])), (o0, .inr (0, [.int nt0, .int ng0, .long mg0, .int ex0])), (o1, .inr (0, [.int nt1, .int ng1, .long mg1, .int ex1]))]) [0, 1, 2] (by decide) rfl
    have hf := Option.some.inj hf
    subst hf
    exact W.iret (v := f_notOf size) hx hb hr (fun t ht hW => ⟨⟨f_notOf size, (), rfl, rfl, by rw [ht]; exact hP, va_K.moved hW.alike hK, hD⟩, hS.F ht⟩) hS.2.2 dX2_divide_63
  have B168 : ∀ (ls : Array Slot) (H : Heap) (locs : List Loc) (v6 : Int64) (v8 : Int32) (v9 : Int32) (t0 : Int32) (t1 : Int32) (nt0 : Int32) (ng0 : Int32) (mg0 : Int64) (ex0 : Int32) (nt1 : Int32) (ng1 : Int32) (mg1 : Int64) (ex1 : Int32), f_divide_b168 v6 v8 v9 t0 t1 nt0 ng0 mg0 ex0 nt1 ng1 mg1 ex1 = some r → lv_has ls 10 [(6, .long v6), (8, .int v8), (9, .int v9)] → va_P (dC, dI) tqCl [(th, .inr (2, [.int size, .ref sa, .ref s2, .ref s3, .ref o0, .ref o1])), (o0, .inr (0, [.int nt0, .int ng0, .long mg0, .int ex0])), (o1, .inr (0, [.int nt1, .int ng1, .long mg1, .int ex1]))] H → va_D A [(th, .inr (2, [.int size, .ref sa, .ref s2, .ref s3, .ref o0, .ref o1])), (o0, .inr (0, [.int nt0, .int ng0, .long mg0, .int ex0])), (o1, .inr (0, [.int nt1, .int ng1, .long mg1, .int ex1]))] → va_S A s.heap H locs → W p l e ({ frames := 4, cells := 0, slots := 0, locals := 97 }) s m ([.ref th, .int x, .int y] : List Value).toArray below meth c H locs 0 0 (MQ below (va_Qi (fun (a : Int32) (_ : Unit) => a = r.1) (fun (_ : Unit) (t : State) => va_P (dC, dI) tqCl [(th, .inr (2, [.int size, .ref sa, .ref s2, .ref s3, .ref o0, .ref o1])), (o0, .inr (0, [.int r.2.1, .int r.2.2.1, .long r.2.2.2.1, .int r.2.2.2.2.1])), (o1, .inr (0, [.int r.2.2.2.2.2.1, .int r.2.2.2.2.2.2.1, .long r.2.2.2.2.2.2.2.1, .int r.2.2.2.2.2.2.2.2]))] t.heap ∧ va_K (dC, dI) tqCl [] t ∧ va_D (A) [(th, .inr (2, [.int size, .ref sa, .ref s2, .ref s3, .ref o0, .ref o1])), (o0, .inr (0, [.int r.2.1, .int r.2.2.1, .long r.2.2.2.1, .int r.2.2.2.2.1])), (o1, .inr (0, [.int r.2.2.2.2.2.1, .int r.2.2.2.2.2.2.1, .long r.2.2.2.2.2.2.2.1, .int r.2.2.2.2.2.2.2.2]))]) (A)) ([.ref th, .int x, .int y] : List Value).toArray s 0 0 A) (F0 m 168 ls [.int t0, .int t1]) := by
    try clear hf
    intro ls H locs v6 v8 v9 t0 t1 nt0 ng0 mg0 ex0 nt1 ng1 mg1 ex1 hf hl hP hD hS
    unfold f_divide_b168 at hf
    refine lv_lload hx hb dX2_divide_168 (lv_at hl 0 rfl) ?_
    refine lv_iload hx hb dX2_divide_170 (lv_at hl 2 rfl) ?_
    refine lv_iload hx hb dX2_divide_172 (lv_at hl 1 rfl) ?_
    have hPc := hP.sub (ws' := []) [] rfl
    have hDc := hD.sub (ws' := []) [] (by decide) rfl
    have hKc := hK.sub (tys' := []) [] rfl
    have hFc := va_free (wc := []) hD hS hA [] rfl
    refine va_calli (va_runS (As := [.int t1, .int t0, .long v6, .int v9, .int v8]) (rest := []) ⟨hx, hb, hml, hown, hww⟩ (c_f_rounded l dC dI H.size t1 t0 v6 v9 v8 (f_rounded t1 t0 v6 v9 v8) rfl) (va_cwS 5 hww (tq_gS tqt_247 tqt_248 tqt_32 tqt_249) rfl rfl rfl (by decide +kernel) ⟨Nat.le_of_ble_eq_true rfl, Nat.le_of_ble_eq_true rfl⟩) ⟨fun a U g mk q => by obtain ⟨q0, q1, qP, qK, qD, qN⟩ := q; exact ⟨q0, q1, qP, va_K.moved (u := U) (U := U.calling g mk a) (Vm.Alike.refl U.vm) qK, qD, tqN_same (u := U) (U := U.calling g mk a) rfl qN⟩, fun U hU hW => ⟨rfl, by rw [hU], by rw [hU]; exact hPc, va_K.moved hW.alike hKc, hDc.weaken (fun _ _ _ _ => trivial), tqN_warm hW hN⟩⟩ rfl rfl hl.1 rfl (lv_room (Nat.le_of_ble_eq_true rfl)) dX2_divide_174 ⟨Nat.zero_le _, Nat.zero_le _⟩) hS (fun q _ h => hFc q h) hFc (fun ra u0 t H1 locs ht hvm hpost hB hz1 hk1 hS => ?_)
    have hpost : (f_rounded t1 t0 v6 v9 v8) = ra := (show ra = (f_rounded t1 t0 v6 v9 v8) from hpost).symm
    subst hpost
    obtain ⟨hP1, hK1, hD1⟩ := hB
    rw [ht] at hP1
    obtain ⟨hP, hD⟩ := va_join (wr := [(th, .inr (2, [.int size, .ref sa, .ref s2, .ref s3, .ref o0, .ref o1])), (o0, .inr (0, [.int nt0, .int ng0, .long mg0, .int ex0])), (o1, .inr (0, [.int nt1, .int ng1, .long mg1, .int ex1]))]) (w1 := []) hP hD [] [0, 1, 2] rfl rfl (by decide) (by decide) hk1 hFc hP1 hD1
    generalize H1 = H at hP hS ⊢
    have hP := hP.sub (ws' := [(th, .inr (2, [.int size, .ref sa, .ref s2, .ref s3, .ref o0, .ref o1])), (o0, .inr (0, [.int nt0, .int ng0, .long mg0, .int ex0])), (o1, .inr (0, [.int nt1, .int ng1, .long mg1, .int ex1]))]) [0, 1, 2] rfl
    have hD := hD.sub (ws' := [(th, .inr (2, [.int size, .ref sa, .ref s2, .ref s3, .ref o0, .ref o1])), (o0, .inr (0, [.int nt0, .int ng0, .long mg0, .int ex0])), (o1, .inr (0, [.int nt1, .int ng1, .long mg1, .int ex1]))]) [0, 1, 2] (by decide) rfl
    have hf := Option.some.inj hf
    subst hf
    exact W.iret (v := f_rounded t1 t0 v6 v9 v8) hx hb hr (fun t ht hW => ⟨⟨f_rounded t1 t0 v6 v9 v8, (), rfl, rfl, by rw [ht]; exact hP, va_K.moved hW.alike hK, hD⟩, hS.F ht⟩) hS.2.2 dX2_divide_177
  have B121 : ∀ (ls : Array Slot) (H : Heap) (locs : List Loc) (v3 : Int32) (v6 : Int64) (t0 : Int32) (nt0 : Int32) (ng0 : Int32) (mg0 : Int64) (ex0 : Int32) (nt1 : Int32) (ng1 : Int32) (mg1 : Int64) (ex1 : Int32), f_divide_b121 size v3 v6 t0 nt0 ng0 mg0 ex0 nt1 ng1 mg1 ex1 = some r → lv_has ls 10 [(0, .ref th), (3, .int v3), (6, .long v6)] → va_P (dC, dI) tqCl [(th, .inr (2, [.int size, .ref sa, .ref s2, .ref s3, .ref o0, .ref o1])), (o0, .inr (0, [.int nt0, .int ng0, .long mg0, .int ex0])), (o1, .inr (0, [.int nt1, .int ng1, .long mg1, .int ex1]))] H → va_D A [(th, .inr (2, [.int size, .ref sa, .ref s2, .ref s3, .ref o0, .ref o1])), (o0, .inr (0, [.int nt0, .int ng0, .long mg0, .int ex0])), (o1, .inr (0, [.int nt1, .int ng1, .long mg1, .int ex1]))] → va_S A s.heap H locs → W p l e ({ frames := 4, cells := 0, slots := 0, locals := 97 }) s m ([.ref th, .int x, .int y] : List Value).toArray below meth c H locs 0 0 (MQ below (va_Qi (fun (a : Int32) (_ : Unit) => a = r.1) (fun (_ : Unit) (t : State) => va_P (dC, dI) tqCl [(th, .inr (2, [.int size, .ref sa, .ref s2, .ref s3, .ref o0, .ref o1])), (o0, .inr (0, [.int r.2.1, .int r.2.2.1, .long r.2.2.2.1, .int r.2.2.2.2.1])), (o1, .inr (0, [.int r.2.2.2.2.2.1, .int r.2.2.2.2.2.2.1, .long r.2.2.2.2.2.2.2.1, .int r.2.2.2.2.2.2.2.2]))] t.heap ∧ va_K (dC, dI) tqCl [] t ∧ va_D (A) [(th, .inr (2, [.int size, .ref sa, .ref s2, .ref s3, .ref o0, .ref o1])), (o0, .inr (0, [.int r.2.1, .int r.2.2.1, .long r.2.2.2.1, .int r.2.2.2.2.1])), (o1, .inr (0, [.int r.2.2.2.2.2.1, .int r.2.2.2.2.2.2.1, .long r.2.2.2.2.2.2.2.1, .int r.2.2.2.2.2.2.2.2]))]) (A)) ([.ref th, .int x, .int y] : List Value).toArray s 0 0 A) (F0 m 121 ls [.int t0]) := by
    try clear hf
    intro ls H locs v3 v6 t0 nt0 ng0 mg0 ex0 nt1 ng1 mg1 ex1 hf hl hP hD hS
    unfold f_divide_b121 at hf
    refine lv_istore (lv' := [(8, .int t0), (0, .ref th), (3, .int v3), (6, .long v6)]) hx hb dX2_divide_121 hl (by decide) rfl (fun ls hl => ?_)
    refine lv_aload_n hx hb dX2_divide_123 rfl (lv_at hl 1 rfl) ?_
    refine va_get (D := (dC, dI)) (ci := 2) (v := .ref o0) (C := RX2) (T := TX2) (N := 6) hx hb hww tqinX2 hown hK hP 0 rfl rfl 4 (by decide) (hww _ tqt_98) (fun _ h9 => h9) rfl dX2_divide_124 ?_
    refine va_get (D := (dC, dI)) (ci := 0) (v := .int ex0) (C := RX0) (T := TX0) (N := 4) hx hb hww tqinX0 hown hK hP 1 rfl rfl 3 (by decide) (hww _ tqt_83) (fun _ h9 => h9) rfl dX2_divide_127 ?_
    refine lv_iload_n hx hb dX2_divide_130 rfl (lv_at hl 2 rfl) ?_
    refine lv_isub hx hb dX2_divide_131 ?_
    refine lv_aload_n hx hb dX2_divide_132 rfl (lv_at hl 1 rfl) ?_
    refine va_get (D := (dC, dI)) (ci := 2) (v := .ref o1) (C := RX2) (T := TX2) (N := 6) hx hb hww tqinX2 hown hK hP 0 rfl rfl 5 (by decide) (hww _ tqt_99) (fun _ h9 => h9) rfl dX2_divide_133 ?_
    refine va_get (D := (dC, dI)) (ci := 0) (v := .int ex1) (C := RX0) (T := TX0) (N := 4) hx hb hww tqinX0 hown hK hP 2 rfl rfl 3 (by decide) (hww _ tqt_83) (fun _ h9 => h9) rfl dX2_divide_136 ?_
    refine lv_isub hx hb dX2_divide_139 ?_
    refine lv_topi (fun x19 e19 => ?_)
    have hf := tq_nm_at e19 hf
    refine lv_istore (lv' := [(9, .int x19), (8, .int t0), (0, .ref th), (3, .int v3), (6, .long v6)]) hx hb dX2_divide_140 hl (by decide) rfl (fun ls hl => ?_)
    refine lv_aload_n hx hb dX2_divide_142 rfl (lv_at hl 2 rfl) ?_
    refine va_get (D := (dC, dI)) (ci := 2) (v := .int size) (C := RX2) (T := TX2) (N := 6) hx hb hww tqinX2 hown hK hP 0 rfl rfl 0 (by decide) (hww _ tqt_94) (fun _ h9 => h9) rfl dX2_divide_143 ?_
    refine lv_aload_n hx hb dX2_divide_146 rfl (lv_at hl 2 rfl) ?_
    refine va_get (D := (dC, dI)) (ci := 2) (v := .ref o0) (C := RX2) (T := TX2) (N := 6) hx hb hww tqinX2 hown hK hP 0 rfl rfl 4 (by decide) (hww _ tqt_98) (fun _ h9 => h9) rfl dX2_divide_147 ?_
    refine va_get (D := (dC, dI)) (ci := 0) (v := .int ng0) (C := RX0) (T := TX0) (N := 4) hx hb hww tqinX0 hown hK hP 1 rfl rfl 1 (by decide) (hww _ tqt_77) (fun _ h9 => h9) rfl dX2_divide_150 ?_
    refine lv_aload_n hx hb dX2_divide_153 rfl (lv_at hl 2 rfl) ?_
    refine va_get (D := (dC, dI)) (ci := 2) (v := .ref o1) (C := RX2) (T := TX2) (N := 6) hx hb hww tqinX2 hown hK hP 0 rfl rfl 5 (by decide) (hww _ tqt_99) (fun _ h9 => h9) rfl dX2_divide_154 ?_
    refine va_get (D := (dC, dI)) (ci := 0) (v := .int ng1) (C := RX0) (T := TX0) (N := 4) hx hb hww tqinX0 hown hK hP 2 rfl rfl 1 (by decide) (hww _ tqt_77) (fun _ h9 => h9) rfl dX2_divide_157 ?_
    refine lv_icmp_eq hx hb dX2_divide_160 rfl (fun h20 => ?_) (fun h20 => ?_)
    · rw [if_pos h20] at hf
      refine lv_iconst (v := 0) hx hb dX2_divide_167 (by decide) ?_
      exact B168 ls _ _ v6 t0 x19 (0 : Int32) size nt0 ng0 mg0 ex0 nt1 ng1 mg1 ex1 hf (lv_sub hl [4, 1, 0] rfl) hP hD hS
    · rw [if_neg h20] at hf
      refine lv_iconst (v := 1) hx hb dX2_divide_163 (by decide) ?_
      refine lv_goto hx hb dX2_divide_164 rfl ?_
      exact B168 ls _ _ v6 t0 x19 (1 : Int32) size nt0 ng0 mg0 ex0 nt1 ng1 mg1 ex1 hf (lv_sub hl [4, 1, 0] rfl) hP hD hS
  unfold f_divide at hf
  refine lv_aload_n hx hb dX2_divide_0 rfl (lv_at hl 0 rfl) ?_
  refine va_get (D := (dC, dI)) (ci := 2) (v := .ref o0) (C := RX2) (T := TX2) (N := 6) hx hb hww tqinX2 hown hK hP 0 rfl rfl 4 (by decide) (hww _ tqt_98) (fun _ h9 => h9) rfl dX2_divide_1 ?_
  refine lv_iload_n hx hb dX2_divide_4 rfl (lv_at hl 1 rfl) ?_
  refine lv_aload_n hx hb dX2_divide_5 rfl (lv_at hl 0 rfl) ?_
  refine va_get (D := (dC, dI)) (ci := 2) (v := .int size) (C := RX2) (T := TX2) (N := 6) hx hb hww tqinX2 hown hK hP 0 rfl rfl 0 (by decide) (hww _ tqt_94) (fun _ h9 => h9) rfl dX2_divide_6 ?_
  obtain ⟨u, hu⟩ : ∃ u, u = f_read nt0 ng0 mg0 ex0 x size := ⟨_, rfl⟩
  have hf := tq_nm_at hu hf
  obtain ⟨nt01, ng02, mg03, ex04⟩ := u
  have hf := tq_nm_at (z := nt01) rfl hf
  have hf := tq_nm_at (z := ng02) rfl hf
  have hf := tq_nm_at (z := mg03) rfl hf
  have hf := tq_nm_at (z := ex04) rfl hf
  have hPc := hP.sub (ws' := [(o0, .inr (0, [.int nt0, .int ng0, .long mg0, .int ex0]))]) [1] rfl
  have hDc := hD.sub (ws' := [(o0, .inr (0, [.int nt0, .int ng0, .long mg0, .int ex0]))]) [1] (by decide) rfl
  have hKc := hK.sub (tys' := []) [] rfl
  have hFc := va_free (wc := [(o0, .inr (0, [.int nt0, .int ng0, .long mg0, .int ex0]))]) hD hS hA [1] rfl
  refine va_callv (va_runV (As := [.int x, .int size]) (rest := []) ⟨hx, hb, hml, hown, hww⟩ (c_f_read l dC dI o0 s.heap.size x size nt0 ng0 mg0 ex0 (nt01, ng02, mg03, ex04) hu.symm) (cwV 2 hww (tq_gV tqt_133 tqt_134 tqt_135 tqt_34 tqt_136) rfl rfl rfl (by decide +kernel) ⟨Nat.le_of_ble_eq_true rfl, Nat.le_of_ble_eq_true rfl⟩) ⟨fun a U g mk q => by obtain ⟨q0, q1, qP, qK, qD, qN⟩ := q; exact ⟨q0, q1, qP, va_K.moved (u := U) (U := U.calling g mk a) (Vm.Alike.refl U.vm) qK, qD, tqN_same (u := U) (U := U.calling g mk a) rfl qN⟩, va_recv hK hP (ci := 0) rfl (q0 := 1) rfl, fun U hU hW => ⟨rfl, by rw [hU], by rw [hU]; exact hPc, va_K.moved hW.alike hKc, hDc.weaken (fun _ _ _ _ => trivial), tqN_warm hW hN⟩⟩ rfl rfl hl.1 rfl (lv_room (Nat.le_of_ble_eq_true rfl)) dX2_divide_9 ⟨Nat.zero_le _, Nat.zero_le _⟩) hS (fun q _ h => hFc q h) hFc (fun u0 t H1 locs ht hvm hpost hB hz1 hk1 hS => ?_)
  obtain ⟨hP1, hK1, hD1⟩ := hB
  rw [ht] at hP1
  obtain ⟨hP, hD⟩ := va_join (wr := [(th, .inr (2, [.int size, .ref sa, .ref s2, .ref s3, .ref o0, .ref o1])), (o1, .inr (0, [.int nt1, .int ng1, .long mg1, .int ex1]))]) (w1 := [(o0, .inr (0, [.int nt01, .int ng02, .long mg03, .int ex04]))]) hP hD [1] [0, 2] rfl rfl (by decide) (by decide) hk1 hFc hP1 hD1
  generalize H1 = H at hP hS ⊢
  have hP := hP.sub (ws' := [(th, .inr (2, [.int size, .ref sa, .ref s2, .ref s3, .ref o0, .ref o1])), (o0, .inr (0, [.int nt01, .int ng02, .long mg03, .int ex04])), (o1, .inr (0, [.int nt1, .int ng1, .long mg1, .int ex1]))]) [0, 2, 1] rfl
  have hD := hD.sub (ws' := [(th, .inr (2, [.int size, .ref sa, .ref s2, .ref s3, .ref o0, .ref o1])), (o0, .inr (0, [.int nt01, .int ng02, .long mg03, .int ex04])), (o1, .inr (0, [.int nt1, .int ng1, .long mg1, .int ex1]))]) [0, 2, 1] (by decide) rfl
  refine lv_aload_n hx hb dX2_divide_12 rfl (lv_at hl 0 rfl) ?_
  refine va_get (D := (dC, dI)) (ci := 2) (v := .ref o1) (C := RX2) (T := TX2) (N := 6) hx hb hww tqinX2 hown hK hP 0 rfl rfl 5 (by decide) (hww _ tqt_99) (fun _ h9 => h9) rfl dX2_divide_13 ?_
  refine lv_iload_n hx hb dX2_divide_16 rfl (lv_at hl 2 rfl) ?_
  refine lv_aload_n hx hb dX2_divide_17 rfl (lv_at hl 0 rfl) ?_
  refine va_get (D := (dC, dI)) (ci := 2) (v := .int size) (C := RX2) (T := TX2) (N := 6) hx hb hww tqinX2 hown hK hP 0 rfl rfl 0 (by decide) (hww _ tqt_94) (fun _ h9 => h9) rfl dX2_divide_18 ?_
  obtain ⟨u, hu⟩ : ∃ u, u = f_read nt1 ng1 mg1 ex1 y size := ⟨_, rfl⟩
  have hf := tq_nm_at hu hf
  obtain ⟨nt05, ng06, mg07, ex08⟩ := u
  have hf := tq_nm_at (z := nt05) rfl hf
  have hf := tq_nm_at (z := ng06) rfl hf
  have hf := tq_nm_at (z := mg07) rfl hf
  have hf := tq_nm_at (z := ex08) rfl hf
  have hPc := hP.sub (ws' := [(o1, .inr (0, [.int nt1, .int ng1, .long mg1, .int ex1]))]) [2] rfl
  have hDc := hD.sub (ws' := [(o1, .inr (0, [.int nt1, .int ng1, .long mg1, .int ex1]))]) [2] (by decide) rfl
  have hKc := hK.sub (tys' := []) [] rfl
  have hFc := va_free (wc := [(o1, .inr (0, [.int nt1, .int ng1, .long mg1, .int ex1]))]) hD hS hA [2] rfl
  refine va_callv (va_runV (As := [.int y, .int size]) (rest := []) ⟨hx, hb, hml, hown, hww⟩ (c_f_read l dC dI o1 H.size y size nt1 ng1 mg1 ex1 (nt05, ng06, mg07, ex08) hu.symm) (cwV 2 hww (tq_gV tqt_133 tqt_134 tqt_135 tqt_34 tqt_136) rfl rfl rfl (by decide +kernel) ⟨Nat.le_of_ble_eq_true rfl, Nat.le_of_ble_eq_true rfl⟩) ⟨fun a U g mk q => by obtain ⟨q0, q1, qP, qK, qD, qN⟩ := q; exact ⟨q0, q1, qP, va_K.moved (u := U) (U := U.calling g mk a) (Vm.Alike.refl U.vm) qK, qD, tqN_same (u := U) (U := U.calling g mk a) rfl qN⟩, va_recv hK hP (ci := 0) rfl (q0 := 2) rfl, fun U hU hW => ⟨rfl, by rw [hU], by rw [hU]; exact hPc, va_K.moved hW.alike hKc, hDc.weaken (fun _ _ _ _ => trivial), tqN_warm hW hN⟩⟩ rfl rfl hl.1 rfl (lv_room (Nat.le_of_ble_eq_true rfl)) dX2_divide_21 ⟨Nat.zero_le _, Nat.zero_le _⟩) hS (fun q _ h => hFc q h) hFc (fun u0 t H1 locs ht hvm hpost hB hz1 hk1 hS => ?_)
  obtain ⟨hP1, hK1, hD1⟩ := hB
  rw [ht] at hP1
  obtain ⟨hP, hD⟩ := va_join (wr := [(th, .inr (2, [.int size, .ref sa, .ref s2, .ref s3, .ref o0, .ref o1])), (o0, .inr (0, [.int nt01, .int ng02, .long mg03, .int ex04]))]) (w1 := [(o1, .inr (0, [.int nt05, .int ng06, .long mg07, .int ex08]))]) hP hD [2] [0, 1] rfl rfl (by decide) (by decide) hk1 hFc hP1 hD1
  generalize H1 = H at hP hS ⊢
  have hP := hP.sub (ws' := [(th, .inr (2, [.int size, .ref sa, .ref s2, .ref s3, .ref o0, .ref o1])), (o0, .inr (0, [.int nt01, .int ng02, .long mg03, .int ex04])), (o1, .inr (0, [.int nt05, .int ng06, .long mg07, .int ex08]))]) [0, 1, 2] rfl
  have hD := hD.sub (ws' := [(th, .inr (2, [.int size, .ref sa, .ref s2, .ref s3, .ref o0, .ref o1])), (o0, .inr (0, [.int nt01, .int ng02, .long mg03, .int ex04])), (o1, .inr (0, [.int nt05, .int ng06, .long mg07, .int ex08]))]) [0, 1, 2] (by decide) rfl
  refine lv_aload_n hx hb dX2_divide_24 rfl (lv_at hl 0 rfl) ?_
  refine va_get (D := (dC, dI)) (ci := 2) (v := .ref o0) (C := RX2) (T := TX2) (N := 6) hx hb hww tqinX2 hown hK hP 0 rfl rfl 4 (by decide) (hww _ tqt_98) (fun _ h9 => h9) rfl dX2_divide_25 ?_
  refine va_get (D := (dC, dI)) (ci := 0) (v := .int nt01) (C := RX0) (T := TX0) (N := 4) hx hb hww tqinX0 hown hK hP 1 rfl rfl 0 (by decide) (hww _ tqt_74) (fun _ h9 => h9) rfl dX2_divide_28 ?_
  refine lv_if_ne hx hb dX2_divide_31 rfl (fun h9 => ?_) (fun h9 => ?_)
  · rw [if_pos h9] at hf
    exact B56 ls _ _ nt01 ng02 mg03 ex04 nt05 ng06 mg07 ex08 hf (lv_sub hl [0] rfl) hP hD hS
  · rw [if_neg (fun q : ¬ nt01 = 0 => q h9)] at hf
    refine lv_aload_n hx hb dX2_divide_34 rfl (lv_at hl 0 rfl) ?_
    refine va_get (D := (dC, dI)) (ci := 2) (v := .ref o1) (C := RX2) (T := TX2) (N := 6) hx hb hww tqinX2 hown hK hP 0 rfl rfl 5 (by decide) (hww _ tqt_99) (fun _ h9 => h9) rfl dX2_divide_35 ?_
    refine va_get (D := (dC, dI)) (ci := 0) (v := .int nt05) (C := RX0) (T := TX0) (N := 4) hx hb hww tqinX0 hown hK hP 2 rfl rfl 0 (by decide) (hww _ tqt_74) (fun _ h9 => h9) rfl dX2_divide_38 ?_
    refine lv_if_ne hx hb dX2_divide_41 rfl (fun h11 => ?_) (fun h11 => ?_)
    · rw [if_pos h11] at hf
      exact B56 ls _ _ nt01 ng02 mg03 ex04 nt05 ng06 mg07 ex08 hf (lv_sub hl [0] rfl) hP hD hS
    · rw [if_neg (fun q : ¬ nt05 = 0 => q h11)] at hf
      refine lv_aload_n hx hb dX2_divide_44 rfl (lv_at hl 0 rfl) ?_
      refine va_get (D := (dC, dI)) (ci := 2) (v := .ref o1) (C := RX2) (T := TX2) (N := 6) hx hb hww tqinX2 hown hK hP 0 rfl rfl 5 (by decide) (hww _ tqt_99) (fun _ h9 => h9) rfl dX2_divide_45 ?_
      refine va_get (D := (dC, dI)) (ci := 0) (v := .long mg07) (C := RX0) (T := TX0) (N := 4) hx hb hww tqinX0 hown hK hP 2 rfl rfl 2 (by decide) (hww _ tqt_80) (fun _ h9 => h9) rfl dX2_divide_48 ?_
      refine lv_lconst (v := 0) hx hb dX2_divide_51 (by decide) ?_
      refine W.lcmp hx hb dX2_divide_52 ?_
      refine lv_if_ne hx hb dX2_divide_53 rfl (fun h12 => ?_) (fun h12 => ?_)
      · rw [if_pos h12] at hf
        refine lv_aload_n hx hb dX2_divide_64 rfl (lv_at hl 0 rfl) ?_
        refine va_get (D := (dC, dI)) (ci := 2) (v := .ref o0) (C := RX2) (T := TX2) (N := 6) hx hb hww tqinX2 hown hK hP 0 rfl rfl 4 (by decide) (hww _ tqt_98) (fun _ h9 => h9) rfl dX2_divide_65 ?_
        refine va_get (D := (dC, dI)) (ci := 0) (v := .long mg03) (C := RX0) (T := TX0) (N := 4) hx hb hww tqinX0 hown hK hP 1 rfl rfl 2 (by decide) (hww _ tqt_80) (fun _ h9 => h9) rfl dX2_divide_68 ?_
        have hPc := hP.sub (ws' := []) [] rfl
        have hDc := hD.sub (ws' := []) [] (by decide) rfl
        have hKc := hK.sub (tys' := []) [] rfl
        have hFc := va_free (wc := []) hD hS hA [] rfl
        refine va_calli (va_runS (As := [.long mg03]) (rest := []) ⟨hx, hb, hml, hown, hww⟩ (c_f_lnlz l dC dI H.size mg03 (f_lnlz mg03) rfl) (va_cwS 1 hww (tq_gS tqt_246 tqt_219 tqt_38 tqt_220) rfl rfl rfl (by decide +kernel) ⟨Nat.le_of_ble_eq_true rfl, Nat.le_of_ble_eq_true rfl⟩) ⟨fun a U g mk q => by obtain ⟨q0, q1, qP, qK, qD, qN⟩ := q; exact ⟨q0, q1, qP, va_K.moved (u := U) (U := U.calling g mk a) (Vm.Alike.refl U.vm) qK, qD, tqN_same (u := U) (U := U.calling g mk a) rfl qN⟩, fun U hU hW => ⟨rfl, by rw [hU], by rw [hU]; exact hPc, va_K.moved hW.alike hKc, hDc.weaken (fun _ _ _ _ => trivial), tqN_warm hW hN⟩⟩ rfl rfl hl.1 rfl (lv_room (Nat.le_of_ble_eq_true rfl)) dX2_divide_71 ⟨Nat.zero_le _, Nat.zero_le _⟩) hS (fun q _ h => hFc q h) hFc (fun ra u0 t H1 locs ht hvm hpost hB hz1 hk1 hS => ?_)
        have hpost : (f_lnlz mg03) = ra := (show ra = (f_lnlz mg03) from hpost).symm
        subst hpost
        obtain ⟨hP1, hK1, hD1⟩ := hB
        rw [ht] at hP1
        obtain ⟨hP, hD⟩ := va_join (wr := [(th, .inr (2, [.int size, .ref sa, .ref s2, .ref s3, .ref o0, .ref o1])), (o0, .inr (0, [.int nt01, .int ng02, .long mg03, .int ex04])), (o1, .inr (0, [.int nt05, .int ng06, .long mg07, .int ex08]))]) (w1 := []) hP hD [] [0, 1, 2] rfl rfl (by decide) (by decide) hk1 hFc hP1 hD1
        generalize H1 = H at hP hS ⊢
        have hP := hP.sub (ws' := [(th, .inr (2, [.int size, .ref sa, .ref s2, .ref s3, .ref o0, .ref o1])), (o0, .inr (0, [.int nt01, .int ng02, .long mg03, .int ex04])), (o1, .inr (0, [.int nt05, .int ng06, .long mg07, .int ex08]))]) [0, 1, 2] rfl
        have hD := hD.sub (ws' := [(th, .inr (2, [.int size, .ref sa, .ref s2, .ref s3, .ref o0, .ref o1])), (o0, .inr (0, [.int nt01, .int ng02, .long mg03, .int ex04])), (o1, .inr (0, [.int nt05, .int ng06, .long mg07, .int ex08]))]) [0, 1, 2] (by decide) rfl
        refine lv_iconst (v := 1) hx hb dX2_divide_74 (by decide) ?_
        refine lv_isub hx hb dX2_divide_75 ?_
        refine lv_topi (fun x14 e14 => ?_)
        have hf := tq_nm_at e14 hf
        refine lv_istore_n (lv' := [(3, .int x14), (0, .ref th), (1, .int x), (2, .int y)]) hx hb dX2_divide_76 rfl hl (by decide) rfl (fun ls hl => ?_)
        refine lv_aload_n hx hb dX2_divide_77 rfl (lv_at hl 1 rfl) ?_
        refine va_get (D := (dC, dI)) (ci := 2) (v := .ref o0) (C := RX2) (T := TX2) (N := 6) hx hb hww tqinX2 hown hK hP 0 rfl rfl 4 (by decide) (hww _ tqt_98) (fun _ h9 => h9) rfl dX2_divide_78 ?_
        refine va_get (D := (dC, dI)) (ci := 0) (v := .long mg03) (C := RX0) (T := TX0) (N := 4) hx hb hww tqinX0 hown hK hP 1 rfl rfl 2 (by decide) (hww _ tqt_80) (fun _ h9 => h9) rfl dX2_divide_81 ?_
        refine lv_iload_n hx hb dX2_divide_84 rfl (lv_at hl 0 rfl) ?_
        refine lv_lshl hx hb dX2_divide_85 rfl ?_
        refine lv_topl (fun x15 e15 => ?_)
        have hf := tq_nm_at e15 hf
        refine lv_lstore (lv' := [(4, .long x15), (3, .int x14), (0, .ref th), (1, .int x), (2, .int y)]) hx hb dX2_divide_86 hl (by decide) rfl (fun ls hl => ?_)
        refine lv_lload hx hb dX2_divide_88 (lv_at hl 0 rfl) ?_
        refine lv_aload_n hx hb dX2_divide_90 rfl (lv_at hl 2 rfl) ?_
        refine va_get (D := (dC, dI)) (ci := 2) (v := .ref o1) (C := RX2) (T := TX2) (N := 6) hx hb hww tqinX2 hown hK hP 0 rfl rfl 5 (by decide) (hww _ tqt_99) (fun _ h9 => h9) rfl dX2_divide_91 ?_
        refine va_get (D := (dC, dI)) (ci := 0) (v := .long mg07) (C := RX0) (T := TX0) (N := 4) hx hb hww tqinX0 hown hK hP 2 rfl rfl 2 (by decide) (hww _ tqt_80) (fun _ h9 => h9) rfl dX2_divide_94 ?_
        by_cases h16 : mg07 = 0
        · rw [if_pos h16] at hf
          cases hf
        · rw [if_neg h16] at hf
          refine lv_ldiv hx hb dX2_divide_97 h16 ?_
          refine lv_topl (fun x17 e17 => ?_)
          have hf := tq_nm_at e17 hf
          refine lv_lstore (lv' := [(6, .long x17), (4, .long x15), (3, .int x14), (0, .ref th), (1, .int x), (2, .int y)]) hx hb dX2_divide_98 hl (by decide) rfl (fun ls hl => ?_)
          refine lv_lload hx hb dX2_divide_100 (lv_at hl 0 rfl) ?_
          refine lv_aload_n hx hb dX2_divide_102 rfl (lv_at hl 3 rfl) ?_
          refine va_get (D := (dC, dI)) (ci := 2) (v := .ref o1) (C := RX2) (T := TX2) (N := 6) hx hb hww tqinX2 hown hK hP 0 rfl rfl 5 (by decide) (hww _ tqt_99) (fun _ h9 => h9) rfl dX2_divide_103 ?_
          refine va_get (D := (dC, dI)) (ci := 0) (v := .long mg07) (C := RX0) (T := TX0) (N := 4) hx hb hww tqinX0 hown hK hP 2 rfl rfl 2 (by decide) (hww _ tqt_80) (fun _ h9 => h9) rfl dX2_divide_106 ?_
          refine lv_lmul hx hb dX2_divide_109 ?_
          refine lv_lload hx hb dX2_divide_110 (lv_at hl 1 rfl) ?_
          refine W.lcmp hx hb dX2_divide_112 ?_
          refine lv_if_eq hx hb dX2_divide_113 rfl (fun h18 => ?_) (fun h18 => ?_)
          · rw [if_pos h18] at hf
            refine lv_iconst (v := 0) hx hb dX2_divide_120 (by decide) ?_
            exact B121 ls _ _ x14 x17 (0 : Int32) nt01 ng02 mg03 ex04 nt05 ng06 mg07 ex08 hf (lv_sub hl [3, 2, 0] rfl) hP hD hS
          · rw [if_neg h18] at hf
            refine lv_iconst (v := 1) hx hb dX2_divide_116 (by decide) ?_
            refine lv_goto hx hb dX2_divide_117 rfl ?_
            exact B121 ls _ _ x14 x17 (1 : Int32) nt01 ng02 mg03 ex04 nt05 ng06 mg07 ex08 hf (lv_sub hl [3, 2, 0] rfl) hP hD hS
      · rw [if_neg (fun q : ¬ (lg_cmp mg07 (0 : Int64)) = 0 => q h12)] at hf
        exact B56 ls _ _ nt01 ng02 mg03 ex04 nt05 ng06 mg07 ex08 hf (lv_sub hl [0] rfl) hP hD hS
set_option maxHeartbeats 4000000 in
set_option maxRecDepth 100000 in
theorem c_f_setProduct (l : Launch) (dC : Nat → ClassId) (dI : Nat → Nat → Nat) (th : Nat) (sx : Nat) (sa : Nat) (s2 : Nat) (s3 : Nat) (o0 : Nat) (o1 : Nat) (wx : Nat) (cL : ClassId) (sz : Nat) (x : Int32) (y : Int32) (size : Int32) (nt0 : Int32) (ng0 : Int32) (mg0 : Int64) (ex0 : Int32) (nt1 : Int32) (ng1 : Int32) (mg1 : Int64) (ex1 : Int32) (p0 : Int32) (N0 : Nat) (f : Nat → Int64) (r : Int32 × Int32 × Int64 × Int32 × Int32 × Int32 × Int64 × Int32 × (Nat → Int64)) (hf : f_setProduct size nt0 ng0 mg0 ex0 nt1 ng1 mg1 ex1 p0 N0 f x y = some r) : Met l yX2_setProduct tqw_X2_setProduct ({ frames := 4, cells := 0, slots := 0, locals := 97 }) (va_Pc [.ref th, .ref sx, .int x, .int y] (fun U => U.heap.size = sz ∧ va_P (dC, dI) tqCl [(th, .inr (2, [.int size, .ref sa, .ref s2, .ref s3, .ref o0, .ref o1])), (o0, .inr (0, [.int nt0, .int ng0, .long mg0, .int ex0])), (o1, .inr (0, [.int nt1, .int ng1, .long mg1, .int ex1])), (sx, .inr (1, [.int p0, .ref wx])), (wx, .inl (cL, N0, .inr (.inl f)))] U.heap ∧ va_K (dC, dI) tqCl [(cL, .long)] U ∧ va_D (fun _ => True) [(th, .inr (2, [.int size, .ref sa, .ref s2, .ref s3, .ref o0, .ref o1])), (o0, .inr (0, [.int nt0, .int ng0, .long mg0, .int ex0])), (o1, .inr (0, [.int nt1, .int ng1, .long mg1, .int ex1])), (sx, .inr (1, [.int p0, .ref wx])), (wx, .inl (cL, N0, .inr (.inl f)))] ∧ tqN U)) (va_Qv (fun (_ : Unit) => True) (fun (_ : Unit) (t : State) => va_P (dC, dI) tqCl [(th, .inr (2, [.int size, .ref sa, .ref s2, .ref s3, .ref o0, .ref o1])), (o0, .inr (0, [.int r.1, .int r.2.1, .long r.2.2.1, .int r.2.2.2.1])), (o1, .inr (0, [.int r.2.2.2.2.1, .int r.2.2.2.2.2.1, .long r.2.2.2.2.2.2.1, .int r.2.2.2.2.2.2.2.1])), (sx, .inr (1, [.int p0, .ref wx])), (wx, .inl (cL, N0, .inr (.inl r.2.2.2.2.2.2.2.2)))] t.heap ∧ va_K (dC, dI) tqCl [(cL, .long)] t ∧ va_D (va_A [(th, .inr (2, [.int size, .ref sa, .ref s2, .ref s3, .ref o0, .ref o1])), (o0, .inr (0, [.int nt0, .int ng0, .long mg0, .int ex0])), (o1, .inr (0, [.int nt1, .int ng1, .long mg1, .int ex1])), (sx, .inr (1, [.int p0, .ref wx])), (wx, .inl (cL, N0, .inr (.inl f)))] sz) [(th, .inr (2, [.int size, .ref sa, .ref s2, .ref s3, .ref o0, .ref o1])), (o0, .inr (0, [.int r.1, .int r.2.1, .long r.2.2.1, .int r.2.2.2.1])), (o1, .inr (0, [.int r.2.2.2.2.1, .int r.2.2.2.2.2.1, .long r.2.2.2.2.2.2.1, .int r.2.2.2.2.2.2.2.1])), (sx, .inr (1, [.int p0, .ref wx])), (wx, .inl (cL, N0, .inr (.inl r.2.2.2.2.2.2.2.2)))]) (va_A [(th, .inr (2, [.int size, .ref sa, .ref s2, .ref s3, .ref o0, .ref o1])), (o0, .inr (0, [.int nt0, .int ng0, .long mg0, .int ex0])), (o1, .inr (0, [.int nt1, .int ng1, .long mg1, .int ex1])), (sx, .inr (1, [.int p0, .ref wx])), (wx, .inl (cL, N0, .inr (.inl f)))] sz)) 0 0 (va_A [(th, .inr (2, [.int size, .ref sa, .ref s2, .ref s3, .ref o0, .ref o1])), (o0, .inr (0, [.int nt0, .int ng0, .long mg0, .int ex0])), (o1, .inr (0, [.int nt1, .int ng1, .long mg1, .int ex1])), (sx, .inr (1, [.int p0, .ref wx])), (wx, .inl (cL, N0, .inr (.inl f)))] sz) := by
  refine Met.ofW (cc := cX2_setProduct) (maxL := 4) (ret := none) (by decide) rfl ?_
  intro p e s m args below meth c s₁ B hml hv
  obtain ⟨rfl, hsz, hP, hK, hD0, hN⟩ := hv
  have hx := B.exec
  have hb := B.bytes
  have hr := B.returns
  have hts := atoms_spec (ws := tqw_X2_setProduct) B.pre
  have hww : ∀ w ∈ tqW, w.before _ s = true := fun w h => hts w (List.mem_cons_of_mem _ h)
  have hown : s.vm.findClass RX2 = some m.cls := findClass_of_methodNamed B.named
  have hlocks := B.notSynchronized
  subst hsz
  have hD := hD0.self (sz := s.heap.size)
  generalize hAe : va_A [(th, .inr (2, [.int size, .ref sa, .ref s2, .ref s3, .ref o0, .ref o1])), (o0, .inr (0, [.int nt0, .int ng0, .long mg0, .int ex0])), (o1, .inr (0, [.int nt1, .int ng1, .long mg1, .int ex1])), (sx, .inr (1, [.int p0, .ref wx])), (wx, .inl (cL, N0, .inr (.inl f)))] s.heap.size = A at hD ⊢
  have hA : ∀ q : Nat, s.heap.size ≤ q → A q := fun q h => by rw [← hAe]; exact Or.inr h
  have hS : va_S A s.heap s.heap [] := va_S.rf
  have hP : va_P (dC, dI) tqCl [(th, .inr (2, [.int size, .ref sa, .ref s2, .ref s3, .ref o0, .ref o1])), (o0, .inr (0, [.int nt0, .int ng0, .long mg0, .int ex0])), (o1, .inr (0, [.int nt1, .int ng1, .long mg1, .int ex1])), (sx, .inr (1, [.int p0, .ref wx])), (wx, .inl (cL, N0, .inr (.inl f)))] s.heap := hP
  have hl := lv_entry ([.ref th, .ref sx, .int x, .int y]) (n := 4) (Nat.le_of_ble_eq_true rfl)
  rw [lg_entry_eq]
  generalize (lg_sl ([.ref th, .ref sx, .int x, .int y]) ++ List.replicate (4 - (lg_sl ([.ref th, .ref sx, .int x, .int y])).length) Slot.unset).toArray = ls at hl ⊢
  have hl : lv_has ls 4 [(0, .ref th), (1, .ref sx), (2, .int x), (3, .int y)] := hl
  unfold f_setProduct at hf
  refine lv_aload_n hx hb dX2_setProduct_0 rfl (lv_at hl 0 rfl) ?_
  refine va_get (D := (dC, dI)) (ci := 2) (v := .ref o0) (C := RX2) (T := TX2) (N := 6) hx hb hww tqinX2 hown hK hP 0 rfl rfl 4 (by decide) (hww _ tqt_98) (fun _ h9 => h9) rfl dX2_setProduct_1 ?_
  refine lv_iload_n hx hb dX2_setProduct_4 rfl (lv_at hl 2 rfl) ?_
  refine lv_aload_n hx hb dX2_setProduct_5 rfl (lv_at hl 0 rfl) ?_
  refine va_get (D := (dC, dI)) (ci := 2) (v := .int size) (C := RX2) (T := TX2) (N := 6) hx hb hww tqinX2 hown hK hP 0 rfl rfl 0 (by decide) (hww _ tqt_94) (fun _ h9 => h9) rfl dX2_setProduct_6 ?_
  obtain ⟨u, hu⟩ : ∃ u, u = f_read nt0 ng0 mg0 ex0 x size := ⟨_, rfl⟩
  have hf := tq_nm_at hu hf
  obtain ⟨nt01, ng02, mg03, ex04⟩ := u
  have hf := tq_nm_at (z := nt01) rfl hf
  have hf := tq_nm_at (z := ng02) rfl hf
  have hf := tq_nm_at (z := mg03) rfl hf
  have hf := tq_nm_at (z := ex04) rfl hf
  have hPc := hP.sub (ws' := [(o0, .inr (0, [.int nt0, .int ng0, .long mg0, .int ex0]))]) [1] rfl
  have hDc := hD.sub (ws' := [(o0, .inr (0, [.int nt0, .int ng0, .long mg0, .int ex0]))]) [1] (by decide) rfl
  have hKc := hK.sub (tys' := []) [] rfl
  have hFc := va_free (wc := [(o0, .inr (0, [.int nt0, .int ng0, .long mg0, .int ex0]))]) hD hS hA [1] rfl
  refine va_callv (va_runV (As := [.int x, .int size]) (rest := []) ⟨hx, hb, hml, hown, hww⟩ (c_f_read l dC dI o0 s.heap.size x size nt0 ng0 mg0 ex0 (nt01, ng02, mg03, ex04) hu.symm) (cwV 2 hww (tq_gV tqt_133 tqt_134 tqt_135 tqt_34 tqt_136) rfl rfl rfl (by decide +kernel) ⟨Nat.le_of_ble_eq_true rfl, Nat.le_of_ble_eq_true rfl⟩) ⟨fun a U g mk q => by obtain ⟨q0, q1, qP, qK, qD, qN⟩ := q; exact ⟨q0, q1, qP, va_K.moved (u := U) (U := U.calling g mk a) (Vm.Alike.refl U.vm) qK, qD, tqN_same (u := U) (U := U.calling g mk a) rfl qN⟩, va_recv hK hP (ci := 0) rfl (q0 := 1) rfl, fun U hU hW => ⟨rfl, by rw [hU], by rw [hU]; exact hPc, va_K.moved hW.alike hKc, hDc.weaken (fun _ _ _ _ => trivial), tqN_warm hW hN⟩⟩ rfl rfl hl.1 rfl (lv_room (Nat.le_of_ble_eq_true rfl)) dX2_setProduct_9 ⟨Nat.zero_le _, Nat.zero_le _⟩) hS (fun q _ h => hFc q h) hFc (fun u0 t H1 locs ht hvm hpost hB hz1 hk1 hS => ?_)
  obtain ⟨hP1, hK1, hD1⟩ := hB
  rw [ht] at hP1
  obtain ⟨hP, hD⟩ := va_join (wr := [(th, .inr (2, [.int size, .ref sa, .ref s2, .ref s3, .ref o0, .ref o1])), (o1, .inr (0, [.int nt1, .int ng1, .long mg1, .int ex1])), (sx, .inr (1, [.int p0, .ref wx])), (wx, .inl (cL, N0, .inr (.inl f)))]) (w1 := [(o0, .inr (0, [.int nt01, .int ng02, .long mg03, .int ex04]))]) hP hD [1] [0, 2, 3, 4] rfl rfl (by decide) (by decide) hk1 hFc hP1 hD1
  generalize H1 = H at hP hS ⊢
  have hP := hP.sub (ws' := [(th, .inr (2, [.int size, .ref sa, .ref s2, .ref s3, .ref o0, .ref o1])), (o0, .inr (0, [.int nt01, .int ng02, .long mg03, .int ex04])), (o1, .inr (0, [.int nt1, .int ng1, .long mg1, .int ex1])), (sx, .inr (1, [.int p0, .ref wx])), (wx, .inl (cL, N0, .inr (.inl f)))]) [0, 4, 1, 2, 3] rfl
  have hD := hD.sub (ws' := [(th, .inr (2, [.int size, .ref sa, .ref s2, .ref s3, .ref o0, .ref o1])), (o0, .inr (0, [.int nt01, .int ng02, .long mg03, .int ex04])), (o1, .inr (0, [.int nt1, .int ng1, .long mg1, .int ex1])), (sx, .inr (1, [.int p0, .ref wx])), (wx, .inl (cL, N0, .inr (.inl f)))]) [0, 4, 1, 2, 3] (by decide) rfl
  refine lv_aload_n hx hb dX2_setProduct_12 rfl (lv_at hl 0 rfl) ?_
  refine va_get (D := (dC, dI)) (ci := 2) (v := .ref o1) (C := RX2) (T := TX2) (N := 6) hx hb hww tqinX2 hown hK hP 0 rfl rfl 5 (by decide) (hww _ tqt_99) (fun _ h9 => h9) rfl dX2_setProduct_13 ?_
  refine lv_iload_n hx hb dX2_setProduct_16 rfl (lv_at hl 3 rfl) ?_
  refine lv_aload_n hx hb dX2_setProduct_17 rfl (lv_at hl 0 rfl) ?_
  refine va_get (D := (dC, dI)) (ci := 2) (v := .int size) (C := RX2) (T := TX2) (N := 6) hx hb hww tqinX2 hown hK hP 0 rfl rfl 0 (by decide) (hww _ tqt_94) (fun _ h9 => h9) rfl dX2_setProduct_18 ?_
  obtain ⟨u, hu⟩ : ∃ u, u = f_read nt1 ng1 mg1 ex1 y size := ⟨_, rfl⟩
  have hf := tq_nm_at hu hf
  obtain ⟨nt05, ng06, mg07, ex08⟩ := u
  have hf := tq_nm_at (z := nt05) rfl hf
  have hf := tq_nm_at (z := ng06) rfl hf
  have hf := tq_nm_at (z := mg07) rfl hf
  have hf := tq_nm_at (z := ex08) rfl hf
  have hPc := hP.sub (ws' := [(o1, .inr (0, [.int nt1, .int ng1, .long mg1, .int ex1]))]) [2] rfl
  have hDc := hD.sub (ws' := [(o1, .inr (0, [.int nt1, .int ng1, .long mg1, .int ex1]))]) [2] (by decide) rfl
  have hKc := hK.sub (tys' := []) [] rfl
  have hFc := va_free (wc := [(o1, .inr (0, [.int nt1, .int ng1, .long mg1, .int ex1]))]) hD hS hA [2] rfl
  refine va_callv (va_runV (As := [.int y, .int size]) (rest := []) ⟨hx, hb, hml, hown, hww⟩ (c_f_read l dC dI o1 H.size y size nt1 ng1 mg1 ex1 (nt05, ng06, mg07, ex08) hu.symm) (cwV 2 hww (tq_gV tqt_133 tqt_134 tqt_135 tqt_34 tqt_136) rfl rfl rfl (by decide +kernel) ⟨Nat.le_of_ble_eq_true rfl, Nat.le_of_ble_eq_true rfl⟩) ⟨fun a U g mk q => by obtain ⟨q0, q1, qP, qK, qD, qN⟩ := q; exact ⟨q0, q1, qP, va_K.moved (u := U) (U := U.calling g mk a) (Vm.Alike.refl U.vm) qK, qD, tqN_same (u := U) (U := U.calling g mk a) rfl qN⟩, va_recv hK hP (ci := 0) rfl (q0 := 2) rfl, fun U hU hW => ⟨rfl, by rw [hU], by rw [hU]; exact hPc, va_K.moved hW.alike hKc, hDc.weaken (fun _ _ _ _ => trivial), tqN_warm hW hN⟩⟩ rfl rfl hl.1 rfl (lv_room (Nat.le_of_ble_eq_true rfl)) dX2_setProduct_21 ⟨Nat.zero_le _, Nat.zero_le _⟩) hS (fun q _ h => hFc q h) hFc (fun u0 t H1 locs ht hvm hpost hB hz1 hk1 hS => ?_)
  obtain ⟨hP1, hK1, hD1⟩ := hB
  rw [ht] at hP1
  obtain ⟨hP, hD⟩ := va_join (wr := [(th, .inr (2, [.int size, .ref sa, .ref s2, .ref s3, .ref o0, .ref o1])), (o0, .inr (0, [.int nt01, .int ng02, .long mg03, .int ex04])), (sx, .inr (1, [.int p0, .ref wx])), (wx, .inl (cL, N0, .inr (.inl f)))]) (w1 := [(o1, .inr (0, [.int nt05, .int ng06, .long mg07, .int ex08]))]) hP hD [2] [0, 1, 3, 4] rfl rfl (by decide) (by decide) hk1 hFc hP1 hD1
  generalize H1 = H at hP hS ⊢
  have hP := hP.sub (ws' := [(th, .inr (2, [.int size, .ref sa, .ref s2, .ref s3, .ref o0, .ref o1])), (o0, .inr (0, [.int nt01, .int ng02, .long mg03, .int ex04])), (o1, .inr (0, [.int nt05, .int ng06, .long mg07, .int ex08])), (sx, .inr (1, [.int p0, .ref wx])), (wx, .inl (cL, N0, .inr (.inl f)))]) [0, 1, 4, 2, 3] rfl
  have hD := hD.sub (ws' := [(th, .inr (2, [.int size, .ref sa, .ref s2, .ref s3, .ref o0, .ref o1])), (o0, .inr (0, [.int nt01, .int ng02, .long mg03, .int ex04])), (o1, .inr (0, [.int nt05, .int ng06, .long mg07, .int ex08])), (sx, .inr (1, [.int p0, .ref wx])), (wx, .inl (cL, N0, .inr (.inl f)))]) [0, 1, 4, 2, 3] (by decide) rfl
  refine lv_aload_n hx hb dX2_setProduct_24 rfl (lv_at hl 1 rfl) ?_
  refine lv_aload_n hx hb dX2_setProduct_25 rfl (lv_at hl 0 rfl) ?_
  refine va_get (D := (dC, dI)) (ci := 2) (v := .ref o0) (C := RX2) (T := TX2) (N := 6) hx hb hww tqinX2 hown hK hP 0 rfl rfl 4 (by decide) (hww _ tqt_98) (fun _ h9 => h9) rfl dX2_setProduct_26 ?_
  refine lv_aload_n hx hb dX2_setProduct_29 rfl (lv_at hl 0 rfl) ?_
  refine va_get (D := (dC, dI)) (ci := 2) (v := .ref o1) (C := RX2) (T := TX2) (N := 6) hx hb hww tqinX2 hown hK hP 0 rfl rfl 5 (by decide) (hww _ tqt_99) (fun _ h9 => h9) rfl dX2_setProduct_30 ?_
  obtain ⟨f09, hu, hf⟩ := tq_bd_some hf
  have hPc := hP.sub (ws' := [(sx, .inr (1, [.int p0, .ref wx])), (wx, .inl (cL, N0, .inr (.inl f))), (o0, .inr (0, [.int nt01, .int ng02, .long mg03, .int ex04])), (o1, .inr (0, [.int nt05, .int ng06, .long mg07, .int ex08]))]) [3, 4, 1, 2] rfl
  have hDc := hD.sub (ws' := [(sx, .inr (1, [.int p0, .ref wx])), (wx, .inl (cL, N0, .inr (.inl f))), (o0, .inr (0, [.int nt01, .int ng02, .long mg03, .int ex04])), (o1, .inr (0, [.int nt05, .int ng06, .long mg07, .int ex08]))]) [3, 4, 1, 2] (by decide) rfl
  have hKc := hK.sub (tys' := [(cL, .long)]) [0] rfl
  have hFc := va_free (wc := [(sx, .inr (1, [.int p0, .ref wx])), (wx, .inl (cL, N0, .inr (.inl f))), (o0, .inr (0, [.int nt01, .int ng02, .long mg03, .int ex04])), (o1, .inr (0, [.int nt05, .int ng06, .long mg07, .int ex08]))]) hD hS hA [3, 4, 1, 2] rfl
  refine va_callv (va_runV (As := [.ref o0, .ref o1]) (rest := []) ⟨hx, hb, hml, hown, hww⟩ (c_f_sumProduct l dC dI sx o0 o1 wx cL H.size p0 N0 f nt01 ng02 mg03 ex04 nt05 ng06 mg07 ex08 f09 hu) (cwV 2 hww (tq_gV tqt_162 tqt_163 tqt_164 tqt_33 tqt_165) rfl rfl rfl (by decide +kernel) ⟨Nat.le_of_ble_eq_true rfl, Nat.le_of_ble_eq_true rfl⟩) ⟨fun a U g mk q => by obtain ⟨q0, q1, qP, qK, qD, qN⟩ := q; exact ⟨q0, q1, qP, va_K.moved (u := U) (U := U.calling g mk a) (Vm.Alike.refl U.vm) qK, qD, tqN_same (u := U) (U := U.calling g mk a) rfl qN⟩, va_recv hK hP (ci := 1) rfl (q0 := 3) rfl, fun U hU hW => ⟨rfl, by rw [hU], by rw [hU]; exact hPc, va_K.moved hW.alike hKc, hDc.weaken (fun _ _ _ _ => trivial), tqN_warm hW hN⟩⟩ rfl rfl hl.1 rfl (lv_room (Nat.le_of_ble_eq_true rfl)) dX2_setProduct_33 ⟨Nat.zero_le _, Nat.zero_le _⟩) hS (fun q _ h => hFc q h) hFc (fun u0 t H1 locs ht hvm hpost hB hz1 hk1 hS => ?_)
  obtain ⟨hP1, hK1, hD1⟩ := hB
  rw [ht] at hP1
  obtain ⟨hP, hD⟩ := va_join (wr := [(th, .inr (2, [.int size, .ref sa, .ref s2, .ref s3, .ref o0, .ref o1]))]) (w1 := [(sx, .inr (1, [.int p0, .ref wx])), (wx, .inl (cL, N0, .inr (.inl f09))), (o0, .inr (0, [.int nt01, .int ng02, .long mg03, .int ex04])), (o1, .inr (0, [.int nt05, .int ng06, .long mg07, .int ex08]))]) hP hD [3, 4, 1, 2] [0] rfl rfl (by decide) (by decide) hk1 hFc hP1 hD1
  generalize H1 = H at hP hS ⊢
  have hP := hP.sub (ws' := [(th, .inr (2, [.int size, .ref sa, .ref s2, .ref s3, .ref o0, .ref o1])), (o0, .inr (0, [.int nt01, .int ng02, .long mg03, .int ex04])), (o1, .inr (0, [.int nt05, .int ng06, .long mg07, .int ex08])), (sx, .inr (1, [.int p0, .ref wx])), (wx, .inl (cL, N0, .inr (.inl f09)))]) [0, 3, 4, 1, 2] rfl
  have hD := hD.sub (ws' := [(th, .inr (2, [.int size, .ref sa, .ref s2, .ref s3, .ref o0, .ref o1])), (o0, .inr (0, [.int nt01, .int ng02, .long mg03, .int ex04])), (o1, .inr (0, [.int nt05, .int ng06, .long mg07, .int ex08])), (sx, .inr (1, [.int p0, .ref wx])), (wx, .inl (cL, N0, .inr (.inl f09)))]) [0, 3, 4, 1, 2] (by decide) rfl
  have hf := Option.some.inj hf
  subst hf
  exact W.vret hx hb hr (fun t ht hW => ⟨⟨(), rfl, trivial, by rw [ht]; exact hP, va_K.moved hW.alike hK, hD⟩, hS.F ht⟩) hS.2.2 dX2_setProduct_36
set_option maxHeartbeats 4000000 in
set_option maxRecDepth 100000 in
theorem c_f_roundedSum (l : Launch) (dC : Nat → ClassId) (dI : Nat → Nat → Nat) (th : Nat) (sx : Nat) (sa : Nat) (s2 : Nat) (s3 : Nat) (o0 : Nat) (o1 : Nat) (wx : Nat) (w3 : Nat) (cL : ClassId) (sz : Nat) (size : Int32) (p0 : Int32) (N0 : Nat) (f : Nat → Int64) (f3 : Nat → Int64) (r : Int32 × (Nat → Int64)) (hf : f_roundedSum size p0 N0 f f3 = some r) : Met l yX2_roundedSum tqw_X2_roundedSum ({ frames := 3, cells := 0, slots := 0, locals := 65 }) (va_Pc [.ref th, .ref sx] (fun U => U.heap.size = sz ∧ va_P (dC, dI) tqCl [(th, .inr (2, [.int size, .ref sa, .ref s2, .ref s3, .ref o0, .ref o1])), (sx, .inr (1, [.int p0, .ref wx])), (wx, .inl (cL, N0, .inr (.inl f))), (s3, .inr (1, [.int p0, .ref w3])), (w3, .inl (cL, N0, .inr (.inl f3)))] U.heap ∧ va_K (dC, dI) tqCl [(cL, .long)] U ∧ va_D (fun _ => True) [(th, .inr (2, [.int size, .ref sa, .ref s2, .ref s3, .ref o0, .ref o1])), (sx, .inr (1, [.int p0, .ref wx])), (wx, .inl (cL, N0, .inr (.inl f))), (s3, .inr (1, [.int p0, .ref w3])), (w3, .inl (cL, N0, .inr (.inl f3)))] ∧ tqN U)) (va_Qi (fun (a : Int32) (_ : Unit) => a = r.1) (fun (_ : Unit) (t : State) => va_P (dC, dI) tqCl [(th, .inr (2, [.int size, .ref sa, .ref s2, .ref s3, .ref o0, .ref o1])), (sx, .inr (1, [.int p0, .ref wx])), (wx, .inl (cL, N0, .inr (.inl f))), (s3, .inr (1, [.int p0, .ref w3])), (w3, .inl (cL, N0, .inr (.inl r.2)))] t.heap ∧ va_K (dC, dI) tqCl [(cL, .long)] t ∧ va_D (va_A [(th, .inr (2, [.int size, .ref sa, .ref s2, .ref s3, .ref o0, .ref o1])), (sx, .inr (1, [.int p0, .ref wx])), (wx, .inl (cL, N0, .inr (.inl f))), (s3, .inr (1, [.int p0, .ref w3])), (w3, .inl (cL, N0, .inr (.inl f3)))] sz) [(th, .inr (2, [.int size, .ref sa, .ref s2, .ref s3, .ref o0, .ref o1])), (sx, .inr (1, [.int p0, .ref wx])), (wx, .inl (cL, N0, .inr (.inl f))), (s3, .inr (1, [.int p0, .ref w3])), (w3, .inl (cL, N0, .inr (.inl r.2)))]) (va_A [(th, .inr (2, [.int size, .ref sa, .ref s2, .ref s3, .ref o0, .ref o1])), (sx, .inr (1, [.int p0, .ref wx])), (wx, .inl (cL, N0, .inr (.inl f))), (s3, .inr (1, [.int p0, .ref w3])), (w3, .inl (cL, N0, .inr (.inl f3)))] sz)) 0 0 (va_A [(th, .inr (2, [.int size, .ref sa, .ref s2, .ref s3, .ref o0, .ref o1])), (sx, .inr (1, [.int p0, .ref wx])), (wx, .inl (cL, N0, .inr (.inl f))), (s3, .inr (1, [.int p0, .ref w3])), (w3, .inl (cL, N0, .inr (.inl f3)))] sz) := by
  refine Met.ofW (cc := cX2_roundedSum) (maxL := 5) (ret := (some .int)) (by decide) rfl ?_
  intro p e s m args below meth c s₁ B hml hv
  obtain ⟨rfl, hsz, hP, hK, hD0, hN⟩ := hv
  have hx := B.exec
  have hb := B.bytes
  have hr := B.returns
  have hts := atoms_spec (ws := tqw_X2_roundedSum) B.pre
  have hww : ∀ w ∈ tqW, w.before _ s = true := fun w h => hts w (List.mem_cons_of_mem _ h)
  have hown : s.vm.findClass RX2 = some m.cls := findClass_of_methodNamed B.named
  have hlocks := B.notSynchronized
  subst hsz
  have hD := hD0.self (sz := s.heap.size)
  generalize hAe : va_A [(th, .inr (2, [.int size, .ref sa, .ref s2, .ref s3, .ref o0, .ref o1])), (sx, .inr (1, [.int p0, .ref wx])), (wx, .inl (cL, N0, .inr (.inl f))), (s3, .inr (1, [.int p0, .ref w3])), (w3, .inl (cL, N0, .inr (.inl f3)))] s.heap.size = A at hD ⊢
  have hA : ∀ q : Nat, s.heap.size ≤ q → A q := fun q h => by rw [← hAe]; exact Or.inr h
  have hS : va_S A s.heap s.heap [] := va_S.rf
  have hP : va_P (dC, dI) tqCl [(th, .inr (2, [.int size, .ref sa, .ref s2, .ref s3, .ref o0, .ref o1])), (sx, .inr (1, [.int p0, .ref wx])), (wx, .inl (cL, N0, .inr (.inl f))), (s3, .inr (1, [.int p0, .ref w3])), (w3, .inl (cL, N0, .inr (.inl f3)))] s.heap := hP
  have hl := lv_entry ([.ref th, .ref sx]) (n := 5) (Nat.le_of_ble_eq_true rfl)
  rw [lg_entry_eq]
  generalize (lg_sl ([.ref th, .ref sx]) ++ List.replicate (5 - (lg_sl ([.ref th, .ref sx])).length) Slot.unset).toArray = ls at hl ⊢
  have hl : lv_has ls 5 [(0, .ref th), (1, .ref sx)] := hl
  have B39 : ∀ (ls : Array Slot) (H : Heap) (locs : List Loc) (v2 : Int32) (f3 : Nat → Int64), f_roundedSum_b39 size p0 N0 v2 f3 = some r → lv_has ls 5 [(0, .ref th), (2, .int v2)] → va_P (dC, dI) tqCl [(th, .inr (2, [.int size, .ref sa, .ref s2, .ref s3, .ref o0, .ref o1])), (sx, .inr (1, [.int p0, .ref wx])), (wx, .inl (cL, N0, .inr (.inl f))), (s3, .inr (1, [.int p0, .ref w3])), (w3, .inl (cL, N0, .inr (.inl f3)))] H → va_D A [(th, .inr (2, [.int size, .ref sa, .ref s2, .ref s3, .ref o0, .ref o1])), (sx, .inr (1, [.int p0, .ref wx])), (wx, .inl (cL, N0, .inr (.inl f))), (s3, .inr (1, [.int p0, .ref w3])), (w3, .inl (cL, N0, .inr (.inl f3)))] → va_S A s.heap H locs → W p l e ({ frames := 3, cells := 0, slots := 0, locals := 65 }) s m ([.ref th, .ref sx] : List Value).toArray below meth c H locs 0 0 (MQ below (va_Qi (fun (a : Int32) (_ : Unit) => a = r.1) (fun (_ : Unit) (t : State) => va_P (dC, dI) tqCl [(th, .inr (2, [.int size, .ref sa, .ref s2, .ref s3, .ref o0, .ref o1])), (sx, .inr (1, [.int p0, .ref wx])), (wx, .inl (cL, N0, .inr (.inl f))), (s3, .inr (1, [.int p0, .ref w3])), (w3, .inl (cL, N0, .inr (.inl r.2)))] t.heap ∧ va_K (dC, dI) tqCl [(cL, .long)] t ∧ va_D (A) [(th, .inr (2, [.int size, .ref sa, .ref s2, .ref s3, .ref o0, .ref o1])), (sx, .inr (1, [.int p0, .ref wx])), (wx, .inl (cL, N0, .inr (.inl f))), (s3, .inr (1, [.int p0, .ref w3])), (w3, .inl (cL, N0, .inr (.inl r.2)))]) (A)) ([.ref th, .ref sx] : List Value).toArray s 0 0 A) (F0 m 39 ls []) := by
    try clear hf
    intro ls H locs v2 f3 hf hl hP hD hS
    unfold f_roundedSum_b39 at hf
    refine lv_aload_n hx hb dX2_roundedSum_39 rfl (lv_at hl 0 rfl) ?_
    refine va_get (D := (dC, dI)) (ci := 2) (v := .ref s3) (C := RX2) (T := TX2) (N := 6) hx hb hww tqinX2 hown hK hP 0 rfl rfl 3 (by decide) (hww _ tqt_97) (fun _ h9 => h9) rfl dX2_roundedSum_40 ?_
    obtain ⟨r6, hu, hf⟩ := tq_bd_some hf
    have hPc := hP.sub (ws' := [(s3, .inr (1, [.int p0, .ref w3])), (w3, .inl (cL, N0, .inr (.inl f3)))]) [3, 4] rfl
    have hDc := hD.sub (ws' := [(s3, .inr (1, [.int p0, .ref w3])), (w3, .inl (cL, N0, .inr (.inl f3)))]) [3, 4] (by decide) rfl
    have hKc := hK.sub (tys' := [(cL, .long)]) [0] rfl
    have hFc := va_free (wc := [(s3, .inr (1, [.int p0, .ref w3])), (w3, .inl (cL, N0, .inr (.inl f3)))]) hD hS hA [3, 4] rfl
    refine va_calli (va_runV (As := []) (rest := []) ⟨hx, hb, hml, hown, hww⟩ (c_f_topBit l dC dI s3 w3 cL H.size p0 N0 f3 r6 hu) (cwV 0 hww (tq_gV tqt_214 tqt_215 tqt_216 tqt_33 tqt_217) rfl rfl rfl (by decide +kernel) ⟨Nat.le_of_ble_eq_true rfl, Nat.le_of_ble_eq_true rfl⟩) ⟨fun a U g mk q => by obtain ⟨q0, q1, qP, qK, qD, qN⟩ := q; exact ⟨q0, q1, qP, va_K.moved (u := U) (U := U.calling g mk a) (Vm.Alike.refl U.vm) qK, qD, tqN_same (u := U) (U := U.calling g mk a) rfl qN⟩, va_recv hK hP (ci := 1) rfl (q0 := 3) rfl, fun U hU hW => ⟨rfl, by rw [hU], by rw [hU]; exact hPc, va_K.moved hW.alike hKc, hDc.weaken (fun _ _ _ _ => trivial), tqN_warm hW hN⟩⟩ rfl rfl hl.1 rfl (lv_room (Nat.le_of_ble_eq_true rfl)) dX2_roundedSum_43 ⟨Nat.zero_le _, Nat.zero_le _⟩) hS (fun q _ h => hFc q h) hFc (fun ra u0 t H1 locs ht hvm hpost hB hz1 hk1 hS => ?_)
    have hpost : r6 = ra := (show ra = r6 from hpost).symm
    subst hpost
    obtain ⟨hP1, hK1, hD1⟩ := hB
    rw [ht] at hP1
    obtain ⟨hP, hD⟩ := va_join (wr := [(th, .inr (2, [.int size, .ref sa, .ref s2, .ref s3, .ref o0, .ref o1])), (sx, .inr (1, [.int p0, .ref wx])), (wx, .inl (cL, N0, .inr (.inl f)))]) (w1 := [(s3, .inr (1, [.int p0, .ref w3])), (w3, .inl (cL, N0, .inr (.inl f3)))]) hP hD [3, 4] [0, 1, 2] rfl rfl (by decide) (by decide) hk1 hFc hP1 hD1
    generalize H1 = H at hP hS ⊢
    have hP := hP.sub (ws' := [(th, .inr (2, [.int size, .ref sa, .ref s2, .ref s3, .ref o0, .ref o1])), (sx, .inr (1, [.int p0, .ref wx])), (wx, .inl (cL, N0, .inr (.inl f))), (s3, .inr (1, [.int p0, .ref w3])), (w3, .inl (cL, N0, .inr (.inl f3)))]) [0, 1, 2, 3, 4] rfl
    have hD := hD.sub (ws' := [(th, .inr (2, [.int size, .ref sa, .ref s2, .ref s3, .ref o0, .ref o1])), (sx, .inr (1, [.int p0, .ref wx])), (wx, .inl (cL, N0, .inr (.inl f))), (s3, .inr (1, [.int p0, .ref w3])), (w3, .inl (cL, N0, .inr (.inl f3)))]) [0, 1, 2, 3, 4] (by decide) rfl
    refine lv_istore_n (lv' := [(3, .int r6), (0, .ref th), (2, .int v2)]) hx hb dX2_roundedSum_46 rfl hl (by decide) rfl (fun ls hl => ?_)
    refine lv_iload_n hx hb dX2_roundedSum_47 rfl (lv_at hl 0 rfl) ?_
    refine lv_if_ge hx hb dX2_roundedSum_48 rfl (fun h7 => ?_) (fun h7 => ?_)
    · rw [if_pos h7] at hf
      refine lv_aload_n hx hb dX2_roundedSum_53 rfl (lv_at hl 1 rfl) ?_
      refine va_get (D := (dC, dI)) (ci := 2) (v := .ref s3) (C := RX2) (T := TX2) (N := 6) hx hb hww tqinX2 hown hK hP 0 rfl rfl 3 (by decide) (hww _ tqt_97) (fun _ h9 => h9) rfl dX2_roundedSum_54 ?_
      refine lv_iload_n hx hb dX2_roundedSum_57 rfl (lv_at hl 0 rfl) ?_
      refine lv_bipush (v := 63) hx hb dX2_roundedSum_58 (by decide) ?_
      refine lv_isub hx hb dX2_roundedSum_60 ?_
      obtain ⟨r8, hu, hf⟩ := tq_bd_some hf
      have hPc := hP.sub (ws' := [(s3, .inr (1, [.int p0, .ref w3])), (w3, .inl (cL, N0, .inr (.inl f3)))]) [3, 4] rfl
      have hDc := hD.sub (ws' := [(s3, .inr (1, [.int p0, .ref w3])), (w3, .inl (cL, N0, .inr (.inl f3)))]) [3, 4] (by decide) rfl
      have hKc := hK.sub (tys' := [(cL, .long)]) [0] rfl
      have hFc := va_free (wc := [(s3, .inr (1, [.int p0, .ref w3])), (w3, .inl (cL, N0, .inr (.inl f3)))]) hD hS hA [3, 4] rfl
      refine va_calli (va_runV (As := [.int (r6 - (63 : Int32))]) (rest := []) ⟨hx, hb, hml, hown, hww⟩ (c_f_hasBitsBelow l dC dI s3 w3 cL H.size (r6 - (63 : Int32)) p0 N0 f3 r8 hu) (cwV 1 hww (tq_gV tqt_222 tqt_193 tqt_194 tqt_33 tqt_195) rfl rfl rfl (by decide +kernel) ⟨Nat.le_of_ble_eq_true rfl, Nat.le_of_ble_eq_true rfl⟩) ⟨fun a U g mk q => by obtain ⟨q0, q1, qP, qK, qD, qN⟩ := q; exact ⟨q0, q1, qP, va_K.moved (u := U) (U := U.calling g mk a) (Vm.Alike.refl U.vm) qK, qD, tqN_same (u := U) (U := U.calling g mk a) rfl qN⟩, va_recv hK hP (ci := 1) rfl (q0 := 3) rfl, fun U hU hW => ⟨rfl, by rw [hU], by rw [hU]; exact hPc, va_K.moved hW.alike hKc, hDc.weaken (fun _ _ _ _ => trivial), tqN_warm hW hN⟩⟩ rfl rfl hl.1 rfl (lv_room (Nat.le_of_ble_eq_true rfl)) dX2_roundedSum_61 ⟨Nat.zero_le _, Nat.zero_le _⟩) hS (fun q _ h => hFc q h) hFc (fun ra u0 t H1 locs ht hvm hpost hB hz1 hk1 hS => ?_)
      have hpost : r8 = ra := (show ra = r8 from hpost).symm
      subst hpost
      obtain ⟨hP1, hK1, hD1⟩ := hB
      rw [ht] at hP1
      obtain ⟨hP, hD⟩ := va_join (wr := [(th, .inr (2, [.int size, .ref sa, .ref s2, .ref s3, .ref o0, .ref o1])), (sx, .inr (1, [.int p0, .ref wx])), (wx, .inl (cL, N0, .inr (.inl f)))]) (w1 := [(s3, .inr (1, [.int p0, .ref w3])), (w3, .inl (cL, N0, .inr (.inl f3)))]) hP hD [3, 4] [0, 1, 2] rfl rfl (by decide) (by decide) hk1 hFc hP1 hD1
      generalize H1 = H at hP hS ⊢
      have hP := hP.sub (ws' := [(th, .inr (2, [.int size, .ref sa, .ref s2, .ref s3, .ref o0, .ref o1])), (sx, .inr (1, [.int p0, .ref wx])), (wx, .inl (cL, N0, .inr (.inl f))), (s3, .inr (1, [.int p0, .ref w3])), (w3, .inl (cL, N0, .inr (.inl f3)))]) [0, 1, 2, 3, 4] rfl
      have hD := hD.sub (ws' := [(th, .inr (2, [.int size, .ref sa, .ref s2, .ref s3, .ref o0, .ref o1])), (sx, .inr (1, [.int p0, .ref wx])), (wx, .inl (cL, N0, .inr (.inl f))), (s3, .inr (1, [.int p0, .ref w3])), (w3, .inl (cL, N0, .inr (.inl f3)))]) [0, 1, 2, 3, 4] (by decide) rfl
      refine lv_istore (lv' := [(4, .int r8), (3, .int r6), (0, .ref th), (2, .int v2)]) hx hb dX2_roundedSum_64 hl (by decide) rfl (fun ls hl => ?_)
      refine lv_aload_n hx hb dX2_roundedSum_66 rfl (lv_at hl 2 rfl) ?_
      refine va_get (D := (dC, dI)) (ci := 2) (v := .int size) (C := RX2) (T := TX2) (N := 6) hx hb hww tqinX2 hown hK hP 0 rfl rfl 0 (by decide) (hww _ tqt_94) (fun _ h9 => h9) rfl dX2_roundedSum_67 ?_
      refine lv_iload_n hx hb dX2_roundedSum_70 rfl (lv_at hl 3 rfl) ?_
      refine lv_iload_n hx hb dX2_roundedSum_71 rfl (lv_at hl 1 rfl) ?_
      refine lv_aload_n hx hb dX2_roundedSum_72 rfl (lv_at hl 2 rfl) ?_
      refine va_get (D := (dC, dI)) (ci := 2) (v := .ref s3) (C := RX2) (T := TX2) (N := 6) hx hb hww tqinX2 hown hK hP 0 rfl rfl 3 (by decide) (hww _ tqt_97) (fun _ h9 => h9) rfl dX2_roundedSum_73 ?_
      refine va_get (D := (dC, dI)) (ci := 1) (v := .int p0) (C := RX1) (T := TX1) (N := 2) hx hb hww tqinX1 hown hK hP 3 rfl rfl 0 (by decide) (hww _ tqt_58) (fun _ h9 => h9) rfl dX2_roundedSum_76 ?_
      refine lv_isub hx hb dX2_roundedSum_79 ?_
      refine lv_aload_n hx hb dX2_roundedSum_80 rfl (lv_at hl 2 rfl) ?_
      refine va_get (D := (dC, dI)) (ci := 2) (v := .ref s3) (C := RX2) (T := TX2) (N := 6) hx hb hww tqinX2 hown hK hP 0 rfl rfl 3 (by decide) (hww _ tqt_97) (fun _ h9 => h9) rfl dX2_roundedSum_81 ?_
      refine lv_iload_n hx hb dX2_roundedSum_84 rfl (lv_at hl 1 rfl) ?_
      obtain ⟨r9, hu, hf⟩ := tq_bd_some hf
      have hPc := hP.sub (ws' := [(s3, .inr (1, [.int p0, .ref w3])), (w3, .inl (cL, N0, .inr (.inl f3)))]) [3, 4] rfl
      have hDc := hD.sub (ws' := [(s3, .inr (1, [.int p0, .ref w3])), (w3, .inl (cL, N0, .inr (.inl f3)))]) [3, 4] (by decide) rfl
      have hKc := hK.sub (tys' := [(cL, .long)]) [0] rfl
      have hFc := va_free (wc := [(s3, .inr (1, [.int p0, .ref w3])), (w3, .inl (cL, N0, .inr (.inl f3)))]) hD hS hA [3, 4] rfl
      refine va_calll (va_runV (As := [.int r6]) (rest := [.int (r6 - p0), .int v2, .int size]) ⟨hx, hb, hml, hown, hww⟩ (c_f_leadingBits l dC dI s3 w3 cL H.size r6 p0 N0 f3 r9 hu) (cwV 1 hww (tq_gV tqt_223 tqt_224 tqt_225 tqt_33 tqt_226) rfl rfl rfl (by decide +kernel) ⟨Nat.le_of_ble_eq_true rfl, Nat.le_of_ble_eq_true rfl⟩) ⟨fun a U g mk q => by obtain ⟨q0, q1, qP, qK, qD, qN⟩ := q; exact ⟨q0, q1, qP, va_K.moved (u := U) (U := U.calling g mk a) (Vm.Alike.refl U.vm) qK, qD, tqN_same (u := U) (U := U.calling g mk a) rfl qN⟩, va_recv hK hP (ci := 1) rfl (q0 := 3) rfl, fun U hU hW => ⟨rfl, by rw [hU], by rw [hU]; exact hPc, va_K.moved hW.alike hKc, hDc.weaken (fun _ _ _ _ => trivial), tqN_warm hW hN⟩⟩ rfl rfl hl.1 rfl (lv_room (Nat.le_of_ble_eq_true rfl)) dX2_roundedSum_85 ⟨Nat.zero_le _, Nat.zero_le _⟩) hS (fun q _ h => hFc q h) hFc (fun ra u0 t H1 locs ht hvm hpost hB hz1 hk1 hS => ?_)
      have hpost : r9 = ra := (show ra = r9 from hpost).symm
      subst hpost
      obtain ⟨hP1, hK1, hD1⟩ := hB
      rw [ht] at hP1
      obtain ⟨hP, hD⟩ := va_join (wr := [(th, .inr (2, [.int size, .ref sa, .ref s2, .ref s3, .ref o0, .ref o1])), (sx, .inr (1, [.int p0, .ref wx])), (wx, .inl (cL, N0, .inr (.inl f)))]) (w1 := [(s3, .inr (1, [.int p0, .ref w3])), (w3, .inl (cL, N0, .inr (.inl f3)))]) hP hD [3, 4] [0, 1, 2] rfl rfl (by decide) (by decide) hk1 hFc hP1 hD1
      generalize H1 = H at hP hS ⊢
      have hP := hP.sub (ws' := [(th, .inr (2, [.int size, .ref sa, .ref s2, .ref s3, .ref o0, .ref o1])), (sx, .inr (1, [.int p0, .ref wx])), (wx, .inl (cL, N0, .inr (.inl f))), (s3, .inr (1, [.int p0, .ref w3])), (w3, .inl (cL, N0, .inr (.inl f3)))]) [0, 1, 2, 3, 4] rfl
      have hD := hD.sub (ws' := [(th, .inr (2, [.int size, .ref sa, .ref s2, .ref s3, .ref o0, .ref o1])), (sx, .inr (1, [.int p0, .ref wx])), (wx, .inl (cL, N0, .inr (.inl f))), (s3, .inr (1, [.int p0, .ref w3])), (w3, .inl (cL, N0, .inr (.inl f3)))]) [0, 1, 2, 3, 4] (by decide) rfl
      refine lv_iload hx hb dX2_roundedSum_88 (lv_at hl 0 rfl) ?_
      have hPc := hP.sub (ws' := []) [] rfl
      have hDc := hD.sub (ws' := []) [] (by decide) rfl
      have hKc := hK.sub (tys' := []) [] rfl
      have hFc := va_free (wc := []) hD hS hA [] rfl
      refine va_calli (va_runS (As := [.int size, .int v2, .int (r6 - p0), .long r9, .int r8]) (rest := []) ⟨hx, hb, hml, hown, hww⟩ (c_f_signedPattern l dC dI H.size size v2 (r6 - p0) r9 r8 (f_signedPattern size v2 (r6 - p0) r9 r8) rfl) (va_cwS 5 hww (tq_gS tqt_227 tqt_228 tqt_32 tqt_229) rfl rfl rfl (by decide +kernel) ⟨Nat.le_of_ble_eq_true rfl, Nat.le_of_ble_eq_true rfl⟩) ⟨fun a U g mk q => by obtain ⟨q0, q1, qP, qK, qD, qN⟩ := q; exact ⟨q0, q1, qP, va_K.moved (u := U) (U := U.calling g mk a) (Vm.Alike.refl U.vm) qK, qD, tqN_same (u := U) (U := U.calling g mk a) rfl qN⟩, fun U hU hW => ⟨rfl, by rw [hU], by rw [hU]; exact hPc, va_K.moved hW.alike hKc, hDc.weaken (fun _ _ _ _ => trivial), tqN_warm hW hN⟩⟩ rfl rfl hl.1 rfl (lv_room (Nat.le_of_ble_eq_true rfl)) dX2_roundedSum_90 ⟨Nat.zero_le _, Nat.zero_le _⟩) hS (fun q _ h => hFc q h) hFc (fun ra u0 t H1 locs ht hvm hpost hB hz1 hk1 hS => ?_)
      have hpost : (f_signedPattern size v2 (r6 - p0) r9 r8) = ra := (show ra = (f_signedPattern size v2 (r6 - p0) r9 r8) from hpost).symm
      subst hpost
      obtain ⟨hP1, hK1, hD1⟩ := hB
      rw [ht] at hP1
      obtain ⟨hP, hD⟩ := va_join (wr := [(th, .inr (2, [.int size, .ref sa, .ref s2, .ref s3, .ref o0, .ref o1])), (sx, .inr (1, [.int p0, .ref wx])), (wx, .inl (cL, N0, .inr (.inl f))), (s3, .inr (1, [.int p0, .ref w3])), (w3, .inl (cL, N0, .inr (.inl f3)))]) (w1 := []) hP hD [] [0, 1, 2, 3, 4] rfl rfl (by decide) (by decide) hk1 hFc hP1 hD1
      generalize H1 = H at hP hS ⊢
      have hP := hP.sub (ws' := [(th, .inr (2, [.int size, .ref sa, .ref s2, .ref s3, .ref o0, .ref o1])), (sx, .inr (1, [.int p0, .ref wx])), (wx, .inl (cL, N0, .inr (.inl f))), (s3, .inr (1, [.int p0, .ref w3])), (w3, .inl (cL, N0, .inr (.inl f3)))]) [0, 1, 2, 3, 4] rfl
      have hD := hD.sub (ws' := [(th, .inr (2, [.int size, .ref sa, .ref s2, .ref s3, .ref o0, .ref o1])), (sx, .inr (1, [.int p0, .ref wx])), (wx, .inl (cL, N0, .inr (.inl f))), (s3, .inr (1, [.int p0, .ref w3])), (w3, .inl (cL, N0, .inr (.inl f3)))]) [0, 1, 2, 3, 4] (by decide) rfl
      have hf := Option.some.inj hf
      subst hf
      exact W.iret (v := f_signedPattern size v2 (r6 - p0) r9 r8) hx hb hr (fun t ht hW => ⟨⟨f_signedPattern size v2 (r6 - p0) r9 r8, (), rfl, rfl, by rw [ht]; exact hP, va_K.moved hW.alike hK, hD⟩, hS.F ht⟩) hS.2.2 dX2_roundedSum_93
    · rw [if_neg h7] at hf
      refine lv_iconst (v := 0) hx hb dX2_roundedSum_51 (by decide) ?_
      have hf := Option.some.inj hf
      subst hf
      exact W.iret (v := (0 : Int32)) hx hb hr (fun t ht hW => ⟨⟨(0 : Int32), (), rfl, rfl, by rw [ht]; exact hP, va_K.moved hW.alike hK, hD⟩, hS.F ht⟩) hS.2.2 dX2_roundedSum_52
  unfold f_roundedSum at hf
  refine lv_aload_n hx hb dX2_roundedSum_0 rfl (lv_at hl 1 rfl) ?_
  obtain ⟨r1, hu, hf⟩ := tq_bd_some hf
  have hPc := hP.sub (ws' := [(sx, .inr (1, [.int p0, .ref wx])), (wx, .inl (cL, N0, .inr (.inl f)))]) [1, 2] rfl
  have hDc := hD.sub (ws' := [(sx, .inr (1, [.int p0, .ref wx])), (wx, .inl (cL, N0, .inr (.inl f)))]) [1, 2] (by decide) rfl
  have hKc := hK.sub (tys' := [(cL, .long)]) [0] rfl
  have hFc := va_free (wc := [(sx, .inr (1, [.int p0, .ref wx])), (wx, .inl (cL, N0, .inr (.inl f)))]) hD hS hA [1, 2] rfl
  refine va_calli (va_runV (As := []) (rest := []) ⟨hx, hb, hml, hown, hww⟩ (c_f_isNot l dC dI sx wx cL s.heap.size p0 N0 f r1 hu) (cwV 0 hww (tq_gV tqt_203 tqt_189 tqt_190 tqt_33 tqt_191) rfl rfl rfl (by decide +kernel) ⟨Nat.le_of_ble_eq_true rfl, Nat.le_of_ble_eq_true rfl⟩) ⟨fun a U g mk q => by obtain ⟨q0, q1, qP, qK, qD, qN⟩ := q; exact ⟨q0, q1, qP, va_K.moved (u := U) (U := U.calling g mk a) (Vm.Alike.refl U.vm) qK, qD, tqN_same (u := U) (U := U.calling g mk a) rfl qN⟩, va_recv hK hP (ci := 1) rfl (q0 := 1) rfl, fun U hU hW => ⟨rfl, by rw [hU], by rw [hU]; exact hPc, va_K.moved hW.alike hKc, hDc.weaken (fun _ _ _ _ => trivial), tqN_warm hW hN⟩⟩ rfl rfl hl.1 rfl (lv_room (Nat.le_of_ble_eq_true rfl)) dX2_roundedSum_1 ⟨Nat.zero_le _, Nat.zero_le _⟩) hS (fun q _ h => hFc q h) hFc (fun ra u0 t H1 locs ht hvm hpost hB hz1 hk1 hS => ?_)
  have hpost : r1 = ra := (show ra = r1 from hpost).symm
  subst hpost
  obtain ⟨hP1, hK1, hD1⟩ := hB
  rw [ht] at hP1
  obtain ⟨hP, hD⟩ := va_join (wr := [(th, .inr (2, [.int size, .ref sa, .ref s2, .ref s3, .ref o0, .ref o1])), (s3, .inr (1, [.int p0, .ref w3])), (w3, .inl (cL, N0, .inr (.inl f3)))]) (w1 := [(sx, .inr (1, [.int p0, .ref wx])), (wx, .inl (cL, N0, .inr (.inl f)))]) hP hD [1, 2] [0, 3, 4] rfl rfl (by decide) (by decide) hk1 hFc hP1 hD1
  generalize H1 = H at hP hS ⊢
  have hP := hP.sub (ws' := [(th, .inr (2, [.int size, .ref sa, .ref s2, .ref s3, .ref o0, .ref o1])), (sx, .inr (1, [.int p0, .ref wx])), (wx, .inl (cL, N0, .inr (.inl f))), (s3, .inr (1, [.int p0, .ref w3])), (w3, .inl (cL, N0, .inr (.inl f3)))]) [0, 3, 4, 1, 2] rfl
  have hD := hD.sub (ws' := [(th, .inr (2, [.int size, .ref sa, .ref s2, .ref s3, .ref o0, .ref o1])), (sx, .inr (1, [.int p0, .ref wx])), (wx, .inl (cL, N0, .inr (.inl f))), (s3, .inr (1, [.int p0, .ref w3])), (w3, .inl (cL, N0, .inr (.inl f3)))]) [0, 3, 4, 1, 2] (by decide) rfl
  refine lv_if_eq hx hb dX2_roundedSum_4 rfl (fun h2 => ?_) (fun h2 => ?_)
  · rw [if_pos h2] at hf
    refine lv_aload_n hx hb dX2_roundedSum_15 rfl (lv_at hl 1 rfl) ?_
    obtain ⟨r3, hu, hf⟩ := tq_bd_some hf
    have hPc := hP.sub (ws' := [(sx, .inr (1, [.int p0, .ref wx])), (wx, .inl (cL, N0, .inr (.inl f)))]) [1, 2] rfl
    have hDc := hD.sub (ws' := [(sx, .inr (1, [.int p0, .ref wx])), (wx, .inl (cL, N0, .inr (.inl f)))]) [1, 2] (by decide) rfl
    have hKc := hK.sub (tys' := [(cL, .long)]) [0] rfl
    have hFc := va_free (wc := [(sx, .inr (1, [.int p0, .ref wx])), (wx, .inl (cL, N0, .inr (.inl f)))]) hD hS hA [1, 2] rfl
    refine va_calli (va_runV (As := []) (rest := []) ⟨hx, hb, hml, hown, hww⟩ (c_f_isNegative l dC dI sx wx cL H.size p0 N0 f r3 hu) (cwV 0 hww (tq_gV tqt_205 tqt_206 tqt_207 tqt_33 tqt_208) rfl rfl rfl (by decide +kernel) ⟨Nat.le_of_ble_eq_true rfl, Nat.le_of_ble_eq_true rfl⟩) ⟨fun a U g mk q => by obtain ⟨q0, q1, qP, qK, qD, qN⟩ := q; exact ⟨q0, q1, qP, va_K.moved (u := U) (U := U.calling g mk a) (Vm.Alike.refl U.vm) qK, qD, tqN_same (u := U) (U := U.calling g mk a) rfl qN⟩, va_recv hK hP (ci := 1) rfl (q0 := 1) rfl, fun U hU hW => ⟨rfl, by rw [hU], by rw [hU]; exact hPc, va_K.moved hW.alike hKc, hDc.weaken (fun _ _ _ _ => trivial), tqN_warm hW hN⟩⟩ rfl rfl hl.1 rfl (lv_room (Nat.le_of_ble_eq_true rfl)) dX2_roundedSum_16 ⟨Nat.zero_le _, Nat.zero_le _⟩) hS (fun q _ h => hFc q h) hFc (fun ra u0 t H1 locs ht hvm hpost hB hz1 hk1 hS => ?_)
    have hpost : r3 = ra := (show ra = r3 from hpost).symm
    subst hpost
    obtain ⟨hP1, hK1, hD1⟩ := hB
    rw [ht] at hP1
    obtain ⟨hP, hD⟩ := va_join (wr := [(th, .inr (2, [.int size, .ref sa, .ref s2, .ref s3, .ref o0, .ref o1])), (s3, .inr (1, [.int p0, .ref w3])), (w3, .inl (cL, N0, .inr (.inl f3)))]) (w1 := [(sx, .inr (1, [.int p0, .ref wx])), (wx, .inl (cL, N0, .inr (.inl f)))]) hP hD [1, 2] [0, 3, 4] rfl rfl (by decide) (by decide) hk1 hFc hP1 hD1
    generalize H1 = H at hP hS ⊢
    have hP := hP.sub (ws' := [(th, .inr (2, [.int size, .ref sa, .ref s2, .ref s3, .ref o0, .ref o1])), (sx, .inr (1, [.int p0, .ref wx])), (wx, .inl (cL, N0, .inr (.inl f))), (s3, .inr (1, [.int p0, .ref w3])), (w3, .inl (cL, N0, .inr (.inl f3)))]) [0, 3, 4, 1, 2] rfl
    have hD := hD.sub (ws' := [(th, .inr (2, [.int size, .ref sa, .ref s2, .ref s3, .ref o0, .ref o1])), (sx, .inr (1, [.int p0, .ref wx])), (wx, .inl (cL, N0, .inr (.inl f))), (s3, .inr (1, [.int p0, .ref w3])), (w3, .inl (cL, N0, .inr (.inl f3)))]) [0, 3, 4, 1, 2] (by decide) rfl
    refine lv_istore_n (lv' := [(2, .int r3), (0, .ref th), (1, .ref sx)]) hx hb dX2_roundedSum_19 rfl hl (by decide) rfl (fun ls hl => ?_)
    refine lv_aload_n hx hb dX2_roundedSum_20 rfl (lv_at hl 1 rfl) ?_
    refine va_get (D := (dC, dI)) (ci := 2) (v := .ref s3) (C := RX2) (T := TX2) (N := 6) hx hb hww tqinX2 hown hK hP 0 rfl rfl 3 (by decide) (hww _ tqt_97) (fun _ h9 => h9) rfl dX2_roundedSum_21 ?_
    refine lv_aload_n hx hb dX2_roundedSum_24 rfl (lv_at hl 2 rfl) ?_
    obtain ⟨f04, hu, hf⟩ := tq_bd_some hf
    have hPc := hP.sub (ws' := [(s3, .inr (1, [.int p0, .ref w3])), (w3, .inl (cL, N0, .inr (.inl f3))), (sx, .inr (1, [.int p0, .ref wx])), (wx, .inl (cL, N0, .inr (.inl f)))]) [3, 4, 1, 2] rfl
    have hDc := hD.sub (ws' := [(s3, .inr (1, [.int p0, .ref w3])), (w3, .inl (cL, N0, .inr (.inl f3))), (sx, .inr (1, [.int p0, .ref wx])), (wx, .inl (cL, N0, .inr (.inl f)))]) [3, 4, 1, 2] (by decide) rfl
    have hKc := hK.sub (tys' := [(cL, .long)]) [0] rfl
    have hFc := va_free (wc := [(s3, .inr (1, [.int p0, .ref w3])), (w3, .inl (cL, N0, .inr (.inl f3))), (sx, .inr (1, [.int p0, .ref wx])), (wx, .inl (cL, N0, .inr (.inl f)))]) hD hS hA [3, 4, 1, 2] rfl
    refine va_callv (va_runV (As := [.ref sx]) (rest := []) ⟨hx, hb, hml, hown, hww⟩ (c_f_copy l dC dI s3 sx w3 wx cL H.size p0 N0 f3 p0 N0 f f04 hu) (cwV 1 hww (tq_gV tqt_209 tqt_210 tqt_211 tqt_33 tqt_212) rfl rfl rfl (by decide +kernel) ⟨Nat.le_of_ble_eq_true rfl, Nat.le_of_ble_eq_true rfl⟩) ⟨fun a U g mk q => by obtain ⟨q0, q1, qP, qK, qD, qN⟩ := q; exact ⟨q0, q1, qP, va_K.moved (u := U) (U := U.calling g mk a) (Vm.Alike.refl U.vm) qK, qD, tqN_same (u := U) (U := U.calling g mk a) rfl qN⟩, va_recv hK hP (ci := 1) rfl (q0 := 3) rfl, fun U hU hW => ⟨rfl, by rw [hU], by rw [hU]; exact hPc, va_K.moved hW.alike hKc, hDc.weaken (fun _ _ _ _ => trivial), tqN_warm hW hN⟩⟩ rfl rfl hl.1 rfl (lv_room (Nat.le_of_ble_eq_true rfl)) dX2_roundedSum_25 ⟨Nat.zero_le _, Nat.zero_le _⟩) hS (fun q _ h => hFc q h) hFc (fun u0 t H1 locs ht hvm hpost hB hz1 hk1 hS => ?_)
    obtain ⟨hP1, hK1, hD1⟩ := hB
    rw [ht] at hP1
    obtain ⟨hP, hD⟩ := va_join (wr := [(th, .inr (2, [.int size, .ref sa, .ref s2, .ref s3, .ref o0, .ref o1]))]) (w1 := [(s3, .inr (1, [.int p0, .ref w3])), (w3, .inl (cL, N0, .inr (.inl f04))), (sx, .inr (1, [.int p0, .ref wx])), (wx, .inl (cL, N0, .inr (.inl f)))]) hP hD [3, 4, 1, 2] [0] rfl rfl (by decide) (by decide) hk1 hFc hP1 hD1
    generalize H1 = H at hP hS ⊢
    have hP := hP.sub (ws' := [(th, .inr (2, [.int size, .ref sa, .ref s2, .ref s3, .ref o0, .ref o1])), (sx, .inr (1, [.int p0, .ref wx])), (wx, .inl (cL, N0, .inr (.inl f))), (s3, .inr (1, [.int p0, .ref w3])), (w3, .inl (cL, N0, .inr (.inl f04)))]) [0, 3, 4, 1, 2] rfl
    have hD := hD.sub (ws' := [(th, .inr (2, [.int size, .ref sa, .ref s2, .ref s3, .ref o0, .ref o1])), (sx, .inr (1, [.int p0, .ref wx])), (wx, .inl (cL, N0, .inr (.inl f))), (s3, .inr (1, [.int p0, .ref w3])), (w3, .inl (cL, N0, .inr (.inl f04)))]) [0, 3, 4, 1, 2] (by decide) rfl
    refine lv_iload_n hx hb dX2_roundedSum_28 rfl (lv_at hl 0 rfl) ?_
    refine lv_if_eq hx hb dX2_roundedSum_29 rfl (fun h5 => ?_) (fun h5 => ?_)
    · rw [if_pos h5] at hf
      exact B39 ls _ _ r3 f04 hf (lv_sub hl [1, 0] rfl) hP hD hS
    · rw [if_neg h5] at hf
      refine lv_aload_n hx hb dX2_roundedSum_32 rfl (lv_at hl 1 rfl) ?_
      refine va_get (D := (dC, dI)) (ci := 2) (v := .ref s3) (C := RX2) (T := TX2) (N := 6) hx hb hww tqinX2 hown hK hP 0 rfl rfl 3 (by decide) (hww _ tqt_97) (fun _ h9 => h9) rfl dX2_roundedSum_33 ?_
      obtain ⟨f011, hu, hf⟩ := tq_bd_some hf
      have hPc := hP.sub (ws' := [(s3, .inr (1, [.int p0, .ref w3])), (w3, .inl (cL, N0, .inr (.inl f04)))]) [3, 4] rfl
      have hDc := hD.sub (ws' := [(s3, .inr (1, [.int p0, .ref w3])), (w3, .inl (cL, N0, .inr (.inl f04)))]) [3, 4] (by decide) rfl
      have hKc := hK.sub (tys' := [(cL, .long)]) [0] rfl
      have hFc := va_free (wc := [(s3, .inr (1, [.int p0, .ref w3])), (w3, .inl (cL, N0, .inr (.inl f04)))]) hD hS hA [3, 4] rfl
      refine va_callv (va_runV (As := []) (rest := []) ⟨hx, hb, hml, hown, hww⟩ (c_f_flip l dC dI s3 w3 cL H.size p0 N0 f04 f011 hu) (cwV 0 hww (tq_gV tqt_213 tqt_180 tqt_181 tqt_33 tqt_182) rfl rfl rfl (by decide +kernel) ⟨Nat.le_of_ble_eq_true rfl, Nat.le_of_ble_eq_true rfl⟩) ⟨fun a U g mk q => by obtain ⟨q0, q1, qP, qK, qD, qN⟩ := q; exact ⟨q0, q1, qP, va_K.moved (u := U) (U := U.calling g mk a) (Vm.Alike.refl U.vm) qK, qD, tqN_same (u := U) (U := U.calling g mk a) rfl qN⟩, va_recv hK hP (ci := 1) rfl (q0 := 3) rfl, fun U hU hW => ⟨rfl, by rw [hU], by rw [hU]; exact hPc, va_K.moved hW.alike hKc, hDc.weaken (fun _ _ _ _ => trivial), tqN_warm hW hN⟩⟩ rfl rfl hl.1 rfl (lv_room (Nat.le_of_ble_eq_true rfl)) dX2_roundedSum_36 ⟨Nat.zero_le _, Nat.zero_le _⟩) hS (fun q _ h => hFc q h) hFc (fun u0 t H1 locs ht hvm hpost hB hz1 hk1 hS => ?_)
      obtain ⟨hP1, hK1, hD1⟩ := hB
      rw [ht] at hP1
      obtain ⟨hP, hD⟩ := va_join (wr := [(th, .inr (2, [.int size, .ref sa, .ref s2, .ref s3, .ref o0, .ref o1])), (sx, .inr (1, [.int p0, .ref wx])), (wx, .inl (cL, N0, .inr (.inl f)))]) (w1 := [(s3, .inr (1, [.int p0, .ref w3])), (w3, .inl (cL, N0, .inr (.inl f011)))]) hP hD [3, 4] [0, 1, 2] rfl rfl (by decide) (by decide) hk1 hFc hP1 hD1
      generalize H1 = H at hP hS ⊢
      have hP := hP.sub (ws' := [(th, .inr (2, [.int size, .ref sa, .ref s2, .ref s3, .ref o0, .ref o1])), (sx, .inr (1, [.int p0, .ref wx])), (wx, .inl (cL, N0, .inr (.inl f))), (s3, .inr (1, [.int p0, .ref w3])), (w3, .inl (cL, N0, .inr (.inl f011)))]) [0, 1, 2, 3, 4] rfl
      have hD := hD.sub (ws' := [(th, .inr (2, [.int size, .ref sa, .ref s2, .ref s3, .ref o0, .ref o1])), (sx, .inr (1, [.int p0, .ref wx])), (wx, .inl (cL, N0, .inr (.inl f))), (s3, .inr (1, [.int p0, .ref w3])), (w3, .inl (cL, N0, .inr (.inl f011)))]) [0, 1, 2, 3, 4] (by decide) rfl
      exact B39 ls _ _ r3 f011 hf (lv_sub hl [1, 0] rfl) hP hD hS
  · rw [if_neg h2] at hf
    refine lv_aload_n hx hb dX2_roundedSum_7 rfl (lv_at hl 0 rfl) ?_
    refine va_get (D := (dC, dI)) (ci := 2) (v := .int size) (C := RX2) (T := TX2) (N := 6) hx hb hww tqinX2 hown hK hP 0 rfl rfl 0 (by decide) (hww _ tqt_94) (fun _ h9 => h9) rfl dX2_roundedSum_8 ?_
    have hPc := hP.sub (ws' := []) [] rfl
    have hDc := hD.sub (ws' := []) [] (by decide) rfl
    have hKc := hK.sub (tys' := []) [] rfl
    have hFc := va_free (wc := []) hD hS hA [] rfl
    refine va_calli (va_runS (As := [.int size]) (rest := []) ⟨hx, hb, hml, hown, hww⟩ (c_f_notOf l dC dI H.size size (f_notOf size) rfl) (va_cwS 1 hww (tq_gS tqt_204 tqt_141 tqt_32 tqt_142) rfl rfl rfl (by decide +kernel) ⟨Nat.le_of_ble_eq_true rfl, Nat.le_of_ble_eq_true rfl⟩) ⟨fun a U g mk q => by obtain ⟨q0, q1, qP, qK, qD, qN⟩ := q; exact ⟨q0, q1, qP, va_K.moved (u := U) (U := U.calling g mk a) (Vm.Alike.refl U.vm) qK, qD, tqN_same (u := U) (U := U.calling g mk a) rfl qN⟩, fun U hU hW => ⟨rfl, by rw [hU], by rw [hU]; exact hPc, va_K.moved hW.alike hKc, hDc.weaken (fun _ _ _ _ => trivial), tqN_warm hW hN⟩⟩ rfl rfl hl.1 rfl (lv_room (Nat.le_of_ble_eq_true rfl)) dX2_roundedSum_11 ⟨Nat.zero_le _, Nat.zero_le _⟩) hS (fun q _ h => hFc q h) hFc (fun ra u0 t H1 locs ht hvm hpost hB hz1 hk1 hS => ?_)
    have hpost : (f_notOf size) = ra := (show ra = (f_notOf size) from hpost).symm
    subst hpost
    obtain ⟨hP1, hK1, hD1⟩ := hB
    rw [ht] at hP1
    obtain ⟨hP, hD⟩ := va_join (wr := [(th, .inr (2, [.int size, .ref sa, .ref s2, .ref s3, .ref o0, .ref o1])), (sx, .inr (1, [.int p0, .ref wx])), (wx, .inl (cL, N0, .inr (.inl f))), (s3, .inr (1, [.int p0, .ref w3])), (w3, .inl (cL, N0, .inr (.inl f3)))]) (w1 := []) hP hD [] [0, 1, 2, 3, 4] rfl rfl (by decide) (by decide) hk1 hFc hP1 hD1
    generalize H1 = H at hP hS ⊢
    have hP := hP.sub (ws' := [(th, .inr (2, [.int size, .ref sa, .ref s2, .ref s3, .ref o0, .ref o1])), (sx, .inr (1, [.int p0, .ref wx])), (wx, .inl (cL, N0, .inr (.inl f))), (s3, .inr (1, [.int p0, .ref w3])), (w3, .inl (cL, N0, .inr (.inl f3)))]) [0, 1, 2, 3, 4] rfl
    have hD := hD.sub (ws' := [(th, .inr (2, [.int size, .ref sa, .ref s2, .ref s3, .ref o0, .ref o1])), (sx, .inr (1, [.int p0, .ref wx])), (wx, .inl (cL, N0, .inr (.inl f))), (s3, .inr (1, [.int p0, .ref w3])), (w3, .inl (cL, N0, .inr (.inl f3)))]) [0, 1, 2, 3, 4] (by decide) rfl
    have hf := Option.some.inj hf
    subst hf
    exact W.iret (v := f_notOf size) hx hb hr (fun t ht hW => ⟨⟨f_notOf size, (), rfl, rfl, by rw [ht]; exact hP, va_K.moved hW.alike hK, hD⟩, hS.F ht⟩) hS.2.2 dX2_roundedSum_14
set_option maxHeartbeats 4000000 in
set_option maxRecDepth 100000 in
theorem c_f_fused (l : Launch) (dC : Nat → ClassId) (dI : Nat → Nat → Nat) (th : Nat) (sa : Nat) (s2 : Nat) (s3 : Nat) (o0 : Nat) (o1 : Nat) (w2 : Nat) (w3 : Nat) (cL : ClassId) (sz : Nat) (x : Int32) (y : Int32) (z : Int32) (size : Int32) (nt0 : Int32) (ng0 : Int32) (mg0 : Int64) (ex0 : Int32) (nt1 : Int32) (ng1 : Int32) (mg1 : Int64) (ex1 : Int32) (p0 : Int32) (N0 : Nat) (f2 : Nat → Int64) (f3 : Nat → Int64) (r : Int32 × Int32 × Int32 × Int64 × Int32 × Int32 × Int32 × Int64 × Int32 × (Nat → Int64) × (Nat → Int64)) (hf : f_fused size nt0 ng0 mg0 ex0 nt1 ng1 mg1 ex1 p0 N0 f2 f3 x y z = some r) : Met l yX2_fused tqw_X2_fused ({ frames := 5, cells := 0, slots := 0, locals := 120 }) (va_Pc [.ref th, .int x, .int y, .int z] (fun U => U.heap.size = sz ∧ va_P (dC, dI) tqCl [(th, .inr (2, [.int size, .ref sa, .ref s2, .ref s3, .ref o0, .ref o1])), (o0, .inr (0, [.int nt0, .int ng0, .long mg0, .int ex0])), (o1, .inr (0, [.int nt1, .int ng1, .long mg1, .int ex1])), (s2, .inr (1, [.int p0, .ref w2])), (w2, .inl (cL, N0, .inr (.inl f2))), (s3, .inr (1, [.int p0, .ref w3])), (w3, .inl (cL, N0, .inr (.inl f3)))] U.heap ∧ va_K (dC, dI) tqCl [(cL, .long)] U ∧ va_D (fun _ => True) [(th, .inr (2, [.int size, .ref sa, .ref s2, .ref s3, .ref o0, .ref o1])), (o0, .inr (0, [.int nt0, .int ng0, .long mg0, .int ex0])), (o1, .inr (0, [.int nt1, .int ng1, .long mg1, .int ex1])), (s2, .inr (1, [.int p0, .ref w2])), (w2, .inl (cL, N0, .inr (.inl f2))), (s3, .inr (1, [.int p0, .ref w3])), (w3, .inl (cL, N0, .inr (.inl f3)))] ∧ tqN U)) (va_Qi (fun (a : Int32) (_ : Unit) => a = r.1) (fun (_ : Unit) (t : State) => va_P (dC, dI) tqCl [(th, .inr (2, [.int size, .ref sa, .ref s2, .ref s3, .ref o0, .ref o1])), (o0, .inr (0, [.int r.2.1, .int r.2.2.1, .long r.2.2.2.1, .int r.2.2.2.2.1])), (o1, .inr (0, [.int r.2.2.2.2.2.1, .int r.2.2.2.2.2.2.1, .long r.2.2.2.2.2.2.2.1, .int r.2.2.2.2.2.2.2.2.1])), (s2, .inr (1, [.int p0, .ref w2])), (w2, .inl (cL, N0, .inr (.inl r.2.2.2.2.2.2.2.2.2.1))), (s3, .inr (1, [.int p0, .ref w3])), (w3, .inl (cL, N0, .inr (.inl r.2.2.2.2.2.2.2.2.2.2)))] t.heap ∧ va_K (dC, dI) tqCl [(cL, .long)] t ∧ va_D (va_A [(th, .inr (2, [.int size, .ref sa, .ref s2, .ref s3, .ref o0, .ref o1])), (o0, .inr (0, [.int nt0, .int ng0, .long mg0, .int ex0])), (o1, .inr (0, [.int nt1, .int ng1, .long mg1, .int ex1])), (s2, .inr (1, [.int p0, .ref w2])), (w2, .inl (cL, N0, .inr (.inl f2))), (s3, .inr (1, [.int p0, .ref w3])), (w3, .inl (cL, N0, .inr (.inl f3)))] sz) [(th, .inr (2, [.int size, .ref sa, .ref s2, .ref s3, .ref o0, .ref o1])), (o0, .inr (0, [.int r.2.1, .int r.2.2.1, .long r.2.2.2.1, .int r.2.2.2.2.1])), (o1, .inr (0, [.int r.2.2.2.2.2.1, .int r.2.2.2.2.2.2.1, .long r.2.2.2.2.2.2.2.1, .int r.2.2.2.2.2.2.2.2.1])), (s2, .inr (1, [.int p0, .ref w2])), (w2, .inl (cL, N0, .inr (.inl r.2.2.2.2.2.2.2.2.2.1))), (s3, .inr (1, [.int p0, .ref w3])), (w3, .inl (cL, N0, .inr (.inl r.2.2.2.2.2.2.2.2.2.2)))]) (va_A [(th, .inr (2, [.int size, .ref sa, .ref s2, .ref s3, .ref o0, .ref o1])), (o0, .inr (0, [.int nt0, .int ng0, .long mg0, .int ex0])), (o1, .inr (0, [.int nt1, .int ng1, .long mg1, .int ex1])), (s2, .inr (1, [.int p0, .ref w2])), (w2, .inl (cL, N0, .inr (.inl f2))), (s3, .inr (1, [.int p0, .ref w3])), (w3, .inl (cL, N0, .inr (.inl f3)))] sz)) 0 0 (va_A [(th, .inr (2, [.int size, .ref sa, .ref s2, .ref s3, .ref o0, .ref o1])), (o0, .inr (0, [.int nt0, .int ng0, .long mg0, .int ex0])), (o1, .inr (0, [.int nt1, .int ng1, .long mg1, .int ex1])), (s2, .inr (1, [.int p0, .ref w2])), (w2, .inl (cL, N0, .inr (.inl f2))), (s3, .inr (1, [.int p0, .ref w3])), (w3, .inl (cL, N0, .inr (.inl f3)))] sz) := by
  refine Met.ofW (cc := cX2_fused) (maxL := 4) (ret := (some .int)) (by decide) rfl ?_
  intro p e s m args below meth c s₁ B hml hv
  obtain ⟨rfl, hsz, hP, hK, hD0, hN⟩ := hv
  have hx := B.exec
  have hb := B.bytes
  have hr := B.returns
  have hts := atoms_spec (ws := tqw_X2_fused) B.pre
  have hww : ∀ w ∈ tqW, w.before _ s = true := fun w h => hts w (List.mem_cons_of_mem _ h)
  have hown : s.vm.findClass RX2 = some m.cls := findClass_of_methodNamed B.named
  have hlocks := B.notSynchronized
  subst hsz
  have hD := hD0.self (sz := s.heap.size)
  generalize hAe : va_A [(th, .inr (2, [.int size, .ref sa, .ref s2, .ref s3, .ref o0, .ref o1])), (o0, .inr (0, [.int nt0, .int ng0, .long mg0, .int ex0])), (o1, .inr (0, [.int nt1, .int ng1, .long mg1, .int ex1])), (s2, .inr (1, [.int p0, .ref w2])), (w2, .inl (cL, N0, .inr (.inl f2))), (s3, .inr (1, [.int p0, .ref w3])), (w3, .inl (cL, N0, .inr (.inl f3)))] s.heap.size = A at hD ⊢
  have hA : ∀ q : Nat, s.heap.size ≤ q → A q := fun q h => by rw [← hAe]; exact Or.inr h
  have hS : va_S A s.heap s.heap [] := va_S.rf
  have hP : va_P (dC, dI) tqCl [(th, .inr (2, [.int size, .ref sa, .ref s2, .ref s3, .ref o0, .ref o1])), (o0, .inr (0, [.int nt0, .int ng0, .long mg0, .int ex0])), (o1, .inr (0, [.int nt1, .int ng1, .long mg1, .int ex1])), (s2, .inr (1, [.int p0, .ref w2])), (w2, .inl (cL, N0, .inr (.inl f2))), (s3, .inr (1, [.int p0, .ref w3])), (w3, .inl (cL, N0, .inr (.inl f3)))] s.heap := hP
  have hl := lv_entry ([.ref th, .int x, .int y, .int z]) (n := 4) (Nat.le_of_ble_eq_true rfl)
  rw [lg_entry_eq]
  generalize (lg_sl ([.ref th, .int x, .int y, .int z]) ++ List.replicate (4 - (lg_sl ([.ref th, .int x, .int y, .int z])).length) Slot.unset).toArray = ls at hl ⊢
  have hl : lv_has ls 4 [(0, .ref th), (1, .int x), (2, .int y), (3, .int z)] := hl
  unfold f_fused at hf
  refine lv_aload_n hx hb dX2_fused_0 rfl (lv_at hl 0 rfl) ?_
  refine lv_aload_n hx hb dX2_fused_1 rfl (lv_at hl 0 rfl) ?_
  refine va_get (D := (dC, dI)) (ci := 2) (v := .ref s2) (C := RX2) (T := TX2) (N := 6) hx hb hww tqinX2 hown hK hP 0 rfl rfl 2 (by decide) (hww _ tqt_96) (fun _ h9 => h9) rfl dX2_fused_2 ?_
  refine lv_iload_n hx hb dX2_fused_5 rfl (lv_at hl 1 rfl) ?_
  refine lv_iload_n hx hb dX2_fused_6 rfl (lv_at hl 2 rfl) ?_
  obtain ⟨u, hu, hf⟩ := tq_bd_some hf
  obtain ⟨nt01, ng02, mg03, ex04, nt15, ng16, mg17, ex18, f9⟩ := u
  have hf := tq_nm_at (z := nt01) rfl hf
  have hf := tq_nm_at (z := ng02) rfl hf
  have hf := tq_nm_at (z := mg03) rfl hf
  have hf := tq_nm_at (z := ex04) rfl hf
  have hf := tq_nm_at (z := nt15) rfl hf
  have hf := tq_nm_at (z := ng16) rfl hf
  have hf := tq_nm_at (z := mg17) rfl hf
  have hf := tq_nm_at (z := ex18) rfl hf
  have hf := tq_nm_at (z := f9) rfl hf
  have hPc := hP.sub (ws' := [(th, .inr (2, [.int size, .ref sa, .ref s2, .ref s3, .ref o0, .ref o1])), (o0, .inr (0, [.int nt0, .int ng0, .long mg0, .int ex0])), (o1, .inr (0, [.int nt1, .int ng1, .long mg1, .int ex1])), (s2, .inr (1, [.int p0, .ref w2])), (w2, .inl (cL, N0, .inr (.inl f2)))]) [0, 1, 2, 3, 4] rfl
  have hDc := hD.sub (ws' := [(th, .inr (2, [.int size, .ref sa, .ref s2, .ref s3, .ref o0, .ref o1])), (o0, .inr (0, [.int nt0, .int ng0, .long mg0, .int ex0])), (o1, .inr (0, [.int nt1, .int ng1, .long mg1, .int ex1])), (s2, .inr (1, [.int p0, .ref w2])), (w2, .inl (cL, N0, .inr (.inl f2)))]) [0, 1, 2, 3, 4] (by decide) rfl
  have hKc := hK.sub (tys' := [(cL, .long)]) [0] rfl
  have hFc := va_free (wc := [(th, .inr (2, [.int size, .ref sa, .ref s2, .ref s3, .ref o0, .ref o1])), (o0, .inr (0, [.int nt0, .int ng0, .long mg0, .int ex0])), (o1, .inr (0, [.int nt1, .int ng1, .long mg1, .int ex1])), (s2, .inr (1, [.int p0, .ref w2])), (w2, .inl (cL, N0, .inr (.inl f2)))]) hD hS hA [0, 1, 2, 3, 4] rfl
  refine va_callv (va_runV (As := [.ref s2, .int x, .int y]) (rest := []) ⟨hx, hb, hml, hown, hww⟩ (c_f_setProduct l dC dI th s2 sa s2 s3 o0 o1 w2 cL s.heap.size x y size nt0 ng0 mg0 ex0 nt1 ng1 mg1 ex1 p0 N0 f2 (nt01, ng02, mg03, ex04, nt15, ng16, mg17, ex18, f9) hu) (cwV 3 hww (tq_gV tqt_129 tqt_131 tqt_1 tqt_32 tqt_132) rfl rfl rfl (by decide +kernel) ⟨Nat.le_of_ble_eq_true rfl, Nat.le_of_ble_eq_true rfl⟩) ⟨fun a U g mk q => by obtain ⟨q0, q1, qP, qK, qD, qN⟩ := q; exact ⟨q0, q1, qP, va_K.moved (u := U) (U := U.calling g mk a) (Vm.Alike.refl U.vm) qK, qD, tqN_same (u := U) (U := U.calling g mk a) rfl qN⟩, va_recv hK hP (ci := 2) rfl (q0 := 0) rfl, fun U hU hW => ⟨rfl, by rw [hU], by rw [hU]; exact hPc, va_K.moved hW.alike hKc, hDc.weaken (fun _ _ _ _ => trivial), tqN_warm hW hN⟩⟩ rfl rfl hl.1 rfl (lv_room (Nat.le_of_ble_eq_true rfl)) dX2_fused_7 ⟨Nat.zero_le _, Nat.zero_le _⟩) hS (fun q _ h => hFc q h) hFc (fun u0 t H1 locs ht hvm hpost hB hz1 hk1 hS => ?_)
  obtain ⟨hP1, hK1, hD1⟩ := hB
  rw [ht] at hP1
  obtain ⟨hP, hD⟩ := va_join (wr := [(s3, .inr (1, [.int p0, .ref w3])), (w3, .inl (cL, N0, .inr (.inl f3)))]) (w1 := [(th, .inr (2, [.int size, .ref sa, .ref s2, .ref s3, .ref o0, .ref o1])), (o0, .inr (0, [.int nt01, .int ng02, .long mg03, .int ex04])), (o1, .inr (0, [.int nt15, .int ng16, .long mg17, .int ex18])), (s2, .inr (1, [.int p0, .ref w2])), (w2, .inl (cL, N0, .inr (.inl f9)))]) hP hD [0, 1, 2, 3, 4] [5, 6] rfl rfl (by decide) (by decide) hk1 hFc hP1 hD1
  generalize H1 = H at hP hS ⊢
  have hP := hP.sub (ws' := [(th, .inr (2, [.int size, .ref sa, .ref s2, .ref s3, .ref o0, .ref o1])), (o0, .inr (0, [.int nt01, .int ng02, .long mg03, .int ex04])), (o1, .inr (0, [.int nt15, .int ng16, .long mg17, .int ex18])), (s2, .inr (1, [.int p0, .ref w2])), (w2, .inl (cL, N0, .inr (.inl f9))), (s3, .inr (1, [.int p0, .ref w3])), (w3, .inl (cL, N0, .inr (.inl f3)))]) [2, 3, 4, 5, 6, 0, 1] rfl
  have hD := hD.sub (ws' := [(th, .inr (2, [.int size, .ref sa, .ref s2, .ref s3, .ref o0, .ref o1])), (o0, .inr (0, [.int nt01, .int ng02, .long mg03, .int ex04])), (o1, .inr (0, [.int nt15, .int ng16, .long mg17, .int ex18])), (s2, .inr (1, [.int p0, .ref w2])), (w2, .inl (cL, N0, .inr (.inl f9))), (s3, .inr (1, [.int p0, .ref w3])), (w3, .inl (cL, N0, .inr (.inl f3)))]) [2, 3, 4, 5, 6, 0, 1] (by decide) rfl
  refine lv_aload_n hx hb dX2_fused_10 rfl (lv_at hl 0 rfl) ?_
  refine lv_aload_n hx hb dX2_fused_11 rfl (lv_at hl 0 rfl) ?_
  refine va_get (D := (dC, dI)) (ci := 2) (v := .ref s3) (C := RX2) (T := TX2) (N := 6) hx hb hww tqinX2 hown hK hP 0 rfl rfl 3 (by decide) (hww _ tqt_97) (fun _ h9 => h9) rfl dX2_fused_12 ?_
  refine lv_iload_n hx hb dX2_fused_15 rfl (lv_at hl 3 rfl) ?_
  refine lv_aload_n hx hb dX2_fused_16 rfl (lv_at hl 0 rfl) ?_
  have hPc := hP.sub (ws' := [(th, .inr (2, [.int size, .ref sa, .ref s2, .ref s3, .ref o0, .ref o1]))]) [0] rfl
  have hDc := hD.sub (ws' := [(th, .inr (2, [.int size, .ref sa, .ref s2, .ref s3, .ref o0, .ref o1]))]) [0] (by decide) rfl
  have hKc := hK.sub (tys' := []) [] rfl
  have hFc := va_free (wc := [(th, .inr (2, [.int size, .ref sa, .ref s2, .ref s3, .ref o0, .ref o1]))]) hD hS hA [0] rfl
  refine va_calli (va_runV (As := []) (rest := [.int z, .ref s3, .ref th]) ⟨hx, hb, hml, hown, hww⟩ (c_f_one l dC dI th sa s2 s3 o0 o1 H.size size (f_one size) rfl) (cwV 0 hww (tq_gV tqt_121 tqt_123 tqt_0 tqt_32 tqt_124) rfl rfl rfl (by decide +kernel) ⟨Nat.le_of_ble_eq_true rfl, Nat.le_of_ble_eq_true rfl⟩) ⟨fun a U g mk q => by obtain ⟨q0, q1, qP, qK, qD, qN⟩ := q; exact ⟨q0, q1, qP, va_K.moved (u := U) (U := U.calling g mk a) (Vm.Alike.refl U.vm) qK, qD, tqN_same (u := U) (U := U.calling g mk a) rfl qN⟩, va_recv hK hP (ci := 2) rfl (q0 := 0) rfl, fun U hU hW => ⟨rfl, by rw [hU], by rw [hU]; exact hPc, va_K.moved hW.alike hKc, hDc.weaken (fun _ _ _ _ => trivial), tqN_warm hW hN⟩⟩ rfl rfl hl.1 rfl (lv_room (Nat.le_of_ble_eq_true rfl)) dX2_fused_17 ⟨Nat.zero_le _, Nat.zero_le _⟩) hS (fun q _ h => hFc q h) hFc (fun ra u0 t H1 locs ht hvm hpost hB hz1 hk1 hS => ?_)
  have hpost : (f_one size) = ra := (show ra = (f_one size) from hpost).symm
  subst hpost
  obtain ⟨hP1, hK1, hD1⟩ := hB
  rw [ht] at hP1
  obtain ⟨hP, hD⟩ := va_join (wr := [(o0, .inr (0, [.int nt01, .int ng02, .long mg03, .int ex04])), (o1, .inr (0, [.int nt15, .int ng16, .long mg17, .int ex18])), (s2, .inr (1, [.int p0, .ref w2])), (w2, .inl (cL, N0, .inr (.inl f9))), (s3, .inr (1, [.int p0, .ref w3])), (w3, .inl (cL, N0, .inr (.inl f3)))]) (w1 := [(th, .inr (2, [.int size, .ref sa, .ref s2, .ref s3, .ref o0, .ref o1]))]) hP hD [0] [1, 2, 3, 4, 5, 6] rfl rfl (by decide) (by decide) hk1 hFc hP1 hD1
  generalize H1 = H at hP hS ⊢
  have hP := hP.sub (ws' := [(th, .inr (2, [.int size, .ref sa, .ref s2, .ref s3, .ref o0, .ref o1])), (o0, .inr (0, [.int nt01, .int ng02, .long mg03, .int ex04])), (o1, .inr (0, [.int nt15, .int ng16, .long mg17, .int ex18])), (s2, .inr (1, [.int p0, .ref w2])), (w2, .inl (cL, N0, .inr (.inl f9))), (s3, .inr (1, [.int p0, .ref w3])), (w3, .inl (cL, N0, .inr (.inl f3)))]) [6, 0, 1, 2, 3, 4, 5] rfl
  have hD := hD.sub (ws' := [(th, .inr (2, [.int size, .ref sa, .ref s2, .ref s3, .ref o0, .ref o1])), (o0, .inr (0, [.int nt01, .int ng02, .long mg03, .int ex04])), (o1, .inr (0, [.int nt15, .int ng16, .long mg17, .int ex18])), (s2, .inr (1, [.int p0, .ref w2])), (w2, .inl (cL, N0, .inr (.inl f9))), (s3, .inr (1, [.int p0, .ref w3])), (w3, .inl (cL, N0, .inr (.inl f3)))]) [6, 0, 1, 2, 3, 4, 5] (by decide) rfl
  obtain ⟨u, hu, hf⟩ := tq_bd_some hf
  obtain ⟨nt011, ng012, mg013, ex014, nt115, ng116, mg117, ex118, f19⟩ := u
  have hf := tq_nm_at (z := nt011) rfl hf
  have hf := tq_nm_at (z := ng012) rfl hf
  have hf := tq_nm_at (z := mg013) rfl hf
  have hf := tq_nm_at (z := ex014) rfl hf
  have hf := tq_nm_at (z := nt115) rfl hf
  have hf := tq_nm_at (z := ng116) rfl hf
  have hf := tq_nm_at (z := mg117) rfl hf
  have hf := tq_nm_at (z := ex118) rfl hf
  have hf := tq_nm_at (z := f19) rfl hf
  have hPc := hP.sub (ws' := [(th, .inr (2, [.int size, .ref sa, .ref s2, .ref s3, .ref o0, .ref o1])), (o0, .inr (0, [.int nt01, .int ng02, .long mg03, .int ex04])), (o1, .inr (0, [.int nt15, .int ng16, .long mg17, .int ex18])), (s3, .inr (1, [.int p0, .ref w3])), (w3, .inl (cL, N0, .inr (.inl f3)))]) [0, 1, 2, 5, 6] rfl
  have hDc := hD.sub (ws' := [(th, .inr (2, [.int size, .ref sa, .ref s2, .ref s3, .ref o0, .ref o1])), (o0, .inr (0, [.int nt01, .int ng02, .long mg03, .int ex04])), (o1, .inr (0, [.int nt15, .int ng16, .long mg17, .int ex18])), (s3, .inr (1, [.int p0, .ref w3])), (w3, .inl (cL, N0, .inr (.inl f3)))]) [0, 1, 2, 5, 6] (by decide) rfl
  have hKc := hK.sub (tys' := [(cL, .long)]) [0] rfl
  have hFc := va_free (wc := [(th, .inr (2, [.int size, .ref sa, .ref s2, .ref s3, .ref o0, .ref o1])), (o0, .inr (0, [.int nt01, .int ng02, .long mg03, .int ex04])), (o1, .inr (0, [.int nt15, .int ng16, .long mg17, .int ex18])), (s3, .inr (1, [.int p0, .ref w3])), (w3, .inl (cL, N0, .inr (.inl f3)))]) hD hS hA [0, 1, 2, 5, 6] rfl
  refine va_callv (va_runV (As := [.ref s3, .int z, .int (f_one size)]) (rest := []) ⟨hx, hb, hml, hown, hww⟩ (c_f_setProduct l dC dI th s3 sa s2 s3 o0 o1 w3 cL H.size z (f_one size) size nt01 ng02 mg03 ex04 nt15 ng16 mg17 ex18 p0 N0 f3 (nt011, ng012, mg013, ex014, nt115, ng116, mg117, ex118, f19) hu) (cwV 3 hww (tq_gV tqt_129 tqt_131 tqt_1 tqt_32 tqt_132) rfl rfl rfl (by decide +kernel) ⟨Nat.le_of_ble_eq_true rfl, Nat.le_of_ble_eq_true rfl⟩) ⟨fun a U g mk q => by obtain ⟨q0, q1, qP, qK, qD, qN⟩ := q; exact ⟨q0, q1, qP, va_K.moved (u := U) (U := U.calling g mk a) (Vm.Alike.refl U.vm) qK, qD, tqN_same (u := U) (U := U.calling g mk a) rfl qN⟩, va_recv hK hP (ci := 2) rfl (q0 := 0) rfl, fun U hU hW => ⟨rfl, by rw [hU], by rw [hU]; exact hPc, va_K.moved hW.alike hKc, hDc.weaken (fun _ _ _ _ => trivial), tqN_warm hW hN⟩⟩ rfl rfl hl.1 rfl (lv_room (Nat.le_of_ble_eq_true rfl)) dX2_fused_20 ⟨Nat.zero_le _, Nat.zero_le _⟩) hS (fun q _ h => hFc q h) hFc (fun u0 t H1 locs ht hvm hpost hB hz1 hk1 hS => ?_)
  obtain ⟨hP1, hK1, hD1⟩ := hB
  rw [ht] at hP1
  obtain ⟨hP, hD⟩ := va_join (wr := [(s2, .inr (1, [.int p0, .ref w2])), (w2, .inl (cL, N0, .inr (.inl f9)))]) (w1 := [(th, .inr (2, [.int size, .ref sa, .ref s2, .ref s3, .ref o0, .ref o1])), (o0, .inr (0, [.int nt011, .int ng012, .long mg013, .int ex014])), (o1, .inr (0, [.int nt115, .int ng116, .long mg117, .int ex118])), (s3, .inr (1, [.int p0, .ref w3])), (w3, .inl (cL, N0, .inr (.inl f19)))]) hP hD [0, 1, 2, 5, 6] [3, 4] rfl rfl (by decide) (by decide) hk1 hFc hP1 hD1
  generalize H1 = H at hP hS ⊢
  have hP := hP.sub (ws' := [(th, .inr (2, [.int size, .ref sa, .ref s2, .ref s3, .ref o0, .ref o1])), (o0, .inr (0, [.int nt011, .int ng012, .long mg013, .int ex014])), (o1, .inr (0, [.int nt115, .int ng116, .long mg117, .int ex118])), (s2, .inr (1, [.int p0, .ref w2])), (w2, .inl (cL, N0, .inr (.inl f9))), (s3, .inr (1, [.int p0, .ref w3])), (w3, .inl (cL, N0, .inr (.inl f19)))]) [2, 3, 4, 0, 1, 5, 6] rfl
  have hD := hD.sub (ws' := [(th, .inr (2, [.int size, .ref sa, .ref s2, .ref s3, .ref o0, .ref o1])), (o0, .inr (0, [.int nt011, .int ng012, .long mg013, .int ex014])), (o1, .inr (0, [.int nt115, .int ng116, .long mg117, .int ex118])), (s2, .inr (1, [.int p0, .ref w2])), (w2, .inl (cL, N0, .inr (.inl f9))), (s3, .inr (1, [.int p0, .ref w3])), (w3, .inl (cL, N0, .inr (.inl f19)))]) [2, 3, 4, 0, 1, 5, 6] (by decide) rfl
  refine lv_aload_n hx hb dX2_fused_23 rfl (lv_at hl 0 rfl) ?_
  refine va_get (D := (dC, dI)) (ci := 2) (v := .ref s2) (C := RX2) (T := TX2) (N := 6) hx hb hww tqinX2 hown hK hP 0 rfl rfl 2 (by decide) (hww _ tqt_96) (fun _ h9 => h9) rfl dX2_fused_24 ?_
  refine lv_aload_n hx hb dX2_fused_27 rfl (lv_at hl 0 rfl) ?_
  refine va_get (D := (dC, dI)) (ci := 2) (v := .ref s3) (C := RX2) (T := TX2) (N := 6) hx hb hww tqinX2 hown hK hP 0 rfl rfl 3 (by decide) (hww _ tqt_97) (fun _ h9 => h9) rfl dX2_fused_28 ?_
  obtain ⟨f020, hu, hf⟩ := tq_bd_some hf
  have hPc := hP.sub (ws' := [(s2, .inr (1, [.int p0, .ref w2])), (w2, .inl (cL, N0, .inr (.inl f9))), (s3, .inr (1, [.int p0, .ref w3])), (w3, .inl (cL, N0, .inr (.inl f19)))]) [3, 4, 5, 6] rfl
  have hDc := hD.sub (ws' := [(s2, .inr (1, [.int p0, .ref w2])), (w2, .inl (cL, N0, .inr (.inl f9))), (s3, .inr (1, [.int p0, .ref w3])), (w3, .inl (cL, N0, .inr (.inl f19)))]) [3, 4, 5, 6] (by decide) rfl
  have hKc := hK.sub (tys' := [(cL, .long)]) [0] rfl
  have hFc := va_free (wc := [(s2, .inr (1, [.int p0, .ref w2])), (w2, .inl (cL, N0, .inr (.inl f9))), (s3, .inr (1, [.int p0, .ref w3])), (w3, .inl (cL, N0, .inr (.inl f19)))]) hD hS hA [3, 4, 5, 6] rfl
  refine va_callv (va_runV (As := [.ref s3]) (rest := []) ⟨hx, hb, hml, hown, hww⟩ (c_f_include l dC dI s2 s3 w2 w3 cL H.size p0 N0 f9 p0 N0 f19 f020 hu) (cwV 1 hww (tq_gV tqt_184 tqt_185 tqt_186 tqt_33 tqt_187) rfl rfl rfl (by decide +kernel) ⟨Nat.le_of_ble_eq_true rfl, Nat.le_of_ble_eq_true rfl⟩) ⟨fun a U g mk q => by obtain ⟨q0, q1, qP, qK, qD, qN⟩ := q; exact ⟨q0, q1, qP, va_K.moved (u := U) (U := U.calling g mk a) (Vm.Alike.refl U.vm) qK, qD, tqN_same (u := U) (U := U.calling g mk a) rfl qN⟩, va_recv hK hP (ci := 1) rfl (q0 := 3) rfl, fun U hU hW => ⟨rfl, by rw [hU], by rw [hU]; exact hPc, va_K.moved hW.alike hKc, hDc.weaken (fun _ _ _ _ => trivial), tqN_warm hW hN⟩⟩ rfl rfl hl.1 rfl (lv_room (Nat.le_of_ble_eq_true rfl)) dX2_fused_31 ⟨Nat.zero_le _, Nat.zero_le _⟩) hS (fun q _ h => hFc q h) hFc (fun u0 t H1 locs ht hvm hpost hB hz1 hk1 hS => ?_)
  obtain ⟨hP1, hK1, hD1⟩ := hB
  rw [ht] at hP1
  obtain ⟨hP, hD⟩ := va_join (wr := [(th, .inr (2, [.int size, .ref sa, .ref s2, .ref s3, .ref o0, .ref o1])), (o0, .inr (0, [.int nt011, .int ng012, .long mg013, .int ex014])), (o1, .inr (0, [.int nt115, .int ng116, .long mg117, .int ex118]))]) (w1 := [(s2, .inr (1, [.int p0, .ref w2])), (w2, .inl (cL, N0, .inr (.inl f020))), (s3, .inr (1, [.int p0, .ref w3])), (w3, .inl (cL, N0, .inr (.inl f19)))]) hP hD [3, 4, 5, 6] [0, 1, 2] rfl rfl (by decide) (by decide) hk1 hFc hP1 hD1
  generalize H1 = H at hP hS ⊢
  have hP := hP.sub (ws' := [(th, .inr (2, [.int size, .ref sa, .ref s2, .ref s3, .ref o0, .ref o1])), (o0, .inr (0, [.int nt011, .int ng012, .long mg013, .int ex014])), (o1, .inr (0, [.int nt115, .int ng116, .long mg117, .int ex118])), (s2, .inr (1, [.int p0, .ref w2])), (w2, .inl (cL, N0, .inr (.inl f020))), (s3, .inr (1, [.int p0, .ref w3])), (w3, .inl (cL, N0, .inr (.inl f19)))]) [0, 1, 2, 3, 4, 5, 6] rfl
  have hD := hD.sub (ws' := [(th, .inr (2, [.int size, .ref sa, .ref s2, .ref s3, .ref o0, .ref o1])), (o0, .inr (0, [.int nt011, .int ng012, .long mg013, .int ex014])), (o1, .inr (0, [.int nt115, .int ng116, .long mg117, .int ex118])), (s2, .inr (1, [.int p0, .ref w2])), (w2, .inl (cL, N0, .inr (.inl f020))), (s3, .inr (1, [.int p0, .ref w3])), (w3, .inl (cL, N0, .inr (.inl f19)))]) [0, 1, 2, 3, 4, 5, 6] (by decide) rfl
  refine lv_aload_n hx hb dX2_fused_34 rfl (lv_at hl 0 rfl) ?_
  refine lv_aload_n hx hb dX2_fused_35 rfl (lv_at hl 0 rfl) ?_
  refine va_get (D := (dC, dI)) (ci := 2) (v := .ref s2) (C := RX2) (T := TX2) (N := 6) hx hb hww tqinX2 hown hK hP 0 rfl rfl 2 (by decide) (hww _ tqt_96) (fun _ h9 => h9) rfl dX2_fused_36 ?_
  obtain ⟨u, hu, hf⟩ := tq_bd_some hf
  obtain ⟨r21, f322⟩ := u
  have hf := tq_nm_at (z := r21) rfl hf
  have hf := tq_nm_at (z := f322) rfl hf
  have hPc := hP.sub (ws' := [(th, .inr (2, [.int size, .ref sa, .ref s2, .ref s3, .ref o0, .ref o1])), (s2, .inr (1, [.int p0, .ref w2])), (w2, .inl (cL, N0, .inr (.inl f020))), (s3, .inr (1, [.int p0, .ref w3])), (w3, .inl (cL, N0, .inr (.inl f19)))]) [0, 3, 4, 5, 6] rfl
  have hDc := hD.sub (ws' := [(th, .inr (2, [.int size, .ref sa, .ref s2, .ref s3, .ref o0, .ref o1])), (s2, .inr (1, [.int p0, .ref w2])), (w2, .inl (cL, N0, .inr (.inl f020))), (s3, .inr (1, [.int p0, .ref w3])), (w3, .inl (cL, N0, .inr (.inl f19)))]) [0, 3, 4, 5, 6] (by decide) rfl
  have hKc := hK.sub (tys' := [(cL, .long)]) [0] rfl
  have hFc := va_free (wc := [(th, .inr (2, [.int size, .ref sa, .ref s2, .ref s3, .ref o0, .ref o1])), (s2, .inr (1, [.int p0, .ref w2])), (w2, .inl (cL, N0, .inr (.inl f020))), (s3, .inr (1, [.int p0, .ref w3])), (w3, .inl (cL, N0, .inr (.inl f19)))]) hD hS hA [0, 3, 4, 5, 6] rfl
  refine va_calli (va_runV (As := [.ref s2]) (rest := []) ⟨hx, hb, hml, hown, hww⟩ (c_f_roundedSum l dC dI th s2 sa s2 s3 o0 o1 w2 w3 cL H.size size p0 N0 f020 f19 (r21, f322) hu) (cwV 1 hww (tq_gV tqt_199 tqt_201 tqt_4 tqt_32 tqt_202) rfl rfl rfl (by decide +kernel) ⟨Nat.le_of_ble_eq_true rfl, Nat.le_of_ble_eq_true rfl⟩) ⟨fun a U g mk q => by obtain ⟨q0, q1, qP, qK, qD, qN⟩ := q; exact ⟨q0, q1, qP, va_K.moved (u := U) (U := U.calling g mk a) (Vm.Alike.refl U.vm) qK, qD, tqN_same (u := U) (U := U.calling g mk a) rfl qN⟩, va_recv hK hP (ci := 2) rfl (q0 := 0) rfl, fun U hU hW => ⟨rfl, by rw [hU], by rw [hU]; exact hPc, va_K.moved hW.alike hKc, hDc.weaken (fun _ _ _ _ => trivial), tqN_warm hW hN⟩⟩ rfl rfl hl.1 rfl (lv_room (Nat.le_of_ble_eq_true rfl)) dX2_fused_39 ⟨Nat.zero_le _, Nat.zero_le _⟩) hS (fun q _ h => hFc q h) hFc (fun ra u0 t H1 locs ht hvm hpost hB hz1 hk1 hS => ?_)
  have hpost : r21 = ra := (show ra = r21 from hpost).symm
  subst hpost
  obtain ⟨hP1, hK1, hD1⟩ := hB
  rw [ht] at hP1
  obtain ⟨hP, hD⟩ := va_join (wr := [(o0, .inr (0, [.int nt011, .int ng012, .long mg013, .int ex014])), (o1, .inr (0, [.int nt115, .int ng116, .long mg117, .int ex118]))]) (w1 := [(th, .inr (2, [.int size, .ref sa, .ref s2, .ref s3, .ref o0, .ref o1])), (s2, .inr (1, [.int p0, .ref w2])), (w2, .inl (cL, N0, .inr (.inl f020))), (s3, .inr (1, [.int p0, .ref w3])), (w3, .inl (cL, N0, .inr (.inl f322)))]) hP hD [0, 3, 4, 5, 6] [1, 2] rfl rfl (by decide) (by decide) hk1 hFc hP1 hD1
  generalize H1 = H at hP hS ⊢
  have hP := hP.sub (ws' := [(th, .inr (2, [.int size, .ref sa, .ref s2, .ref s3, .ref o0, .ref o1])), (o0, .inr (0, [.int nt011, .int ng012, .long mg013, .int ex014])), (o1, .inr (0, [.int nt115, .int ng116, .long mg117, .int ex118])), (s2, .inr (1, [.int p0, .ref w2])), (w2, .inl (cL, N0, .inr (.inl f020))), (s3, .inr (1, [.int p0, .ref w3])), (w3, .inl (cL, N0, .inr (.inl f322)))]) [2, 0, 1, 3, 4, 5, 6] rfl
  have hD := hD.sub (ws' := [(th, .inr (2, [.int size, .ref sa, .ref s2, .ref s3, .ref o0, .ref o1])), (o0, .inr (0, [.int nt011, .int ng012, .long mg013, .int ex014])), (o1, .inr (0, [.int nt115, .int ng116, .long mg117, .int ex118])), (s2, .inr (1, [.int p0, .ref w2])), (w2, .inl (cL, N0, .inr (.inl f020))), (s3, .inr (1, [.int p0, .ref w3])), (w3, .inl (cL, N0, .inr (.inl f322)))]) [2, 0, 1, 3, 4, 5, 6] (by decide) rfl
  have hf := Option.some.inj hf
  subst hf
  exact W.iret (v := r21) hx hb hr (fun t ht hW => ⟨⟨r21, (), rfl, rfl, by rw [ht]; exact hP, va_K.moved hW.alike hK, hD⟩, hS.F ht⟩) hS.2.2 dX2_fused_42
