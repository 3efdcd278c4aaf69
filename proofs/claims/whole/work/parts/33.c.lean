set_option maxHeartbeats 4000000 in
set_option maxRecDepth 100000 in
theorem c_f_readBody (l : Launch) (dC : Nat → ClassId) (dI : Nat → Nat → Nat) (o0 : Nat) (sz : Nat) (body : Int32) (nt0 : Int32) (ng0 : Int32) (mg0 : Int64) (ex0 : Int32) (r : Int32 × Int32 × Int64 × Int32) (hf : f_readBody nt0 ng0 mg0 ex0 body = r) : Met l yX0_readBody tqw_X0_readBody ({ frames := 2, cells := 0, slots := 0, locals := 43 }) (va_Pc [.ref o0, .int body] (fun U => U.heap.size = sz ∧ va_P (dC, dI) tqCl [(o0, .inr (0, [.int nt0, .int ng0, .long mg0, .int ex0]))] U.heap ∧ va_K (dC, dI) tqCl [] U ∧ va_D (fun _ => True) [(o0, .inr (0, [.int nt0, .int ng0, .long mg0, .int ex0]))] ∧ tqN U)) (va_Qv (fun (_ : Unit) => True) (fun (_ : Unit) (t : State) => va_P (dC, dI) tqCl [(o0, .inr (0, [.int r.1, .int r.2.1, .long r.2.2.1, .int r.2.2.2]))] t.heap ∧ va_K (dC, dI) tqCl [] t ∧ va_D (va_A [(o0, .inr (0, [.int nt0, .int ng0, .long mg0, .int ex0]))] sz) [(o0, .inr (0, [.int r.1, .int r.2.1, .long r.2.2.1, .int r.2.2.2]))]) (va_A [(o0, .inr (0, [.int nt0, .int ng0, .long mg0, .int ex0]))] sz)) 0 0 (va_A [(o0, .inr (0, [.int nt0, .int ng0, .long mg0, .int ex0]))] sz) := by
  refine Met.ofW (cc := cX0_readBody) (maxL := 12) (ret := none) (by decide) rfl ?_
  intro p e s m args below meth c s₁ B hml hv
  obtain ⟨rfl, hsz, hP, hK, hD0, hN⟩ := hv
  have hx := B.exec
  have hb := B.bytes
  have hr := B.returns
  have hts := atoms_spec (ws := tqw_X0_readBody) B.pre
  have hww : ∀ w ∈ tqW, w.before _ s = true := fun w h => hts w (List.mem_cons_of_mem _ h)
  have hown : s.vm.findClass RX0 = some m.cls := findClass_of_methodNamed B.named
  have hlocks := B.notSynchronized
  subst hsz
  have hD := hD0.self (sz := s.heap.size)
  generalize hAe : va_A [(o0, .inr (0, [.int nt0, .int ng0, .long mg0, .int ex0]))] s.heap.size = A at hD ⊢
  have hA : ∀ q : Nat, s.heap.size ≤ q → A q := fun q h => by rw [← hAe]; exact Or.inr h
  have hS : va_S A s.heap s.heap [] := va_S.rf
  have hP : va_P (dC, dI) tqCl [(o0, .inr (0, [.int nt0, .int ng0, .long mg0, .int ex0]))] s.heap := hP
  have hl := lv_entry ([.ref o0, .int body]) (n := 12) (Nat.le_of_ble_eq_true rfl)
  rw [lg_entry_eq]
  generalize (lg_sl ([.ref o0, .int body]) ++ List.replicate (12 - (lg_sl ([.ref o0, .int body])).length) Slot.unset).toArray = ls at hl ⊢
  have hl : lv_has ls 12 [(0, .ref o0), (1, .int body)] := hl
  have B37 : ∀ (ls : Array Slot) (H : Heap) (locs : List Loc) (v3 : Int32) (t0 : Int32) (nt0 : Int32) (ng0 : Int32) (mg0 : Int64) (ex0 : Int32), f_readBody_b37 body v3 t0 nt0 ng0 mg0 ex0 = r → lv_has ls 12 [(0, .ref o0), (1, .int body), (3, .int v3)] → va_P (dC, dI) tqCl [(o0, .inr (0, [.int nt0, .int ng0, .long mg0, .int ex0]))] H → va_D A [(o0, .inr (0, [.int nt0, .int ng0, .long mg0, .int ex0]))] → va_S A s.heap H locs → W p l e ({ frames := 2, cells := 0, slots := 0, locals := 43 }) s m ([.ref o0, .int body] : List Value).toArray below meth c H locs 0 0 (MQ below (va_Qv (fun (_ : Unit) => True) (fun (_ : Unit) (t : State) => va_P (dC, dI) tqCl [(o0, .inr (0, [.int r.1, .int r.2.1, .long r.2.2.1, .int r.2.2.2]))] t.heap ∧ va_K (dC, dI) tqCl [] t ∧ va_D (A) [(o0, .inr (0, [.int r.1, .int r.2.1, .long r.2.2.1, .int r.2.2.2]))]) (A)) ([.ref o0, .int body] : List Value).toArray s 0 0 A) (F0 m 37 ls [.int t0]) := by
    try clear hf
    intro ls H locs v3 t0 nt0 ng0 mg0 ex0 hf hl hP hD hS
    unfold f_readBody_b37 at hf
    refine lv_istore (lv' := [(4, .int t0), (0, .ref o0), (1, .int body), (3, .int v3)]) hx hb dX0_readBody_37 hl (by decide) rfl (fun ls hl => ?_)
    refine lv_iload_n hx hb dX0_readBody_39 rfl (lv_at hl 2 rfl) ?_
    refine lv_iload_n hx hb dX0_readBody_40 rfl (lv_at hl 3 rfl) ?_
    refine lv_ishl hx hb dX0_readBody_41 ?_
    refine lv_iconst (v := 1) hx hb dX0_readBody_42 (by decide) ?_
    refine lv_ishl hx hb dX0_readBody_43 ?_
    refine lv_topi (fun x6 e6 => ?_)
    have hf := tq_nm_at e6 hf
    refine lv_istore (lv' := [(5, .int x6), (4, .int t0), (0, .ref o0), (1, .int body), (3, .int v3)]) hx hb dX0_readBody_44 hl (by decide) rfl (fun ls hl => ?_)
    refine lv_iconst (v := 4) hx hb dX0_readBody_46 (by decide) ?_
    refine lv_iload hx hb dX0_readBody_47 (lv_at hl 1 rfl) ?_
    refine lv_imul hx hb dX0_readBody_49 ?_
    refine lv_iload hx hb dX0_readBody_50 (lv_at hl 0 rfl) ?_
    refine lv_bipush (v := 30) hx hb dX0_readBody_52 (by decide) ?_
    refine lv_iushr hx hb dX0_readBody_54 rfl ?_
    refine lv_iadd hx hb dX0_readBody_55 ?_
    refine lv_topi (fun x7 e7 => ?_)
    have hf := tq_nm_at e7 hf
    refine lv_istore (lv' := [(6, .int x7), (5, .int x6), (4, .int t0), (0, .ref o0), (1, .int body), (3, .int v3)]) hx hb dX0_readBody_56 hl (by decide) rfl (fun ls hl => ?_)
    refine lv_iload hx hb dX0_readBody_58 (lv_at hl 1 rfl) ?_
    refine lv_iconst (v := 2) hx hb dX0_readBody_60 (by decide) ?_
    refine lv_ishl hx hb dX0_readBody_61 ?_
    refine lv_i2l hx hb dX0_readBody_62 rfl ?_
    refine lv_ldc2 (v := 4294967295) hx hb hown (hww _ tqt_154) dX0_readBody_63 ?_
    refine lv_land hx hb dX0_readBody_66 ?_
    refine lv_topl (fun x8 e8 => ?_)
    have hf := tq_nm_at e8 hf
    refine lv_lstore (lv' := [(7, .long x8), (6, .int x7), (5, .int x6), (4, .int t0), (0, .ref o0), (1, .int body), (3, .int v3)]) hx hb dX0_readBody_67 hl (by decide) rfl (fun ls hl => ?_)
    refine lv_ldc2 (v := 4294967296) hx hb hown (hww _ tqt_155) dX0_readBody_69 ?_
    refine lv_lload hx hb dX0_readBody_72 (lv_at hl 0 rfl) ?_
    refine lv_lor hx hb dX0_readBody_74 ?_
    refine lv_topl (fun x9 e9 => ?_)
    have hf := tq_nm_at e9 hf
    refine lv_lstore (lv' := [(9, .long x9), (7, .long x8), (6, .int x7), (5, .int x6), (4, .int t0), (0, .ref o0), (1, .int body), (3, .int v3)]) hx hb dX0_readBody_75 hl (by decide) rfl (fun ls hl => ?_)
    refine lv_lload hx hb dX0_readBody_77 (lv_at hl 0 rfl) ?_
    have hPc := hP.sub (ws' := []) [] rfl
    have hDc := hD.sub (ws' := []) [] (by decide) rfl
    have hKc := hK.sub (tys' := []) [] rfl
    have hFc := va_free (wc := []) hD hS hA [] rfl
    refine va_calli (va_runS (As := [.long x9]) (rest := []) ⟨hx, hb, hml, hown, hww⟩ (c_f_lntz l dC dI H.size x9 (f_lntz x9) rfl) (va_cwS 1 hww (tq_gS tqt_156 tqt_157 tqt_38 tqt_158) rfl rfl rfl (by decide +kernel) ⟨Nat.le_of_ble_eq_true rfl, Nat.le_of_ble_eq_true rfl⟩) ⟨fun a U g mk q => by obtain ⟨q0, q1, qP, qK, qD, qN⟩ := q; exact ⟨q0, q1, qP, va_K.moved (u := U) (U := U.calling g mk a) (Vm.Alike.refl U.vm) qK, qD, tqN_same (u := U) (U := U.calling g mk a) rfl qN⟩, fun U hU hW => ⟨rfl, by rw [hU], by rw [hU]; exact hPc, va_K.moved hW.alike hKc, hDc.weaken (fun _ _ _ _ => trivial), tqN_warm hW hN⟩⟩ rfl rfl hl.1 rfl (lv_room (Nat.le_of_ble_eq_true rfl)) dX0_readBody_79 ⟨Nat.zero_le _, Nat.zero_le _⟩) hS (fun q _ h => hFc q h) hFc (fun ra u0 t H1 locs ht hvm hpost hB hz1 hk1 hS => ?_)
    have hpost : (f_lntz x9) = ra := (show ra = (f_lntz x9) from hpost).symm
    subst hpost
    obtain ⟨hP1, hK1, hD1⟩ := hB
    rw [ht] at hP1
    obtain ⟨hP, hD⟩ := va_join (wr := [(o0, .inr (0, [.int nt0, .int ng0, .long mg0, .int ex0]))]) (w1 := []) hP hD [] [0] rfl rfl (by decide) (by decide) hk1 hFc hP1 hD1
    generalize H1 = H at hP hS ⊢
    have hP := hP.sub (ws' := [(o0, .inr (0, [.int nt0, .int ng0, .long mg0, .int ex0]))]) [0] rfl
    have hD := hD.sub (ws' := [(o0, .inr (0, [.int nt0, .int ng0, .long mg0, .int ex0]))]) [0] (by decide) rfl
    refine lv_topi (fun x11 e11 => ?_)
    have hf := tq_nm_at e11 hf
    refine lv_istore (lv' := [(11, .int x11), (9, .long x9), (7, .long x8), (6, .int x7), (5, .int x6), (4, .int t0), (0, .ref o0), (1, .int body), (3, .int v3)]) hx hb dX0_readBody_82 hl (by decide) rfl (fun ls hl => ?_)
    refine lv_aload_n hx hb dX0_readBody_84 rfl (lv_at hl 6 rfl) ?_
    refine lv_lload hx hb dX0_readBody_85 (lv_at hl 1 rfl) ?_
    refine lv_iload hx hb dX0_readBody_87 (lv_at hl 0 rfl) ?_
    refine lv_lshr hx hb dX0_readBody_89 rfl ?_
    refine va_put (D := (dC, dI)) (ci := 0) (v := .long (x9 >>> (x11.toInt64 &&& 63))) (ty := .long) (C := RX0) (T := TX0) (N := 4) hx hb hww tqinX0 tyX0 tyX0_ok nmX0 hown hK hP hD hS 0 rfl rfl 2 (by decide) (hww _ tqt_79) (fun _ h9 => h9) rfl (by decide +kernel) rfl rfl (Nat.le_of_ble_eq_true rfl) dX0_readBody_90 (fun H locs hP hD hS => ?_)
    have hP : va_P (dC, dI) tqCl [(o0, .inr (0, [.int nt0, .int ng0, .long (x9 >>> (x11.toInt64 &&& 63)), .int ex0]))] H := hP
    have hD : va_D A [(o0, .inr (0, [.int nt0, .int ng0, .long (x9 >>> (x11.toInt64 &&& 63)), .int ex0]))] := hD
    refine lv_aload_n hx hb dX0_readBody_93 rfl (lv_at hl 6 rfl) ?_
    refine lv_iload hx hb dX0_readBody_94 (lv_at hl 3 rfl) ?_
    refine lv_bipush (v := 32) hx hb dX0_readBody_96 (by decide) ?_
    refine lv_isub hx hb dX0_readBody_98 ?_
    refine lv_iload hx hb dX0_readBody_99 (lv_at hl 0 rfl) ?_
    refine lv_iadd hx hb dX0_readBody_101 ?_
    refine va_put (D := (dC, dI)) (ci := 0) (v := .int ((x7 - (32 : Int32)) + x11)) (ty := .int) (C := RX0) (T := TX0) (N := 4) hx hb hww tqinX0 tyX0 tyX0_ok nmX0 hown hK hP hD hS 0 rfl rfl 3 (by decide) (hww _ tqt_82) (fun _ h9 => h9) rfl (by decide +kernel) rfl rfl (Nat.le_of_ble_eq_true rfl) dX0_readBody_102 (fun H locs hP hD hS => ?_)
    have hP : va_P (dC, dI) tqCl [(o0, .inr (0, [.int nt0, .int ng0, .long (x9 >>> (x11.toInt64 &&& 63)), .int ((x7 - (32 : Int32)) + x11)]))] H := hP
    have hD : va_D A [(o0, .inr (0, [.int nt0, .int ng0, .long (x9 >>> (x11.toInt64 &&& 63)), .int ((x7 - (32 : Int32)) + x11)]))] := hD
    subst hf
    exact W.vret hx hb hr (fun t ht hW => ⟨⟨(), rfl, trivial, by rw [ht]; exact hP, va_K.moved hW.alike hK, hD⟩, hS.F ht⟩) hS.2.2 dX0_readBody_105
  have B21 : ∀ (ls : Array Slot) (H : Heap) (locs : List Loc) (v2 : Int32) (t0 : Int32) (nt0 : Int32) (ng0 : Int32) (mg0 : Int64) (ex0 : Int32), f_readBody_b21 body v2 t0 nt0 ng0 mg0 ex0 = r → lv_has ls 12 [(0, .ref o0), (1, .int body), (2, .int v2)] → va_P (dC, dI) tqCl [(o0, .inr (0, [.int nt0, .int ng0, .long mg0, .int ex0]))] H → va_D A [(o0, .inr (0, [.int nt0, .int ng0, .long mg0, .int ex0]))] → va_S A s.heap H locs → W p l e ({ frames := 2, cells := 0, slots := 0, locals := 43 }) s m ([.ref o0, .int body] : List Value).toArray below meth c H locs 0 0 (MQ below (va_Qv (fun (_ : Unit) => True) (fun (_ : Unit) (t : State) => va_P (dC, dI) tqCl [(o0, .inr (0, [.int r.1, .int r.2.1, .long r.2.2.1, .int r.2.2.2]))] t.heap ∧ va_K (dC, dI) tqCl [] t ∧ va_D (A) [(o0, .inr (0, [.int r.1, .int r.2.1, .long r.2.2.1, .int r.2.2.2]))]) (A)) ([.ref o0, .int body] : List Value).toArray s 0 0 A) (F0 m 21 ls [.int t0]) := by
    try clear hf
    intro ls H locs v2 t0 nt0 ng0 mg0 ex0 hf hl hP hD hS
    unfold f_readBody_b21 at hf
    have hPc := hP.sub (ws' := []) [] rfl
    have hDc := hD.sub (ws' := []) [] (by decide) rfl
    have hKc := hK.sub (tys' := []) [] rfl
    have hFc := va_free (wc := []) hD hS hA [] rfl
    refine va_calli (va_runS (As := [.int t0]) (rest := []) ⟨hx, hb, hml, hown, hww⟩ (c_f_inlz l dC dI H.size t0 (f_inlz t0) rfl) (va_cwS 1 hww (tq_gS tqt_150 tqt_151 tqt_37 tqt_152) rfl rfl rfl (by decide +kernel) ⟨Nat.le_of_ble_eq_true rfl, Nat.le_of_ble_eq_true rfl⟩) ⟨fun a U g mk q => by obtain ⟨q0, q1, qP, qK, qD, qN⟩ := q; exact ⟨q0, q1, qP, va_K.moved (u := U) (U := U.calling g mk a) (Vm.Alike.refl U.vm) qK, qD, tqN_same (u := U) (U := U.calling g mk a) rfl qN⟩, fun U hU hW => ⟨rfl, by rw [hU], by rw [hU]; exact hPc, va_K.moved hW.alike hKc, hDc.weaken (fun _ _ _ _ => trivial), tqN_warm hW hN⟩⟩ rfl rfl hl.1 rfl (lv_room (Nat.le_of_ble_eq_true rfl)) dX0_readBody_21 ⟨Nat.zero_le _, Nat.zero_le _⟩) hS (fun q _ h => hFc q h) hFc (fun ra u0 t H1 locs ht hvm hpost hB hz1 hk1 hS => ?_)
    have hpost : (f_inlz t0) = ra := (show ra = (f_inlz t0) from hpost).symm
    subst hpost
    obtain ⟨hP1, hK1, hD1⟩ := hB
    rw [ht] at hP1
    obtain ⟨hP, hD⟩ := va_join (wr := [(o0, .inr (0, [.int nt0, .int ng0, .long mg0, .int ex0]))]) (w1 := []) hP hD [] [0] rfl rfl (by decide) (by decide) hk1 hFc hP1 hD1
    generalize H1 = H at hP hS ⊢
    have hP := hP.sub (ws' := [(o0, .inr (0, [.int nt0, .int ng0, .long mg0, .int ex0]))]) [0] rfl
    have hD := hD.sub (ws' := [(o0, .inr (0, [.int nt0, .int ng0, .long mg0, .int ex0]))]) [0] (by decide) rfl
    refine lv_topi (fun x4 e4 => ?_)
    have hf := tq_nm_at e4 hf
    refine lv_istore_n (lv' := [(3, .int x4), (0, .ref o0), (1, .int body), (2, .int v2)]) hx hb dX0_readBody_24 rfl hl (by decide) rfl (fun ls hl => ?_)
    refine lv_iload_n hx hb dX0_readBody_25 rfl (lv_at hl 3 rfl) ?_
    refine lv_if_eq hx hb dX0_readBody_26 rfl (fun h5 => ?_) (fun h5 => ?_)
    · rw [if_pos h5] at hf
      refine lv_iload_n hx hb dX0_readBody_35 rfl (lv_at hl 0 rfl) ?_
      refine lv_ineg hx hb dX0_readBody_36 ?_
      exact B37 ls _ _ x4 (-x4) nt0 ng0 mg0 ex0 hf (lv_sub hl [1, 2, 0] rfl) hP hD hS
    · rw [if_neg h5] at hf
      refine lv_iload_n hx hb dX0_readBody_29 rfl (lv_at hl 0 rfl) ?_
      refine lv_iconst (v := 1) hx hb dX0_readBody_30 (by decide) ?_
      refine lv_isub hx hb dX0_readBody_31 ?_
      refine lv_goto hx hb dX0_readBody_32 rfl ?_
      exact B37 ls _ _ x4 (x4 - (1 : Int32)) nt0 ng0 mg0 ex0 hf (lv_sub hl [1, 2, 0] rfl) hP hD hS
  have B9 : ∀ (ls : Array Slot) (H : Heap) (locs : List Loc) (t0 : Int32) (nt0 : Int32) (ng0 : Int32) (mg0 : Int64) (ex0 : Int32), f_readBody_b9 body t0 nt0 ng0 mg0 ex0 = r → lv_has ls 12 [(0, .ref o0), (1, .int body)] → va_P (dC, dI) tqCl [(o0, .inr (0, [.int nt0, .int ng0, .long mg0, .int ex0]))] H → va_D A [(o0, .inr (0, [.int nt0, .int ng0, .long mg0, .int ex0]))] → va_S A s.heap H locs → W p l e ({ frames := 2, cells := 0, slots := 0, locals := 43 }) s m ([.ref o0, .int body] : List Value).toArray below meth c H locs 0 0 (MQ below (va_Qv (fun (_ : Unit) => True) (fun (_ : Unit) (t : State) => va_P (dC, dI) tqCl [(o0, .inr (0, [.int r.1, .int r.2.1, .long r.2.2.1, .int r.2.2.2]))] t.heap ∧ va_K (dC, dI) tqCl [] t ∧ va_D (A) [(o0, .inr (0, [.int r.1, .int r.2.1, .long r.2.2.1, .int r.2.2.2]))]) (A)) ([.ref o0, .int body] : List Value).toArray s 0 0 A) (F0 m 9 ls [.int t0]) := by
    try clear hf
    intro ls H locs t0 nt0 ng0 mg0 ex0 hf hl hP hD hS
    unfold f_readBody_b9 at hf
    refine lv_istore_n (lv' := [(2, .int t0), (0, .ref o0), (1, .int body)]) hx hb dX0_readBody_9 rfl hl (by decide) rfl (fun ls hl => ?_)
    refine lv_iload_n hx hb dX0_readBody_10 rfl (lv_at hl 0 rfl) ?_
    refine lv_if_eq hx hb dX0_readBody_11 rfl (fun h2 => ?_) (fun h2 => ?_)
    · rw [if_pos h2] at hf
      refine lv_iload_n hx hb dX0_readBody_20 rfl (lv_at hl 2 rfl) ?_
      exact B21 ls _ _ t0 body nt0 ng0 mg0 ex0 hf (lv_sub hl [1, 2, 0] rfl) hP hD hS
    · rw [if_neg h2] at hf
      refine lv_iload_n hx hb dX0_readBody_14 rfl (lv_at hl 2 rfl) ?_
      refine lv_iconst (v := -1) hx hb dX0_readBody_15 (by decide) ?_
      refine lv_ixor hx hb dX0_readBody_16 ?_
      refine lv_goto hx hb dX0_readBody_17 rfl ?_
      exact B21 ls _ _ t0 (body ^^^ (-1 : Int32)) nt0 ng0 mg0 ex0 hf (lv_sub hl [1, 2, 0] rfl) hP hD hS
  unfold f_readBody at hf
  refine lv_iload_n hx hb dX0_readBody_0 rfl (lv_at hl 1 rfl) ?_
  refine lv_if_ge hx hb dX0_readBody_1 rfl (fun h1 => ?_) (fun h1 => ?_)
  · rw [if_pos h1] at hf
    refine lv_iconst (v := 0) hx hb dX0_readBody_8 (by decide) ?_
    exact B9 ls _ _ (0 : Int32) nt0 ng0 mg0 ex0 hf (lv_sub hl [0, 1] rfl) hP hD hS
  · rw [if_neg h1] at hf
    refine lv_iconst (v := 1) hx hb dX0_readBody_4 (by decide) ?_
    refine lv_goto hx hb dX0_readBody_5 rfl ?_
    exact B9 ls _ _ (1 : Int32) nt0 ng0 mg0 ex0 hf (lv_sub hl [0, 1] rfl) hP hD hS
set_option maxHeartbeats 4000000 in
set_option maxRecDepth 100000 in
theorem c_f_read (l : Launch) (dC : Nat → ClassId) (dI : Nat → Nat → Nat) (o0 : Nat) (sz : Nat) (x : Int32) (size : Int32) (nt0 : Int32) (ng0 : Int32) (mg0 : Int64) (ex0 : Int32) (r : Int32 × Int32 × Int64 × Int32) (hf : f_read nt0 ng0 mg0 ex0 x size = r) : Met l yX0_read tqw_X0_read ({ frames := 3, cells := 0, slots := 0, locals := 74 }) (va_Pc [.ref o0, .int x, .int size] (fun U => U.heap.size = sz ∧ va_P (dC, dI) tqCl [(o0, .inr (0, [.int nt0, .int ng0, .long mg0, .int ex0]))] U.heap ∧ va_K (dC, dI) tqCl [] U ∧ va_D (fun _ => True) [(o0, .inr (0, [.int nt0, .int ng0, .long mg0, .int ex0]))] ∧ tqN U)) (va_Qv (fun (_ : Unit) => True) (fun (_ : Unit) (t : State) => va_P (dC, dI) tqCl [(o0, .inr (0, [.int r.1, .int r.2.1, .long r.2.2.1, .int r.2.2.2]))] t.heap ∧ va_K (dC, dI) tqCl [] t ∧ va_D (va_A [(o0, .inr (0, [.int nt0, .int ng0, .long mg0, .int ex0]))] sz) [(o0, .inr (0, [.int r.1, .int r.2.1, .long r.2.2.1, .int r.2.2.2]))]) (va_A [(o0, .inr (0, [.int nt0, .int ng0, .long mg0, .int ex0]))] sz)) 0 0 (va_A [(o0, .inr (0, [.int nt0, .int ng0, .long mg0, .int ex0]))] sz) := by
  refine Met.ofW (cc := cX0_read) (maxL := 4) (ret := none) (by decide) rfl ?_
  intro p e s m args below meth c s₁ B hml hv
  obtain ⟨rfl, hsz, hP, hK, hD0, hN⟩ := hv
  have hx := B.exec
  have hb := B.bytes
  have hr := B.returns
  have hts := atoms_spec (ws := tqw_X0_read) B.pre
  have hww : ∀ w ∈ tqW, w.before _ s = true := fun w h => hts w (List.mem_cons_of_mem _ h)
  have hown : s.vm.findClass RX0 = some m.cls := findClass_of_methodNamed B.named
  have hlocks := B.notSynchronized
  subst hsz
  have hD := hD0.self (sz := s.heap.size)
  generalize hAe : va_A [(o0, .inr (0, [.int nt0, .int ng0, .long mg0, .int ex0]))] s.heap.size = A at hD ⊢
  have hA : ∀ q : Nat, s.heap.size ≤ q → A q := fun q h => by rw [← hAe]; exact Or.inr h
  have hS : va_S A s.heap s.heap [] := va_S.rf
  have hP : va_P (dC, dI) tqCl [(o0, .inr (0, [.int nt0, .int ng0, .long mg0, .int ex0]))] s.heap := hP
  have hl := lv_entry ([.ref o0, .int x, .int size]) (n := 4) (Nat.le_of_ble_eq_true rfl)
  rw [lg_entry_eq]
  generalize (lg_sl ([.ref o0, .int x, .int size]) ++ List.replicate (4 - (lg_sl ([.ref o0, .int x, .int size])).length) Slot.unset).toArray = ls at hl ⊢
  have hl : lv_has ls 4 [(0, .ref o0), (1, .int x), (2, .int size)] := hl
  have B33 : ∀ (ls : Array Slot) (H : Heap) (locs : List Loc) (v3 : Int32) (t0 : Int32) (nt0 : Int32) (ng0 : Int32) (mg0 : Int64) (ex0 : Int32), f_read_b33 size v3 t0 nt0 ng0 mg0 ex0 = r → lv_has ls 4 [(0, .ref o0), (2, .int size), (3, .int v3)] → va_P (dC, dI) tqCl [(o0, .inr (0, [.int nt0, .int ng0, .long mg0, .int ex0]))] H → va_D A [(o0, .inr (0, [.int nt0, .int ng0, .long mg0, .int ex0]))] → va_S A s.heap H locs → (t0 = 0 ∨ t0 = 1) → W p l e ({ frames := 3, cells := 0, slots := 0, locals := 74 }) s m ([.ref o0, .int x, .int size] : List Value).toArray below meth c H locs 0 0 (MQ below (va_Qv (fun (_ : Unit) => True) (fun (_ : Unit) (t : State) => va_P (dC, dI) tqCl [(o0, .inr (0, [.int r.1, .int r.2.1, .long r.2.2.1, .int r.2.2.2]))] t.heap ∧ va_K (dC, dI) tqCl [] t ∧ va_D (A) [(o0, .inr (0, [.int r.1, .int r.2.1, .long r.2.2.1, .int r.2.2.2]))]) (A)) ([.ref o0, .int x, .int size] : List Value).toArray s 0 0 A) (F0 m 33 ls [.int t0, .ref o0]) := by
    try clear hf
    intro ls H locs v3 t0 nt0 ng0 mg0 ex0 hf hl hP hD hS hb_t0
    unfold f_read_b33 at hf
    refine va_put (D := (dC, dI)) (ci := 0) (v := .int t0) (ty := .boolean) (C := RX0) (T := TX0) (N := 4) hx hb hww tqinX0 tyX0 tyX0_ok nmX0 hown hK hP hD hS 0 rfl rfl 1 (by decide) (hww _ tqt_76) (fun _ h9 => h9) rfl (by decide +kernel) (tq_nb_bool hb_t0) (tq_ft_bool hb_t0) (Nat.le_of_ble_eq_true rfl) dX0_read_33 (fun H locs hP hD hS => ?_)
    have hP : va_P (dC, dI) tqCl [(o0, .inr (0, [.int nt0, .int t0, .long mg0, .int ex0]))] H := hP
    have hD : va_D A [(o0, .inr (0, [.int nt0, .int t0, .long mg0, .int ex0]))] := hD
    refine lv_aload_n hx hb dX0_read_36 rfl (lv_at hl 0 rfl) ?_
    refine lv_lconst (v := 0) hx hb dX0_read_37 (by decide) ?_
    refine va_put (D := (dC, dI)) (ci := 0) (v := .long (0 : Int64)) (ty := .long) (C := RX0) (T := TX0) (N := 4) hx hb hww tqinX0 tyX0 tyX0_ok nmX0 hown hK hP hD hS 0 rfl rfl 2 (by decide) (hww _ tqt_79) (fun _ h9 => h9) rfl (by decide +kernel) rfl rfl (Nat.le_of_ble_eq_true rfl) dX0_read_38 (fun H locs hP hD hS => ?_)
    have hP : va_P (dC, dI) tqCl [(o0, .inr (0, [.int nt0, .int t0, .long (0 : Int64), .int ex0]))] H := hP
    have hD : va_D A [(o0, .inr (0, [.int nt0, .int t0, .long (0 : Int64), .int ex0]))] := hD
    refine lv_aload_n hx hb dX0_read_41 rfl (lv_at hl 0 rfl) ?_
    refine lv_iconst (v := 0) hx hb dX0_read_42 (by decide) ?_
    refine va_put (D := (dC, dI)) (ci := 0) (v := .int (0 : Int32)) (ty := .int) (C := RX0) (T := TX0) (N := 4) hx hb hww tqinX0 tyX0 tyX0_ok nmX0 hown hK hP hD hS 0 rfl rfl 3 (by decide) (hww _ tqt_82) (fun _ h9 => h9) rfl (by decide +kernel) rfl rfl (Nat.le_of_ble_eq_true rfl) dX0_read_43 (fun H locs hP hD hS => ?_)
    have hP : va_P (dC, dI) tqCl [(o0, .inr (0, [.int nt0, .int t0, .long (0 : Int64), .int (0 : Int32)]))] H := hP
    have hD : va_D A [(o0, .inr (0, [.int nt0, .int t0, .long (0 : Int64), .int (0 : Int32)]))] := hD
    refine lv_iload_n hx hb dX0_read_46 rfl (lv_at hl 2 rfl) ?_
    refine lv_if_eq hx hb dX0_read_47 rfl (fun h12 => ?_) (fun h12 => ?_)
    · rw [if_pos h12] at hf
      subst hf
      exact W.vret hx hb hr (fun t ht hW => ⟨⟨(), rfl, trivial, by rw [ht]; exact hP, va_K.moved hW.alike hK, hD⟩, hS.F ht⟩) hS.2.2 dX0_read_70
    · rw [if_neg h12] at hf
      refine lv_aload_n hx hb dX0_read_50 rfl (lv_at hl 0 rfl) ?_
      refine va_get (D := (dC, dI)) (ci := 0) (v := .int nt0) (C := RX0) (T := TX0) (N := 4) hx hb hww tqinX0 hown hK hP 0 rfl rfl 0 (by decide) (hww _ tqt_73) (fun _ h9 => h9) rfl dX0_read_51 ?_
      refine lv_if_ne hx hb dX0_read_54 rfl (fun h13 => ?_) (fun h13 => ?_)
      · rw [if_pos h13] at hf
        subst hf
        exact W.vret hx hb hr (fun t ht hW => ⟨⟨(), rfl, trivial, by rw [ht]; exact hP, va_K.moved hW.alike hK, hD⟩, hS.F ht⟩) hS.2.2 dX0_read_70
      · rw [if_neg (fun q : ¬ nt0 = 0 => q h13)] at hf
        refine lv_aload_n hx hb dX0_read_57 rfl (lv_at hl 0 rfl) ?_
        refine lv_iload_n hx hb dX0_read_58 rfl (lv_at hl 2 rfl) ?_
        refine va_mabs hx hb (hml.trans hl.1.symm) hown (hww _ tqt_143) (hww _ tqt_144) (hww _ tqt_36) (hww _ tqt_145) (Nat.le_of_ble_eq_true rfl) (Nat.le_of_ble_eq_true rfl) (Nat.zero_le _) (Nat.zero_le _) dX0_read_59 ?_
        refine lv_bipush (v := 33) hx hb dX0_read_62 (by decide) ?_
        refine lv_iload_n hx hb dX0_read_64 rfl (lv_at hl 1 rfl) ?_
        refine lv_isub hx hb dX0_read_65 ?_
        refine lv_ishl hx hb dX0_read_66 ?_
        obtain ⟨u, hu⟩ : ∃ u, u = f_readBody nt0 t0 (0 : Int64) (0 : Int32) ((if 0 ≤ v3 then v3 else 0 - v3) <<< (((33 : Int32) - size) &&& 31)) := ⟨_, rfl⟩
        have hf := tq_nm_at hu hf
        obtain ⟨nt014, ng015, mg016, ex017⟩ := u
        have hf := tq_nm_at (z := nt014) rfl hf
        have hf := tq_nm_at (z := ng015) rfl hf
        have hf := tq_nm_at (z := mg016) rfl hf
        have hf := tq_nm_at (z := ex017) rfl hf
        have hPc := hP.sub (ws' := [(o0, .inr (0, [.int nt0, .int t0, .long (0 : Int64), .int (0 : Int32)]))]) [0] rfl
        have hDc := hD.sub (ws' := [(o0, .inr (0, [.int nt0, .int t0, .long (0 : Int64), .int (0 : Int32)]))]) [0] (by decide) rfl
        have hKc := hK.sub (tys' := []) [] rfl
        have hFc := va_free (wc := [(o0, .inr (0, [.int nt0, .int t0, .long (0 : Int64), .int (0 : Int32)]))]) hD hS hA [0] rfl
        refine va_callv (va_runV (As := [.int ((if 0 ≤ v3 then v3 else 0 - v3) <<< (((33 : Int32) - size) &&& 31))]) (rest := []) ⟨hx, hb, hml, hown, hww⟩ (c_f_readBody l dC dI o0 H.size ((if 0 ≤ v3 then v3 else 0 - v3) <<< (((33 : Int32) - size) &&& 31)) nt0 t0 (0 : Int64) (0 : Int32) (nt014, ng015, mg016, ex017) hu.symm) (cwV 1 hww (tq_gV tqt_146 tqt_148 tqt_2 tqt_34 tqt_149) rfl rfl rfl (by decide +kernel) ⟨Nat.le_of_ble_eq_true rfl, Nat.le_of_ble_eq_true rfl⟩) ⟨fun a U g mk q => by obtain ⟨q0, q1, qP, qK, qD, qN⟩ := q; exact ⟨q0, q1, qP, va_K.moved (u := U) (U := U.calling g mk a) (Vm.Alike.refl U.vm) qK, qD, tqN_same (u := U) (U := U.calling g mk a) rfl qN⟩, va_recv hK hP (ci := 0) rfl (q0 := 0) rfl, fun U hU hW => ⟨rfl, by rw [hU], by rw [hU]; exact hPc, va_K.moved hW.alike hKc, hDc.weaken (fun _ _ _ _ => trivial), tqN_warm hW hN⟩⟩ rfl rfl hl.1 rfl (lv_room (Nat.le_of_ble_eq_true rfl)) dX0_read_67 ⟨Nat.zero_le _, Nat.zero_le _⟩) hS (fun q _ h => hFc q h) hFc (fun u0 t H1 locs ht hvm hpost hB hz1 hk1 hS => ?_)
        obtain ⟨hP1, hK1, hD1⟩ := hB
        rw [ht] at hP1
        obtain ⟨hP, hD⟩ := va_join (wr := []) (w1 := [(o0, .inr (0, [.int nt014, .int ng015, .long mg016, .int ex017]))]) hP hD [0] [] rfl rfl (by decide) (by decide) hk1 hFc hP1 hD1
        generalize H1 = H at hP hS ⊢
        have hP := hP.sub (ws' := [(o0, .inr (0, [.int nt014, .int ng015, .long mg016, .int ex017]))]) [0] rfl
        have hD := hD.sub (ws' := [(o0, .inr (0, [.int nt014, .int ng015, .long mg016, .int ex017]))]) [0] (by decide) rfl
        subst hf
        exact W.vret hx hb hr (fun t ht hW => ⟨⟨(), rfl, trivial, by rw [ht]; exact hP, va_K.moved hW.alike hK, hD⟩, hS.F ht⟩) hS.2.2 dX0_read_70
  have B20 : ∀ (ls : Array Slot) (H : Heap) (locs : List Loc) (v3 : Int32) (t0 : Int32) (nt0 : Int32) (ng0 : Int32) (mg0 : Int64) (ex0 : Int32), f_read_b20 size v3 t0 nt0 ng0 mg0 ex0 = r → lv_has ls 4 [(0, .ref o0), (2, .int size), (3, .int v3)] → va_P (dC, dI) tqCl [(o0, .inr (0, [.int nt0, .int ng0, .long mg0, .int ex0]))] H → va_D A [(o0, .inr (0, [.int nt0, .int ng0, .long mg0, .int ex0]))] → va_S A s.heap H locs → (t0 = 0 ∨ t0 = 1) → W p l e ({ frames := 3, cells := 0, slots := 0, locals := 74 }) s m ([.ref o0, .int x, .int size] : List Value).toArray below meth c H locs 0 0 (MQ below (va_Qv (fun (_ : Unit) => True) (fun (_ : Unit) (t : State) => va_P (dC, dI) tqCl [(o0, .inr (0, [.int r.1, .int r.2.1, .long r.2.2.1, .int r.2.2.2]))] t.heap ∧ va_K (dC, dI) tqCl [] t ∧ va_D (A) [(o0, .inr (0, [.int r.1, .int r.2.1, .long r.2.2.1, .int r.2.2.2]))]) (A)) ([.ref o0, .int x, .int size] : List Value).toArray s 0 0 A) (F0 m 20 ls [.int t0, .ref o0]) := by
    try clear hf
    intro ls H locs v3 t0 nt0 ng0 mg0 ex0 hf hl hP hD hS hb_t0
    unfold f_read_b20 at hf
    refine va_put (D := (dC, dI)) (ci := 0) (v := .int t0) (ty := .boolean) (C := RX0) (T := TX0) (N := 4) hx hb hww tqinX0 tyX0 tyX0_ok nmX0 hown hK hP hD hS 0 rfl rfl 0 (by decide) (hww _ tqt_73) (fun _ h9 => h9) rfl (by decide +kernel) (tq_nb_bool hb_t0) (tq_ft_bool hb_t0) (Nat.le_of_ble_eq_true rfl) dX0_read_20 (fun H locs hP hD hS => ?_)
    have hP : va_P (dC, dI) tqCl [(o0, .inr (0, [.int t0, .int ng0, .long mg0, .int ex0]))] H := hP
    have hD : va_D A [(o0, .inr (0, [.int t0, .int ng0, .long mg0, .int ex0]))] := hD
    refine lv_aload_n hx hb dX0_read_23 rfl (lv_at hl 0 rfl) ?_
    refine lv_iload_n hx hb dX0_read_24 rfl (lv_at hl 2 rfl) ?_
    refine lv_if_ge hx hb dX0_read_25 rfl (fun h18 => ?_) (fun h18 => ?_)
    · rw [if_pos h18] at hf
      refine lv_iconst (v := 0) hx hb dX0_read_32 (by decide) ?_
      exact B33 ls _ _ v3 (0 : Int32) t0 ng0 mg0 ex0 hf (lv_sub hl [0, 1, 2] rfl) hP hD hS (by decide)
    · rw [if_neg h18] at hf
      refine lv_iconst (v := 1) hx hb dX0_read_28 (by decide) ?_
      refine lv_goto hx hb dX0_read_29 rfl ?_
      exact B33 ls _ _ v3 (1 : Int32) t0 ng0 mg0 ex0 hf (lv_sub hl [0, 1, 2] rfl) hP hD hS (by decide)
  unfold f_read at hf
  refine lv_iload_n hx hb dX0_read_0 rfl (lv_at hl 1 rfl) ?_
  refine lv_iload_n hx hb dX0_read_1 rfl (lv_at hl 2 rfl) ?_
  have hPc := hP.sub (ws' := []) [] rfl
  have hDc := hD.sub (ws' := []) [] (by decide) rfl
  have hKc := hK.sub (tys' := []) [] rfl
  have hFc := va_free (wc := []) hD hS hA [] rfl
  refine va_calli (va_runSN (As := [.int x, .int size]) (rest := []) ⟨hx, hb, hml, hown, hww⟩ (c_f_patternOf l dC dI s.heap.size x size (f_patternOf x size) rfl) (⟨va_cnB 2 hww (tq_gG tqt_139) rfl rfl rfl hN.2.1 (hww _ tqt_32) (by decide +kernel) ⟨Nat.le_of_ble_eq_true rfl, Nat.le_of_ble_eq_true rfl⟩, hww _ tqt_138, trivial⟩) ⟨fun a U g mk q => by obtain ⟨q0, q1, qP, qK, qD, qN⟩ := q; exact ⟨q0, q1, qP, va_K.moved (u := U) (U := U.calling g mk a) (Vm.Alike.refl U.vm) qK, qD, tqN_same (u := U) (U := U.calling g mk a) rfl qN⟩, fun U hU hW => ⟨rfl, by rw [hU], by rw [hU]; exact hPc, va_K.moved hW.alike hKc, hDc.weaken (fun _ _ _ _ => trivial), tqN_warm hW hN⟩⟩ rfl rfl hl.1 rfl (lv_room (Nat.le_of_ble_eq_true rfl)) dX0_read_2 ⟨Nat.zero_le _, Nat.zero_le _⟩) hS (fun q _ h => hFc q h) hFc (fun ra u0 t H1 locs ht hvm hpost hB hz1 hk1 hS => ?_)
  have hpost : (f_patternOf x size) = ra := (show ra = (f_patternOf x size) from hpost).symm
  subst hpost
  obtain ⟨hP1, hK1, hD1⟩ := hB
  rw [ht] at hP1
  obtain ⟨hP, hD⟩ := va_join (wr := [(o0, .inr (0, [.int nt0, .int ng0, .long mg0, .int ex0]))]) (w1 := []) hP hD [] [0] rfl rfl (by decide) (by decide) hk1 hFc hP1 hD1
  generalize H1 = H at hP hS ⊢
  have hP := hP.sub (ws' := [(o0, .inr (0, [.int nt0, .int ng0, .long mg0, .int ex0]))]) [0] rfl
  have hD := hD.sub (ws' := [(o0, .inr (0, [.int nt0, .int ng0, .long mg0, .int ex0]))]) [0] (by decide) rfl
  refine lv_topi (fun x2 e2 => ?_)
  have hf := tq_nm_at e2 hf
  refine lv_istore_n (lv' := [(3, .int x2), (0, .ref o0), (1, .int x), (2, .int size)]) hx hb dX0_read_5 rfl hl (by decide) rfl (fun ls hl => ?_)
  refine lv_aload_n hx hb dX0_read_6 rfl (lv_at hl 1 rfl) ?_
  refine lv_iload_n hx hb dX0_read_7 rfl (lv_at hl 0 rfl) ?_
  refine lv_iload_n hx hb dX0_read_8 rfl (lv_at hl 3 rfl) ?_
  have hPc := hP.sub (ws' := []) [] rfl
  have hDc := hD.sub (ws' := []) [] (by decide) rfl
  have hKc := hK.sub (tys' := []) [] rfl
  have hFc := va_free (wc := []) hD hS hA [] rfl
  refine va_calli (va_runSN (As := [.int size]) (rest := [.int x2, .ref o0]) ⟨hx, hb, hml, hown, hww⟩ (c_f_notOf l dC dI H.size size (f_notOf size) rfl) (⟨va_cnB 1 hww (tq_gG tqt_142) rfl rfl rfl hN.2.2 (hww _ tqt_32) (by decide +kernel) ⟨Nat.le_of_ble_eq_true rfl, Nat.le_of_ble_eq_true rfl⟩, hww _ tqt_141, trivial⟩) ⟨fun a U g mk q => by obtain ⟨q0, q1, qP, qK, qD, qN⟩ := q; exact ⟨q0, q1, qP, va_K.moved (u := U) (U := U.calling g mk a) (Vm.Alike.refl U.vm) qK, qD, tqN_same (u := U) (U := U.calling g mk a) rfl qN⟩, fun U hU hW => ⟨rfl, by rw [hU], by rw [hU]; exact hPc, va_K.moved hW.alike hKc, hDc.weaken (fun _ _ _ _ => trivial), tqN_warm hW hN⟩⟩ rfl rfl hl.1 rfl (lv_room (Nat.le_of_ble_eq_true rfl)) dX0_read_9 ⟨Nat.zero_le _, Nat.zero_le _⟩) hS (fun q _ h => hFc q h) hFc (fun ra u0 t H1 locs ht hvm hpost hB hz1 hk1 hS => ?_)
  have hpost : (f_notOf size) = ra := (show ra = (f_notOf size) from hpost).symm
  subst hpost
  obtain ⟨hP1, hK1, hD1⟩ := hB
  rw [ht] at hP1
  obtain ⟨hP, hD⟩ := va_join (wr := [(o0, .inr (0, [.int nt0, .int ng0, .long mg0, .int ex0]))]) (w1 := []) hP hD [] [0] rfl rfl (by decide) (by decide) hk1 hFc hP1 hD1
  generalize H1 = H at hP hS ⊢
  have hP := hP.sub (ws' := [(o0, .inr (0, [.int nt0, .int ng0, .long mg0, .int ex0]))]) [0] rfl
  have hD := hD.sub (ws' := [(o0, .inr (0, [.int nt0, .int ng0, .long mg0, .int ex0]))]) [0] (by decide) rfl
  refine lv_icmp_ne hx hb dX0_read_12 rfl (fun h4 => ?_) (fun h4 => ?_)
  · rw [if_pos h4] at hf
    refine lv_iconst (v := 0) hx hb dX0_read_19 (by decide) ?_
    exact B20 ls _ _ x2 (0 : Int32) nt0 ng0 mg0 ex0 hf (lv_sub hl [1, 3, 0] rfl) hP hD hS (by decide)
  · rw [if_neg (fun q : ¬ x2 = (f_notOf size) => q h4)] at hf
    refine lv_iconst (v := 1) hx hb dX0_read_15 (by decide) ?_
    refine lv_goto hx hb dX0_read_16 rfl ?_
    exact B20 ls _ _ x2 (1 : Int32) nt0 ng0 mg0 ex0 hf (lv_sub hl [1, 3, 0] rfl) hP hD hS (by decide)
set_option maxHeartbeats 4000000 in
set_option maxRecDepth 100000 in
theorem c_f_setZero (l : Launch) (dC : Nat → ClassId) (dI : Nat → Nat → Nat) (s0 : Nat) (w0 : Nat) (cL : ClassId) (sz : Nat) (p0 : Int32) (N0 : Nat) (f0 : Nat → Int64) (r : (Nat → Int64)) (hf : f_setZero N0 f0 = some r) : Met l yX1_setZero tqw_X1_setZero ({ frames := 0, cells := 0, slots := 0, locals := 0 }) (va_Pc [.ref s0] (fun U => U.heap.size = sz ∧ va_P (dC, dI) tqCl [(s0, .inr (1, [.int p0, .ref w0])), (w0, .inl (cL, N0, .inr (.inl f0)))] U.heap ∧ va_K (dC, dI) tqCl [(cL, .long)] U ∧ va_D (fun _ => True) [(s0, .inr (1, [.int p0, .ref w0])), (w0, .inl (cL, N0, .inr (.inl f0)))] ∧ tqN U)) (va_Qv (fun (_ : Unit) => True) (fun (_ : Unit) (t : State) => va_P (dC, dI) tqCl [(s0, .inr (1, [.int p0, .ref w0])), (w0, .inl (cL, N0, .inr (.inl r)))] t.heap ∧ va_K (dC, dI) tqCl [(cL, .long)] t ∧ va_D (va_A [(s0, .inr (1, [.int p0, .ref w0])), (w0, .inl (cL, N0, .inr (.inl f0)))] sz) [(s0, .inr (1, [.int p0, .ref w0])), (w0, .inl (cL, N0, .inr (.inl r)))]) (va_A [(s0, .inr (1, [.int p0, .ref w0])), (w0, .inl (cL, N0, .inr (.inl f0)))] sz)) 0 0 (va_A [(s0, .inr (1, [.int p0, .ref w0])), (w0, .inl (cL, N0, .inr (.inl f0)))] sz) := by
  refine Met.ofW (cc := cX1_setZero) (maxL := 2) (ret := none) (by decide) rfl ?_
  intro p e s m args below meth c s₁ B hml hv
  obtain ⟨rfl, hsz, hP, hK, hD0, hN⟩ := hv
  have hx := B.exec
  have hb := B.bytes
  have hr := B.returns
  have hts := atoms_spec (ws := tqw_X1_setZero) B.pre
  have hww : ∀ w ∈ tqW, w.before _ s = true := fun w h => hts w (List.mem_cons_of_mem _ h)
  have hown : s.vm.findClass RX1 = some m.cls := findClass_of_methodNamed B.named
  have hlocks := B.notSynchronized
  subst hsz
  have hD := hD0.self (sz := s.heap.size)
  generalize hAe : va_A [(s0, .inr (1, [.int p0, .ref w0])), (w0, .inl (cL, N0, .inr (.inl f0)))] s.heap.size = A at hD ⊢
  have hA : ∀ q : Nat, s.heap.size ≤ q → A q := fun q h => by rw [← hAe]; exact Or.inr h
  have hS : va_S A s.heap s.heap [] := va_S.rf
  have hP : va_P (dC, dI) tqCl [(s0, .inr (1, [.int p0, .ref w0])), (w0, .inl (cL, N0, .inr (.inl f0)))] s.heap := hP
  have hl := lv_entry ([.ref s0]) (n := 2) (Nat.le_of_ble_eq_true rfl)
  rw [lg_entry_eq]
  generalize (lg_sl ([.ref s0]) ++ List.replicate (2 - (lg_sl ([.ref s0])).length) Slot.unset).toArray = ls at hl ⊢
  have hl : lv_has ls 2 [(0, .ref s0)] := hl
  have B2 : ∀ (n2 : Nat) (ls : Array Slot) (H : Heap) (locs : List Loc) (v1 : Int32) (f0 : Nat → Int64), f_setZero_b2 N0 n2 v1 f0 = some r → lv_has ls 2 [(0, .ref s0), (1, .int v1)] → va_P (dC, dI) tqCl [(s0, .inr (1, [.int p0, .ref w0])), (w0, .inl (cL, N0, .inr (.inl f0)))] H → va_D A [(s0, .inr (1, [.int p0, .ref w0])), (w0, .inl (cL, N0, .inr (.inl f0)))] → va_S A s.heap H locs → W p l e ({ frames := 0, cells := 0, slots := 0, locals := 0 }) s m ([.ref s0] : List Value).toArray below meth c H locs 0 0 (MQ below (va_Qv (fun (_ : Unit) => True) (fun (_ : Unit) (t : State) => va_P (dC, dI) tqCl [(s0, .inr (1, [.int p0, .ref w0])), (w0, .inl (cL, N0, .inr (.inl r)))] t.heap ∧ va_K (dC, dI) tqCl [(cL, .long)] t ∧ va_D (A) [(s0, .inr (1, [.int p0, .ref w0])), (w0, .inl (cL, N0, .inr (.inl r)))]) (A)) ([.ref s0] : List Value).toArray s 0 0 A) (F0 m 2 ls []) := by
    try clear hf
    intro n2
    induction n2 with
    | zero =>
      intro ls H locs v1 f0 hf hl hP hD hS
      have hf : (none : Option ((Nat → Int64))) = some r := hf
      cases hf
    | succ n2 ih2 =>
      intro ls H locs v1 f0 hf hl hP hD hS
      unfold f_setZero_b2 at hf
      refine lv_iload_n hx hb dX1_setZero_2 rfl (lv_at hl 1 rfl) ?_
      refine lv_aload_n hx hb dX1_setZero_3 rfl (lv_at hl 0 rfl) ?_
      refine va_get (D := (dC, dI)) (ci := 1) (v := .ref w0) (C := RX1) (T := TX1) (N := 2) hx hb hww tqinX1 hown hK hP 0 rfl rfl 1 (by decide) (hww _ tqt_59) (fun _ h9 => h9) rfl dX1_setZero_4 ?_
      refine va_alen (v := nI N0) hx hb hK hP 1 0 rfl rfl rfl dX1_setZero_7 ?_
      refine lv_icmp_ge hx hb dX1_setZero_8 rfl (fun h1 => ?_) (fun h1 => ?_)
      · rw [if_pos h1] at hf
        have hf := Option.some.inj hf
        subst hf
        exact W.vret hx hb hr (fun t ht hW => ⟨⟨(), rfl, trivial, by rw [ht]; exact hP, va_K.moved hW.alike hK, hD⟩, hS.F ht⟩) hS.2.2 dX1_setZero_24
      · rw [if_neg h1] at hf
        refine lv_aload_n hx hb dX1_setZero_11 rfl (lv_at hl 0 rfl) ?_
        refine va_get (D := (dC, dI)) (ci := 1) (v := .ref w0) (C := RX1) (T := TX1) (N := 2) hx hb hww tqinX1 hown hK hP 0 rfl rfl 1 (by decide) (hww _ tqt_59) (fun _ h9 => h9) rfl dX1_setZero_12 ?_
        refine lv_iload_n hx hb dX1_setZero_15 rfl (lv_at hl 1 rfl) ?_
        refine lv_lconst (v := 0) hx hb dX1_setZero_16 (by decide) ?_
        by_cases h2 : (v1 < 0 ∨ N0 ≤ v1.toNatClampNeg)
        · rw [if_pos h2] at hf
          cases hf
        · rw [if_neg h2] at hf
          refine va_last hx hb hK hP hD hS 1 0 rfl rfl h2 dX1_setZero_17 (fun H locs hP hD hS => ?_)
          have hP : va_P (dC, dI) tqCl [(s0, .inr (1, [.int p0, .ref w0])), (w0, .inl (cL, N0, .inr (.inl (vp_updL f0 v1.toNatClampNeg (0 : Int64)))))] H := hP
          have hD : va_D A [(s0, .inr (1, [.int p0, .ref w0])), (w0, .inl (cL, N0, .inr (.inl (vp_updL f0 v1.toNatClampNeg (0 : Int64)))))] := hD
          refine lv_iinc (v := v1 + (1 : Int32)) (lv' := [(1, .int (v1 + (1 : Int32))), (0, .ref s0)]) hx hb dX1_setZero_18 hl (k := 1) rfl rfl (by decide) rfl (fun ls hl => ?_)
          refine lv_goto hx hb dX1_setZero_21 rfl ?_
          exact ih2 ls _ _ (v1 + (1 : Int32)) (vp_updL f0 v1.toNatClampNeg (0 : Int64)) hf (lv_sub hl [1, 0] rfl) hP hD hS
  unfold f_setZero at hf
  refine lv_iconst (v := 0) hx hb dX1_setZero_0 (by decide) ?_
  refine lv_istore_n (lv' := [(1, .int (0 : Int32)), (0, .ref s0)]) hx hb dX1_setZero_1 rfl hl (by decide) rfl (fun ls hl => ?_)
  exact B2 9 ls _ _ (0 : Int32) f0 hf (lv_sub hl [1, 0] rfl) hP hD hS
set_option maxHeartbeats 4000000 in
set_option maxRecDepth 100000 in
theorem c_f_setNot (l : Launch) (dC : Nat → ClassId) (dI : Nat → Nat → Nat) (s0 : Nat) (w0 : Nat) (cL : ClassId) (sz : Nat) (p0 : Int32) (N0 : Nat) (f0 : Nat → Int64) (r : (Nat → Int64)) (hf : f_setNot N0 f0 = some r) : Met l yX1_setNot tqw_X1_setNot ({ frames := 1, cells := 0, slots := 0, locals := 21 }) (va_Pc [.ref s0] (fun U => U.heap.size = sz ∧ va_P (dC, dI) tqCl [(s0, .inr (1, [.int p0, .ref w0])), (w0, .inl (cL, N0, .inr (.inl f0)))] U.heap ∧ va_K (dC, dI) tqCl [(cL, .long)] U ∧ va_D (fun _ => True) [(s0, .inr (1, [.int p0, .ref w0])), (w0, .inl (cL, N0, .inr (.inl f0)))] ∧ tqN U)) (va_Qv (fun (_ : Unit) => True) (fun (_ : Unit) (t : State) => va_P (dC, dI) tqCl [(s0, .inr (1, [.int p0, .ref w0])), (w0, .inl (cL, N0, .inr (.inl r)))] t.heap ∧ va_K (dC, dI) tqCl [(cL, .long)] t ∧ va_D (va_A [(s0, .inr (1, [.int p0, .ref w0])), (w0, .inl (cL, N0, .inr (.inl f0)))] sz) [(s0, .inr (1, [.int p0, .ref w0])), (w0, .inl (cL, N0, .inr (.inl r)))]) (va_A [(s0, .inr (1, [.int p0, .ref w0])), (w0, .inl (cL, N0, .inr (.inl f0)))] sz)) 0 0 (va_A [(s0, .inr (1, [.int p0, .ref w0])), (w0, .inl (cL, N0, .inr (.inl f0)))] sz) := by
  refine Met.ofW (cc := cX1_setNot) (maxL := 1) (ret := none) (by decide) rfl ?_
  intro p e s m args below meth c s₁ B hml hv
  obtain ⟨rfl, hsz, hP, hK, hD0, hN⟩ := hv
  have hx := B.exec
  have hb := B.bytes
  have hr := B.returns
  have hts := atoms_spec (ws := tqw_X1_setNot) B.pre
  have hww : ∀ w ∈ tqW, w.before _ s = true := fun w h => hts w (List.mem_cons_of_mem _ h)
  have hown : s.vm.findClass RX1 = some m.cls := findClass_of_methodNamed B.named
  have hlocks := B.notSynchronized
  subst hsz
  have hD := hD0.self (sz := s.heap.size)
  generalize hAe : va_A [(s0, .inr (1, [.int p0, .ref w0])), (w0, .inl (cL, N0, .inr (.inl f0)))] s.heap.size = A at hD ⊢
  have hA : ∀ q : Nat, s.heap.size ≤ q → A q := fun q h => by rw [← hAe]; exact Or.inr h
  have hS : va_S A s.heap s.heap [] := va_S.rf
  have hP : va_P (dC, dI) tqCl [(s0, .inr (1, [.int p0, .ref w0])), (w0, .inl (cL, N0, .inr (.inl f0)))] s.heap := hP
  have hl := lv_entry ([.ref s0]) (n := 1) (Nat.le_of_ble_eq_true rfl)
  rw [lg_entry_eq]
  generalize (lg_sl ([.ref s0]) ++ List.replicate (1 - (lg_sl ([.ref s0])).length) Slot.unset).toArray = ls at hl ⊢
  have hl : lv_has ls 1 [(0, .ref s0)] := hl
  unfold f_setNot at hf
  refine lv_aload_n hx hb dX1_setNot_0 rfl (lv_at hl 0 rfl) ?_
  obtain ⟨f01, hu, hf⟩ := tq_bd_some hf
  have hPc := hP.sub (ws' := [(s0, .inr (1, [.int p0, .ref w0])), (w0, .inl (cL, N0, .inr (.inl f0)))]) [0, 1] rfl
  have hDc := hD.sub (ws' := [(s0, .inr (1, [.int p0, .ref w0])), (w0, .inl (cL, N0, .inr (.inl f0)))]) [0, 1] (by decide) rfl
  have hKc := hK.sub (tys' := [(cL, .long)]) [0] rfl
  have hFc := va_free (wc := [(s0, .inr (1, [.int p0, .ref w0])), (w0, .inl (cL, N0, .inr (.inl f0)))]) hD hS hA [0, 1] rfl
  refine va_callv (va_runV (As := []) (rest := []) ⟨hx, hb, hml, hown, hww⟩ (c_f_setZero l dC dI s0 w0 cL s.heap.size p0 N0 f0 f01 hu) (cwV 0 hww (tq_gV tqt_170 tqt_171 tqt_172 tqt_33 tqt_173) rfl rfl rfl (by decide +kernel) ⟨Nat.le_of_ble_eq_true rfl, Nat.le_of_ble_eq_true rfl⟩) ⟨fun a U g mk q => by obtain ⟨q0, q1, qP, qK, qD, qN⟩ := q; exact ⟨q0, q1, qP, va_K.moved (u := U) (U := U.calling g mk a) (Vm.Alike.refl U.vm) qK, qD, tqN_same (u := U) (U := U.calling g mk a) rfl qN⟩, va_recv hK hP (ci := 1) rfl (q0 := 0) rfl, fun U hU hW => ⟨rfl, by rw [hU], by rw [hU]; exact hPc, va_K.moved hW.alike hKc, hDc.weaken (fun _ _ _ _ => trivial), tqN_warm hW hN⟩⟩ rfl rfl hl.1 rfl (lv_room (Nat.le_of_ble_eq_true rfl)) dX1_setNot_1 ⟨Nat.zero_le _, Nat.zero_le _⟩) hS (fun q _ h => hFc q h) hFc (fun u0 t H1 locs ht hvm hpost hB hz1 hk1 hS => ?_)
  obtain ⟨hP1, hK1, hD1⟩ := hB
  rw [ht] at hP1
  obtain ⟨hP, hD⟩ := va_join (wr := []) (w1 := [(s0, .inr (1, [.int p0, .ref w0])), (w0, .inl (cL, N0, .inr (.inl f01)))]) hP hD [0, 1] [] rfl rfl (by decide) (by decide) hk1 hFc hP1 hD1
  generalize H1 = H at hP hS ⊢
  have hP := hP.sub (ws' := [(s0, .inr (1, [.int p0, .ref w0])), (w0, .inl (cL, N0, .inr (.inl f01)))]) [0, 1] rfl
  have hD := hD.sub (ws' := [(s0, .inr (1, [.int p0, .ref w0])), (w0, .inl (cL, N0, .inr (.inl f01)))]) [0, 1] (by decide) rfl
  refine lv_aload_n hx hb dX1_setNot_4 rfl (lv_at hl 0 rfl) ?_
  refine va_get (D := (dC, dI)) (ci := 1) (v := .ref w0) (C := RX1) (T := TX1) (N := 2) hx hb hww tqinX1 hown hK hP 0 rfl rfl 1 (by decide) (hww _ tqt_59) (fun _ h9 => h9) rfl dX1_setNot_5 ?_
  refine lv_aload_n hx hb dX1_setNot_8 rfl (lv_at hl 0 rfl) ?_
  refine va_get (D := (dC, dI)) (ci := 1) (v := .ref w0) (C := RX1) (T := TX1) (N := 2) hx hb hww tqinX1 hown hK hP 0 rfl rfl 1 (by decide) (hww _ tqt_59) (fun _ h9 => h9) rfl dX1_setNot_9 ?_
  refine va_alen (v := nI N0) hx hb hK hP 1 0 rfl rfl rfl dX1_setNot_12 ?_
  refine lv_iconst (v := 1) hx hb dX1_setNot_13 (by decide) ?_
  refine lv_isub hx hb dX1_setNot_14 ?_
  refine lv_ldc2 (v := -9223372036854775808) hx hb hown (hww _ tqt_174) dX1_setNot_15 ?_
  by_cases h2 : (((nI N0) - (1 : Int32)) < 0 ∨ N0 ≤ ((nI N0) - (1 : Int32)).toNatClampNeg)
  · rw [if_pos h2] at hf
    cases hf
  · rw [if_neg h2] at hf
    refine va_last hx hb hK hP hD hS 1 0 rfl rfl h2 dX1_setNot_18 (fun H locs hP hD hS => ?_)
    have hP : va_P (dC, dI) tqCl [(s0, .inr (1, [.int p0, .ref w0])), (w0, .inl (cL, N0, .inr (.inl (vp_updL f01 ((nI N0) - (1 : Int32)).toNatClampNeg (-9223372036854775808 : Int64)))))] H := hP
    have hD : va_D A [(s0, .inr (1, [.int p0, .ref w0])), (w0, .inl (cL, N0, .inr (.inl (vp_updL f01 ((nI N0) - (1 : Int32)).toNatClampNeg (-9223372036854775808 : Int64)))))] := hD
    have hf := Option.some.inj hf
    subst hf
    exact W.vret hx hb hr (fun t ht hW => ⟨⟨(), rfl, trivial, by rw [ht]; exact hP, va_K.moved hW.alike hK, hD⟩, hS.F ht⟩) hS.2.2 dX1_setNot_19
set_option maxHeartbeats 4000000 in
set_option maxRecDepth 100000 in
theorem c_f_hasBitsBelow (l : Launch) (dC : Nat → ClassId) (dI : Nat → Nat → Nat) (s0 : Nat) (w0 : Nat) (cL : ClassId) (sz : Nat) (place : Int32) (p0 : Int32) (N0 : Nat) (f0 : Nat → Int64) (r : Int32) (hf : f_hasBitsBelow N0 f0 place = some r) : Met l yX1_hasBitsBelow tqw_X1_hasBitsBelow ({ frames := 1, cells := 0, slots := 0, locals := 21 }) (va_Pc [.ref s0, .int place] (fun U => U.heap.size = sz ∧ va_P (dC, dI) tqCl [(s0, .inr (1, [.int p0, .ref w0])), (w0, .inl (cL, N0, .inr (.inl f0)))] U.heap ∧ va_K (dC, dI) tqCl [(cL, .long)] U ∧ va_D (fun _ => True) [(s0, .inr (1, [.int p0, .ref w0])), (w0, .inl (cL, N0, .inr (.inl f0)))] ∧ tqN U)) (va_Qi (fun (a : Int32) (_ : Unit) => a = r) (fun (_ : Unit) (t : State) => va_P (dC, dI) tqCl [(s0, .inr (1, [.int p0, .ref w0])), (w0, .inl (cL, N0, .inr (.inl f0)))] t.heap ∧ va_K (dC, dI) tqCl [(cL, .long)] t ∧ va_D (va_A [(s0, .inr (1, [.int p0, .ref w0])), (w0, .inl (cL, N0, .inr (.inl f0)))] sz) [(s0, .inr (1, [.int p0, .ref w0])), (w0, .inl (cL, N0, .inr (.inl f0)))]) (va_A [(s0, .inr (1, [.int p0, .ref w0])), (w0, .inl (cL, N0, .inr (.inl f0)))] sz)) 0 0 (va_A [(s0, .inr (1, [.int p0, .ref w0])), (w0, .inl (cL, N0, .inr (.inl f0)))] sz) := by
  refine Met.ofW (cc := cX1_hasBitsBelow) (maxL := 4) (ret := (some .boolean)) (by decide) rfl ?_
  intro p e s m args below meth c s₁ B hml hv
  obtain ⟨rfl, hsz, hP, hK, hD0, hN⟩ := hv
  have hx := B.exec
  have hb := B.bytes
  have hr := B.returns
  have hts := atoms_spec (ws := tqw_X1_hasBitsBelow) B.pre
  have hww : ∀ w ∈ tqW, w.before _ s = true := fun w h => hts w (List.mem_cons_of_mem _ h)
  have hown : s.vm.findClass RX1 = some m.cls := findClass_of_methodNamed B.named
  have hlocks := B.notSynchronized
  subst hsz
  have hD := hD0.self (sz := s.heap.size)
  generalize hAe : va_A [(s0, .inr (1, [.int p0, .ref w0])), (w0, .inl (cL, N0, .inr (.inl f0)))] s.heap.size = A at hD ⊢
  have hA : ∀ q : Nat, s.heap.size ≤ q → A q := fun q h => by rw [← hAe]; exact Or.inr h
  have hS : va_S A s.heap s.heap [] := va_S.rf
  have hP : va_P (dC, dI) tqCl [(s0, .inr (1, [.int p0, .ref w0])), (w0, .inl (cL, N0, .inr (.inl f0)))] s.heap := hP
  have hl := lv_entry ([.ref s0, .int place]) (n := 4) (Nat.le_of_ble_eq_true rfl)
  rw [lg_entry_eq]
  generalize (lg_sl ([.ref s0, .int place]) ++ List.replicate (4 - (lg_sl ([.ref s0, .int place])).length) Slot.unset).toArray = ls at hl ⊢
  have hl : lv_has ls 4 [(0, .ref s0), (1, .int place)] := hl
  have B2 : ∀ (n2 : Nat) (ls : Array Slot) (H : Heap) (locs : List Loc) (v2 : Int32), f_hasBitsBelow_b2 N0 f0 place n2 v2 = some r → lv_has ls 4 [(0, .ref s0), (1, .int place), (2, .int v2)] → va_P (dC, dI) tqCl [(s0, .inr (1, [.int p0, .ref w0])), (w0, .inl (cL, N0, .inr (.inl f0)))] H → va_D A [(s0, .inr (1, [.int p0, .ref w0])), (w0, .inl (cL, N0, .inr (.inl f0)))] → va_S A s.heap H locs → W p l e ({ frames := 1, cells := 0, slots := 0, locals := 21 }) s m ([.ref s0, .int place] : List Value).toArray below meth c H locs 0 0 (MQ below (va_Qi (fun (a : Int32) (_ : Unit) => a = r) (fun (_ : Unit) (t : State) => va_P (dC, dI) tqCl [(s0, .inr (1, [.int p0, .ref w0])), (w0, .inl (cL, N0, .inr (.inl f0)))] t.heap ∧ va_K (dC, dI) tqCl [(cL, .long)] t ∧ va_D (A) [(s0, .inr (1, [.int p0, .ref w0])), (w0, .inl (cL, N0, .inr (.inl f0)))]) (A)) ([.ref s0, .int place] : List Value).toArray s 0 0 A) (F0 m 2 ls []) := by
    try clear hf
    intro n2
    induction n2 with
    | zero =>
      intro ls H locs v2 hf hl hP hD hS
      have hf : (none : Option (Int32)) = some r := hf
      cases hf
    | succ n2 ih2 =>
      intro ls H locs v2 hf hl hP hD hS
      unfold f_hasBitsBelow_b2 at hf
      refine lv_iload_n hx hb dX1_hasBitsBelow_2 rfl (lv_at hl 2 rfl) ?_
      refine lv_aload_n hx hb dX1_hasBitsBelow_3 rfl (lv_at hl 0 rfl) ?_
      refine va_get (D := (dC, dI)) (ci := 1) (v := .ref w0) (C := RX1) (T := TX1) (N := 2) hx hb hww tqinX1 hown hK hP 0 rfl rfl 1 (by decide) (hww _ tqt_59) (fun _ h9 => h9) rfl dX1_hasBitsBelow_4 ?_
      refine va_alen (v := nI N0) hx hb hK hP 1 0 rfl rfl rfl dX1_hasBitsBelow_7 ?_
      refine lv_icmp_ge hx hb dX1_hasBitsBelow_8 rfl (fun h1 => ?_) (fun h1 => ?_)
      · rw [if_pos h1] at hf
        refine lv_iconst (v := 0) hx hb dX1_hasBitsBelow_55 (by decide) ?_
        have hf := Option.some.inj hf
        subst hf
        exact W.zret (v := (0 : Int32)) hx hb hr (tq_nb_bool (by decide)) (fun t ht hW => ⟨⟨(0 : Int32), (), rfl, rfl, by rw [ht]; exact hP, va_K.moved hW.alike hK, hD⟩, hS.F ht⟩) hS.2.2 dX1_hasBitsBelow_56
      · rw [if_neg h1] at hf
        refine lv_bipush (v := 64) hx hb dX1_hasBitsBelow_11 (by decide) ?_
        refine lv_iload_n hx hb dX1_hasBitsBelow_13 rfl (lv_at hl 2 rfl) ?_
        refine lv_imul hx hb dX1_hasBitsBelow_14 ?_
        refine lv_iload_n hx hb dX1_hasBitsBelow_15 rfl (lv_at hl 1 rfl) ?_
        refine lv_icmp_ge hx hb dX1_hasBitsBelow_16 rfl (fun h2 => ?_) (fun h2 => ?_)
        · rw [if_pos h2] at hf
          refine lv_iconst (v := 0) hx hb dX1_hasBitsBelow_55 (by decide) ?_
          have hf := Option.some.inj hf
          subst hf
          exact W.zret (v := (0 : Int32)) hx hb hr (tq_nb_bool (by decide)) (fun t ht hW => ⟨⟨(0 : Int32), (), rfl, rfl, by rw [ht]; exact hP, va_K.moved hW.alike hK, hD⟩, hS.F ht⟩) hS.2.2 dX1_hasBitsBelow_56
        · rw [if_neg h2] at hf
          refine lv_bipush (v := 64) hx hb dX1_hasBitsBelow_19 (by decide) ?_
          refine lv_iload_n hx hb dX1_hasBitsBelow_21 rfl (lv_at hl 1 rfl) ?_
          refine lv_bipush (v := 64) hx hb dX1_hasBitsBelow_22 (by decide) ?_
          refine lv_iload_n hx hb dX1_hasBitsBelow_24 rfl (lv_at hl 2 rfl) ?_
          refine lv_imul hx hb dX1_hasBitsBelow_25 ?_
          refine lv_isub hx hb dX1_hasBitsBelow_26 ?_
          refine va_mmin hx hb (hml.trans hl.1.symm) hown (hww _ tqt_196) (hww _ tqt_197) (hww _ tqt_36) (hww _ tqt_198) (Nat.le_of_ble_eq_true rfl) (Nat.le_of_ble_eq_true rfl) (Nat.zero_le _) (Nat.zero_le _) dX1_hasBitsBelow_27 ?_
          refine lv_topi (fun x3 e3 => ?_)
          have hf := tq_nm_at e3 hf
          refine lv_istore_n (lv' := [(3, .int x3), (0, .ref s0), (1, .int place), (2, .int v2)]) hx hb dX1_hasBitsBelow_30 rfl hl (by decide) rfl (fun ls hl => ?_)
          refine lv_aload_n hx hb dX1_hasBitsBelow_31 rfl (lv_at hl 1 rfl) ?_
          refine va_get (D := (dC, dI)) (ci := 1) (v := .ref w0) (C := RX1) (T := TX1) (N := 2) hx hb hww tqinX1 hown hK hP 0 rfl rfl 1 (by decide) (hww _ tqt_59) (fun _ h9 => h9) rfl dX1_hasBitsBelow_32 ?_
          refine lv_iload_n hx hb dX1_hasBitsBelow_35 rfl (lv_at hl 3 rfl) ?_
          by_cases h4 : (v2 < 0 ∨ N0 ≤ v2.toNatClampNeg)
          · rw [if_pos h4] at hf
            cases hf
          · rw [if_neg h4] at hf
            refine va_lald hx hb hK hP 1 0 rfl rfl h4 dX1_hasBitsBelow_36 ?_
            refine lv_bipush (v := 64) hx hb dX1_hasBitsBelow_37 (by decide) ?_
            refine lv_iload_n hx hb dX1_hasBitsBelow_39 rfl (lv_at hl 0 rfl) ?_
            refine lv_isub hx hb dX1_hasBitsBelow_40 ?_
            refine lv_lshl hx hb dX1_hasBitsBelow_41 rfl ?_
            refine lv_lconst (v := 0) hx hb dX1_hasBitsBelow_42 (by decide) ?_
            refine W.lcmp hx hb dX1_hasBitsBelow_43 ?_
            refine lv_if_eq hx hb dX1_hasBitsBelow_44 rfl (fun h5 => ?_) (fun h5 => ?_)
            · rw [if_pos h5] at hf
              refine lv_iinc (v := v2 + (1 : Int32)) (lv' := [(2, .int (v2 + (1 : Int32))), (3, .int x3), (0, .ref s0), (1, .int place)]) hx hb dX1_hasBitsBelow_49 hl (k := 3) rfl rfl (by decide) rfl (fun ls hl => ?_)
              refine lv_goto hx hb dX1_hasBitsBelow_52 rfl ?_
              exact ih2 ls _ _ (v2 + (1 : Int32)) hf (lv_sub hl [2, 3, 0] rfl) hP hD hS
            · rw [if_neg h5] at hf
              refine lv_iconst (v := 1) hx hb dX1_hasBitsBelow_47 (by decide) ?_
              have hf := Option.some.inj hf
              subst hf
              exact W.zret (v := (1 : Int32)) hx hb hr (tq_nb_bool (by decide)) (fun t ht hW => ⟨⟨(1 : Int32), (), rfl, rfl, by rw [ht]; exact hP, va_K.moved hW.alike hK, hD⟩, hS.F ht⟩) hS.2.2 dX1_hasBitsBelow_48
  unfold f_hasBitsBelow at hf
  refine lv_iconst (v := 0) hx hb dX1_hasBitsBelow_0 (by decide) ?_
  refine lv_istore_n (lv' := [(2, .int (0 : Int32)), (0, .ref s0), (1, .int place)]) hx hb dX1_hasBitsBelow_1 rfl hl (by decide) rfl (fun ls hl => ?_)
  exact B2 9 ls _ _ (0 : Int32) hf (lv_sub hl [1, 2, 0] rfl) hP hD hS
set_option maxHeartbeats 4000000 in
set_option maxRecDepth 100000 in
theorem c_f_isNot (l : Launch) (dC : Nat → ClassId) (dI : Nat → Nat → Nat) (s0 : Nat) (w0 : Nat) (cL : ClassId) (sz : Nat) (p0 : Int32) (N0 : Nat) (f0 : Nat → Int64) (r : Int32) (hf : f_isNot N0 f0 = some r) : Met l yX1_isNot tqw_X1_isNot ({ frames := 2, cells := 0, slots := 0, locals := 44 }) (va_Pc [.ref s0] (fun U => U.heap.size = sz ∧ va_P (dC, dI) tqCl [(s0, .inr (1, [.int p0, .ref w0])), (w0, .inl (cL, N0, .inr (.inl f0)))] U.heap ∧ va_K (dC, dI) tqCl [(cL, .long)] U ∧ va_D (fun _ => True) [(s0, .inr (1, [.int p0, .ref w0])), (w0, .inl (cL, N0, .inr (.inl f0)))] ∧ tqN U)) (va_Qi (fun (a : Int32) (_ : Unit) => a = r) (fun (_ : Unit) (t : State) => va_P (dC, dI) tqCl [(s0, .inr (1, [.int p0, .ref w0])), (w0, .inl (cL, N0, .inr (.inl f0)))] t.heap ∧ va_K (dC, dI) tqCl [(cL, .long)] t ∧ va_D (va_A [(s0, .inr (1, [.int p0, .ref w0])), (w0, .inl (cL, N0, .inr (.inl f0)))] sz) [(s0, .inr (1, [.int p0, .ref w0])), (w0, .inl (cL, N0, .inr (.inl f0)))]) (va_A [(s0, .inr (1, [.int p0, .ref w0])), (w0, .inl (cL, N0, .inr (.inl f0)))] sz)) 0 0 (va_A [(s0, .inr (1, [.int p0, .ref w0])), (w0, .inl (cL, N0, .inr (.inl f0)))] sz) := by
  refine Met.ofW (cc := cX1_isNot) (maxL := 2) (ret := (some .boolean)) (by decide) rfl ?_
  intro p e s m args below meth c s₁ B hml hv
  obtain ⟨rfl, hsz, hP, hK, hD0, hN⟩ := hv
  have hx := B.exec
  have hb := B.bytes
  have hr := B.returns
  have hts := atoms_spec (ws := tqw_X1_isNot) B.pre
  have hww : ∀ w ∈ tqW, w.before _ s = true := fun w h => hts w (List.mem_cons_of_mem _ h)
  have hown : s.vm.findClass RX1 = some m.cls := findClass_of_methodNamed B.named
  have hlocks := B.notSynchronized
  subst hsz
  have hD := hD0.self (sz := s.heap.size)
  generalize hAe : va_A [(s0, .inr (1, [.int p0, .ref w0])), (w0, .inl (cL, N0, .inr (.inl f0)))] s.heap.size = A at hD ⊢
  have hA : ∀ q : Nat, s.heap.size ≤ q → A q := fun q h => by rw [← hAe]; exact Or.inr h
  have hS : va_S A s.heap s.heap [] := va_S.rf
  have hP : va_P (dC, dI) tqCl [(s0, .inr (1, [.int p0, .ref w0])), (w0, .inl (cL, N0, .inr (.inl f0)))] s.heap := hP
  have hl := lv_entry ([.ref s0]) (n := 2) (Nat.le_of_ble_eq_true rfl)
  rw [lg_entry_eq]
  generalize (lg_sl ([.ref s0]) ++ List.replicate (2 - (lg_sl ([.ref s0])).length) Slot.unset).toArray = ls at hl ⊢
  have hl : lv_has ls 2 [(0, .ref s0)] := hl
  unfold f_isNot at hf
  refine lv_aload_n hx hb dX1_isNot_0 rfl (lv_at hl 0 rfl) ?_
  refine va_get (D := (dC, dI)) (ci := 1) (v := .ref w0) (C := RX1) (T := TX1) (N := 2) hx hb hww tqinX1 hown hK hP 0 rfl rfl 1 (by decide) (hww _ tqt_59) (fun _ h9 => h9) rfl dX1_isNot_1 ?_
  refine va_alen (v := nI N0) hx hb hK hP 1 0 rfl rfl rfl dX1_isNot_4 ?_
  refine lv_iconst (v := 1) hx hb dX1_isNot_5 (by decide) ?_
  refine lv_isub hx hb dX1_isNot_6 ?_
  refine lv_topi (fun x1 e1 => ?_)
  have hf := tq_nm_at e1 hf
  refine lv_istore_n (lv' := [(1, .int x1), (0, .ref s0)]) hx hb dX1_isNot_7 rfl hl (by decide) rfl (fun ls hl => ?_)
  refine lv_aload_n hx hb dX1_isNot_8 rfl (lv_at hl 1 rfl) ?_
  refine va_get (D := (dC, dI)) (ci := 1) (v := .ref w0) (C := RX1) (T := TX1) (N := 2) hx hb hww tqinX1 hown hK hP 0 rfl rfl 1 (by decide) (hww _ tqt_59) (fun _ h9 => h9) rfl dX1_isNot_9 ?_
  refine lv_iload_n hx hb dX1_isNot_12 rfl (lv_at hl 0 rfl) ?_
  by_cases h2 : (x1 < 0 ∨ N0 ≤ x1.toNatClampNeg)
  · rw [if_pos h2] at hf
    cases hf
  · rw [if_neg h2] at hf
    refine va_lald hx hb hK hP 1 0 rfl rfl h2 dX1_isNot_13 ?_
    refine lv_ldc2 (v := -9223372036854775808) hx hb hown (hww _ tqt_174) dX1_isNot_14 ?_
    refine W.lcmp hx hb dX1_isNot_17 ?_
    refine lv_if_ne hx hb dX1_isNot_18 rfl (fun h3 => ?_) (fun h3 => ?_)
    · rw [if_pos h3] at hf
      refine lv_iconst (v := 0) hx hb dX1_isNot_36 (by decide) ?_
      have hf := Option.some.inj hf
      subst hf
      exact W.zret (v := (0 : Int32)) hx hb hr (tq_nb_bool (by decide)) (fun t ht hW => ⟨⟨(0 : Int32), (), rfl, rfl, by rw [ht]; exact hP, va_K.moved hW.alike hK, hD⟩, hS.F ht⟩) hS.2.2 dX1_isNot_37
    · rw [if_neg (fun q : ¬ (lg_cmp (f0 x1.toNatClampNeg) (-9223372036854775808 : Int64)) = 0 => q h3)] at hf
      refine lv_aload_n hx hb dX1_isNot_21 rfl (lv_at hl 1 rfl) ?_
      refine lv_bipush (v := 64) hx hb dX1_isNot_22 (by decide) ?_
      refine lv_iload_n hx hb dX1_isNot_24 rfl (lv_at hl 0 rfl) ?_
      refine lv_imul hx hb dX1_isNot_25 ?_
      obtain ⟨r4, hu, hf⟩ := tq_bd_some hf
      have hPc := hP.sub (ws' := [(s0, .inr (1, [.int p0, .ref w0])), (w0, .inl (cL, N0, .inr (.inl f0)))]) [0, 1] rfl
      have hDc := hD.sub (ws' := [(s0, .inr (1, [.int p0, .ref w0])), (w0, .inl (cL, N0, .inr (.inl f0)))]) [0, 1] (by decide) rfl
      have hKc := hK.sub (tys' := [(cL, .long)]) [0] rfl
      have hFc := va_free (wc := [(s0, .inr (1, [.int p0, .ref w0])), (w0, .inl (cL, N0, .inr (.inl f0)))]) hD hS hA [0, 1] rfl
      refine va_calli (va_runV (As := [.int ((64 : Int32) * x1)]) (rest := []) ⟨hx, hb, hml, hown, hww⟩ (c_f_hasBitsBelow l dC dI s0 w0 cL s.heap.size ((64 : Int32) * x1) p0 N0 f0 r4 hu) (cwV 1 hww (tq_gV tqt_192 tqt_193 tqt_194 tqt_33 tqt_195) rfl rfl rfl (by decide +kernel) ⟨Nat.le_of_ble_eq_true rfl, Nat.le_of_ble_eq_true rfl⟩) ⟨fun a U g mk q => by obtain ⟨q0, q1, qP, qK, qD, qN⟩ := q; exact ⟨q0, q1, qP, va_K.moved (u := U) (U := U.calling g mk a) (Vm.Alike.refl U.vm) qK, qD, tqN_same (u := U) (U := U.calling g mk a) rfl qN⟩, va_recv hK hP (ci := 1) rfl (q0 := 0) rfl, fun U hU hW => ⟨rfl, by rw [hU], by rw [hU]; exact hPc, va_K.moved hW.alike hKc, hDc.weaken (fun _ _ _ _ => trivial), tqN_warm hW hN⟩⟩ rfl rfl hl.1 rfl (lv_room (Nat.le_of_ble_eq_true rfl)) dX1_isNot_26 ⟨Nat.zero_le _, Nat.zero_le _⟩) hS (fun q _ h => hFc q h) hFc (fun ra u0 t H1 locs ht hvm hpost hB hz1 hk1 hS => ?_)
      have hpost : r4 = ra := (show ra = r4 from hpost).symm
      subst hpost
      obtain ⟨hP1, hK1, hD1⟩ := hB
      rw [ht] at hP1
      obtain ⟨hP, hD⟩ := va_join (wr := []) (w1 := [(s0, .inr (1, [.int p0, .ref w0])), (w0, .inl (cL, N0, .inr (.inl f0)))]) hP hD [0, 1] [] rfl rfl (by decide) (by decide) hk1 hFc hP1 hD1
      generalize H1 = H at hP hS ⊢
      have hP := hP.sub (ws' := [(s0, .inr (1, [.int p0, .ref w0])), (w0, .inl (cL, N0, .inr (.inl f0)))]) [0, 1] rfl
      have hD := hD.sub (ws' := [(s0, .inr (1, [.int p0, .ref w0])), (w0, .inl (cL, N0, .inr (.inl f0)))]) [0, 1] (by decide) rfl
      refine lv_if_ne hx hb dX1_isNot_29 rfl (fun h5 => ?_) (fun h5 => ?_)
      · rw [if_pos h5] at hf
        refine lv_iconst (v := 0) hx hb dX1_isNot_36 (by decide) ?_
        have hf := Option.some.inj hf
        subst hf
        exact W.zret (v := (0 : Int32)) hx hb hr (tq_nb_bool (by decide)) (fun t ht hW => ⟨⟨(0 : Int32), (), rfl, rfl, by rw [ht]; exact hP, va_K.moved hW.alike hK, hD⟩, hS.F ht⟩) hS.2.2 dX1_isNot_37
      · rw [if_neg (fun q : ¬ r4 = 0 => q h5)] at hf
        refine lv_iconst (v := 1) hx hb dX1_isNot_32 (by decide) ?_
        refine lv_goto hx hb dX1_isNot_33 rfl ?_
        have hf := Option.some.inj hf
        subst hf
        exact W.zret (v := (1 : Int32)) hx hb hr (tq_nb_bool (by decide)) (fun t ht hW => ⟨⟨(1 : Int32), (), rfl, rfl, by rw [ht]; exact hP, va_K.moved hW.alike hK, hD⟩, hS.F ht⟩) hS.2.2 dX1_isNot_37
set_option maxHeartbeats 4000000 in
set_option maxRecDepth 100000 in
theorem c_f_isNegative (l : Launch) (dC : Nat → ClassId) (dI : Nat → Nat → Nat) (s0 : Nat) (w0 : Nat) (cL : ClassId) (sz : Nat) (p0 : Int32) (N0 : Nat) (f0 : Nat → Int64) (r : Int32) (hf : f_isNegative N0 f0 = some r) : Met l yX1_isNegative tqw_X1_isNegative ({ frames := 0, cells := 0, slots := 0, locals := 0 }) (va_Pc [.ref s0] (fun U => U.heap.size = sz ∧ va_P (dC, dI) tqCl [(s0, .inr (1, [.int p0, .ref w0])), (w0, .inl (cL, N0, .inr (.inl f0)))] U.heap ∧ va_K (dC, dI) tqCl [(cL, .long)] U ∧ va_D (fun _ => True) [(s0, .inr (1, [.int p0, .ref w0])), (w0, .inl (cL, N0, .inr (.inl f0)))] ∧ tqN U)) (va_Qi (fun (a : Int32) (_ : Unit) => a = r) (fun (_ : Unit) (t : State) => va_P (dC, dI) tqCl [(s0, .inr (1, [.int p0, .ref w0])), (w0, .inl (cL, N0, .inr (.inl f0)))] t.heap ∧ va_K (dC, dI) tqCl [(cL, .long)] t ∧ va_D (va_A [(s0, .inr (1, [.int p0, .ref w0])), (w0, .inl (cL, N0, .inr (.inl f0)))] sz) [(s0, .inr (1, [.int p0, .ref w0])), (w0, .inl (cL, N0, .inr (.inl f0)))]) (va_A [(s0, .inr (1, [.int p0, .ref w0])), (w0, .inl (cL, N0, .inr (.inl f0)))] sz)) 0 0 (va_A [(s0, .inr (1, [.int p0, .ref w0])), (w0, .inl (cL, N0, .inr (.inl f0)))] sz) := by
  refine Met.ofW (cc := cX1_isNegative) (maxL := 1) (ret := (some .boolean)) (by decide) rfl ?_
  intro p e s m args below meth c s₁ B hml hv
  obtain ⟨rfl, hsz, hP, hK, hD0, hN⟩ := hv
  have hx := B.exec
  have hb := B.bytes
  have hr := B.returns
  have hts := atoms_spec (ws := tqw_X1_isNegative) B.pre
  have hww : ∀ w ∈ tqW, w.before _ s = true := fun w h => hts w (List.mem_cons_of_mem _ h)
  have hown : s.vm.findClass RX1 = some m.cls := findClass_of_methodNamed B.named
  have hlocks := B.notSynchronized
  subst hsz
  have hD := hD0.self (sz := s.heap.size)
  generalize hAe : va_A [(s0, .inr (1, [.int p0, .ref w0])), (w0, .inl (cL, N0, .inr (.inl f0)))] s.heap.size = A at hD ⊢
  have hA : ∀ q : Nat, s.heap.size ≤ q → A q := fun q h => by rw [← hAe]; exact Or.inr h
  have hS : va_S A s.heap s.heap [] := va_S.rf
  have hP : va_P (dC, dI) tqCl [(s0, .inr (1, [.int p0, .ref w0])), (w0, .inl (cL, N0, .inr (.inl f0)))] s.heap := hP
  have hl := lv_entry ([.ref s0]) (n := 1) (Nat.le_of_ble_eq_true rfl)
  rw [lg_entry_eq]
  generalize (lg_sl ([.ref s0]) ++ List.replicate (1 - (lg_sl ([.ref s0])).length) Slot.unset).toArray = ls at hl ⊢
  have hl : lv_has ls 1 [(0, .ref s0)] := hl
  unfold f_isNegative at hf
  refine lv_aload_n hx hb dX1_isNegative_0 rfl (lv_at hl 0 rfl) ?_
  refine va_get (D := (dC, dI)) (ci := 1) (v := .ref w0) (C := RX1) (T := TX1) (N := 2) hx hb hww tqinX1 hown hK hP 0 rfl rfl 1 (by decide) (hww _ tqt_59) (fun _ h9 => h9) rfl dX1_isNegative_1 ?_
  refine lv_aload_n hx hb dX1_isNegative_4 rfl (lv_at hl 0 rfl) ?_
  refine va_get (D := (dC, dI)) (ci := 1) (v := .ref w0) (C := RX1) (T := TX1) (N := 2) hx hb hww tqinX1 hown hK hP 0 rfl rfl 1 (by decide) (hww _ tqt_59) (fun _ h9 => h9) rfl dX1_isNegative_5 ?_
  refine va_alen (v := nI N0) hx hb hK hP 1 0 rfl rfl rfl dX1_isNegative_8 ?_
  refine lv_iconst (v := 1) hx hb dX1_isNegative_9 (by decide) ?_
  refine lv_isub hx hb dX1_isNegative_10 ?_
  by_cases h1 : (((nI N0) - (1 : Int32)) < 0 ∨ N0 ≤ ((nI N0) - (1 : Int32)).toNatClampNeg)
  · rw [if_pos h1] at hf
    cases hf
  · rw [if_neg h1] at hf
    refine va_lald hx hb hK hP 1 0 rfl rfl h1 dX1_isNegative_11 ?_
    refine lv_lconst (v := 0) hx hb dX1_isNegative_12 (by decide) ?_
    refine W.lcmp hx hb dX1_isNegative_13 ?_
    refine lv_if_ge hx hb dX1_isNegative_14 rfl (fun h2 => ?_) (fun h2 => ?_)
    · rw [if_pos h2] at hf
      refine lv_iconst (v := 0) hx hb dX1_isNegative_21 (by decide) ?_
      have hf := Option.some.inj hf
      subst hf
      exact W.zret (v := (0 : Int32)) hx hb hr (tq_nb_bool (by decide)) (fun t ht hW => ⟨⟨(0 : Int32), (), rfl, rfl, by rw [ht]; exact hP, va_K.moved hW.alike hK, hD⟩, hS.F ht⟩) hS.2.2 dX1_isNegative_22
    · rw [if_neg h2] at hf
      refine lv_iconst (v := 1) hx hb dX1_isNegative_17 (by decide) ?_
      refine lv_goto hx hb dX1_isNegative_18 rfl ?_
      have hf := Option.some.inj hf
      subst hf
      exact W.zret (v := (1 : Int32)) hx hb hr (tq_nb_bool (by decide)) (fun t ht hW => ⟨⟨(1 : Int32), (), rfl, rfl, by rw [ht]; exact hP, va_K.moved hW.alike hK, hD⟩, hS.F ht⟩) hS.2.2 dX1_isNegative_22
