set_option maxHeartbeats 4000000 in
set_option maxRecDepth 100000 in
theorem c_m_together (l : Launch) (dC : Nat → ClassId) (dI : Nat → Nat → Nat) (mo : Nat) (la : Nat) (sa : Nat) (cI : ClassId) (sz : Nat) (x : Int32) (y : Int32) (tu : Int32) (nz : Int32) (sq : Int32) (lf : Nat → Int32) (r : Int32 × Int32 × (Nat → Int32)) (hf : m_together nz sq lf x y tu = some r) : Met l yM_together tqw_M_together ({ frames := 5, cells := 0, slots := 0, locals := 132 }) (va_Pc [.ref mo, .int x, .int y, .int tu] (fun U => U.heap.size = sz ∧ va_P (dC, dI) tqCl [(mo, .inr (3, [.int nz, .ref la, .int sq, .ref sa])), (la, .inl (cI, 200, .inl lf))] U.heap ∧ va_K (dC, dI) tqCl [(cI, .int)] U ∧ va_D (fun _ => True) [(mo, .inr (3, [.int nz, .ref la, .int sq, .ref sa])), (la, .inl (cI, 200, .inl lf))] ∧ tqN U)) (va_Qi (fun (a : Int32) (_ : Unit) => a = r.1) (fun (_ : Unit) (t : State) => va_P (dC, dI) tqCl [(mo, .inr (3, [.int nz, .ref la, .int r.2.1, .ref sa])), (la, .inl (cI, 200, .inl r.2.2))] t.heap ∧ va_K (dC, dI) tqCl [(cI, .int)] t ∧ va_D (va_A [(mo, .inr (3, [.int nz, .ref la, .int sq, .ref sa])), (la, .inl (cI, 200, .inl lf))] sz) [(mo, .inr (3, [.int nz, .ref la, .int r.2.1, .ref sa])), (la, .inl (cI, 200, .inl r.2.2))]) (va_A [(mo, .inr (3, [.int nz, .ref la, .int sq, .ref sa])), (la, .inl (cI, 200, .inl lf))] sz)) 0 0 (va_A [(mo, .inr (3, [.int nz, .ref la, .int sq, .ref sa])), (la, .inl (cI, 200, .inl lf))] sz) := by
  refine Met.ofW (cc := cM_together) (maxL := 5) (ret := (some .int)) (by decide) rfl ?_
  intro p e s m args below meth c s₁ B hml hv
  obtain ⟨rfl, hsz, hP, hK, hD0, hN⟩ := hv
  have hx := B.exec
  have hb := B.bytes
  have hr := B.returns
  have hts := atoms_spec (ws := tqw_M_together) B.pre
  have hww : ∀ w ∈ tqW, w.before _ s = true := fun w h => hts w (List.mem_cons_of_mem _ h)
  have hown : s.vm.findClass RM = some m.cls := findClass_of_methodNamed B.named
  have hlocks := B.notSynchronized
  subst hsz
  have hD := hD0.self (sz := s.heap.size)
  generalize hAe : va_A [(mo, .inr (3, [.int nz, .ref la, .int sq, .ref sa])), (la, .inl (cI, 200, .inl lf))] s.heap.size = A at hD ⊢
  have hA : ∀ q : Nat, s.heap.size ≤ q → A q := fun q h => by rw [← hAe]; exact Or.inr h
  have hS : va_S A s.heap s.heap [] := va_S.rf
  have hP : va_P (dC, dI) tqCl [(mo, .inr (3, [.int nz, .ref la, .int sq, .ref sa])), (la, .inl (cI, 200, .inl lf))] s.heap := hP
  have hl := lv_entry ([.ref mo, .int x, .int y, .int tu]) (n := 5) (Nat.le_of_ble_eq_true rfl)
  rw [lg_entry_eq]
  generalize (lg_sl ([.ref mo, .int x, .int y, .int tu]) ++ List.replicate (5 - (lg_sl ([.ref mo, .int x, .int y, .int tu])).length) Slot.unset).toArray = ls at hl ⊢
  have hl : lv_has ls 5 [(0, .ref mo), (1, .int x), (2, .int y), (3, .int tu)] := hl
  have B16 : ∀ (ls : Array Slot) (H : Heap) (locs : List Loc) (sq : Int32) (lf : Nat → Int32), m_together_b16 nz sq lf = some r → lv_has ls 5 [(0, .ref mo)] → va_P (dC, dI) tqCl [(mo, .inr (3, [.int nz, .ref la, .int sq, .ref sa])), (la, .inl (cI, 200, .inl lf))] H → va_D A [(mo, .inr (3, [.int nz, .ref la, .int sq, .ref sa])), (la, .inl (cI, 200, .inl lf))] → va_S A s.heap H locs → W p l e ({ frames := 5, cells := 0, slots := 0, locals := 132 }) s m ([.ref mo, .int x, .int y, .int tu] : List Value).toArray below meth c H locs 0 0 (MQ below (va_Qi (fun (a : Int32) (_ : Unit) => a = r.1) (fun (_ : Unit) (t : State) => va_P (dC, dI) tqCl [(mo, .inr (3, [.int nz, .ref la, .int r.2.1, .ref sa])), (la, .inl (cI, 200, .inl r.2.2))] t.heap ∧ va_K (dC, dI) tqCl [(cI, .int)] t ∧ va_D (A) [(mo, .inr (3, [.int nz, .ref la, .int r.2.1, .ref sa])), (la, .inl (cI, 200, .inl r.2.2))]) (A)) ([.ref mo, .int x, .int y, .int tu] : List Value).toArray s 0 0 A) (F0 m 16 ls []) := by
    try clear hf
    intro ls H locs sq lf hf hl hP hD hS
    unfold m_together_b16 at hf
    refine lv_aload_n hx hb dM_together_16 rfl (lv_at hl 0 rfl) ?_
    refine va_get (D := (dC, dI)) (ci := 3) (v := .int nz) (C := RM) (T := TM) (N := 4) hx hb hww tqinM hown hK hP 0 rfl rfl 0 (by decide) (hww _ tqt_330) (fun _ h9 => h9) rfl dM_together_17 ?_
    have hPc := hP.sub (ws' := []) [] rfl
    have hDc := hD.sub (ws' := []) [] (by decide) rfl
    have hKc := hK.sub (tys' := []) [] rfl
    have hFc := va_free (wc := []) hD hS hA [] rfl
    refine va_calli (va_runS (As := [.int nz]) (rest := []) ⟨hx, hb, hml, hown, hww⟩ (c_m_not l dC dI H.size nz (m_not nz) rfl) (va_cwS 1 hww (tq_gS tqt_364 tqt_365 tqt_35 tqt_366) rfl rfl rfl (by decide +kernel) ⟨Nat.le_of_ble_eq_true rfl, Nat.le_of_ble_eq_true rfl⟩) ⟨fun a U g mk q => by obtain ⟨q0, q1, qP, qK, qD, qN⟩ := q; exact ⟨q0, q1, qP, va_K.moved (u := U) (U := U.calling g mk a) (Vm.Alike.refl U.vm) qK, qD, tqN_same (u := U) (U := U.calling g mk a) rfl qN⟩, fun U hU hW => ⟨rfl, by rw [hU], by rw [hU]; exact hPc, va_K.moved hW.alike hKc, hDc.weaken (fun _ _ _ _ => trivial), tqN_warm hW hN⟩⟩ rfl rfl hl.1 rfl (lv_room (Nat.le_of_ble_eq_true rfl)) dM_together_20 ⟨Nat.zero_le _, Nat.zero_le _⟩) hS (fun q _ h => hFc q h) hFc (fun ra u0 t H1 locs ht hvm hpost hB hz1 hk1 hS => ?_)
    have hpost : (m_not nz) = ra := (show ra = (m_not nz) from hpost).symm
    subst hpost
    obtain ⟨hP1, hK1, hD1⟩ := hB
    rw [ht] at hP1
    obtain ⟨hP, hD⟩ := va_join (wr := [(mo, .inr (3, [.int nz, .ref la, .int sq, .ref sa])), (la, .inl (cI, 200, .inl lf))]) (w1 := []) hP hD [] [0, 1] rfl rfl (by decide) (by decide) hk1 hFc hP1 hD1
    generalize H1 = H at hP hS ⊢
    have hP := hP.sub (ws' := [(mo, .inr (3, [.int nz, .ref la, .int sq, .ref sa])), (la, .inl (cI, 200, .inl lf))]) [0, 1] rfl
    have hD := hD.sub (ws' := [(mo, .inr (3, [.int nz, .ref la, .int sq, .ref sa])), (la, .inl (cI, 200, .inl lf))]) [0, 1] (by decide) rfl
    have hf := Option.some.inj hf
    subst hf
    exact W.iret (v := m_not nz) hx hb hr (fun t ht hW => ⟨⟨m_not nz, (), rfl, rfl, by rw [ht]; exact hP, va_K.moved hW.alike hK, hD⟩, hS.F ht⟩) hS.2.2 dM_together_23
  have B60 : ∀ (ls : Array Slot) (H : Heap) (locs : List Loc) (t0 : Int32) (t1 : Int32) (sq : Int32) (lf : Nat → Int32), m_together_b60 nz t0 t1 sq lf = some r → lv_has ls 5 [(0, .ref mo)] → va_P (dC, dI) tqCl [(mo, .inr (3, [.int nz, .ref la, .int sq, .ref sa])), (la, .inl (cI, 200, .inl lf))] H → va_D A [(mo, .inr (3, [.int nz, .ref la, .int sq, .ref sa])), (la, .inl (cI, 200, .inl lf))] → va_S A s.heap H locs → (t1 = 0 ∨ t1 = 1) → (t0 = 0 ∨ t0 = 1) → W p l e ({ frames := 5, cells := 0, slots := 0, locals := 132 }) s m ([.ref mo, .int x, .int y, .int tu] : List Value).toArray below meth c H locs 0 0 (MQ below (va_Qi (fun (a : Int32) (_ : Unit) => a = r.1) (fun (_ : Unit) (t : State) => va_P (dC, dI) tqCl [(mo, .inr (3, [.int nz, .ref la, .int r.2.1, .ref sa])), (la, .inl (cI, 200, .inl r.2.2))] t.heap ∧ va_K (dC, dI) tqCl [(cI, .int)] t ∧ va_D (A) [(mo, .inr (3, [.int nz, .ref la, .int r.2.1, .ref sa])), (la, .inl (cI, 200, .inl r.2.2))]) (A)) ([.ref mo, .int x, .int y, .int tu] : List Value).toArray s 0 0 A) (F0 m 60 ls [.int t0, .int t1, .ref mo]) := by
    try clear hf
    intro ls H locs t0 t1 sq lf hf hl hP hD hS hb_t1 hb_t0
    unfold m_together_b60 at hf
    obtain ⟨u, hu, hf⟩ := tq_bd_some hf
    obtain ⟨r17, lf18⟩ := u
    have hf := tq_nm_at (z := r17) rfl hf
    have hf := tq_nm_at (z := lf18) rfl hf
    have hPc := hP.sub (ws' := [(mo, .inr (3, [.int nz, .ref la, .int sq, .ref sa])), (la, .inl (cI, 200, .inl lf))]) [0, 1] rfl
    have hDc := hD.sub (ws' := [(mo, .inr (3, [.int nz, .ref la, .int sq, .ref sa])), (la, .inl (cI, 200, .inl lf))]) [0, 1] (by decide) rfl
    have hKc := hK.sub (tys' := [(cI, .int)]) [0] rfl
    have hFc := va_free (wc := [(mo, .inr (3, [.int nz, .ref la, .int sq, .ref sa])), (la, .inl (cI, 200, .inl lf))]) hD hS hA [0, 1] rfl
    refine va_calli (va_runV (As := [.int t1, .int t0]) (rest := []) ⟨hx, hb, hml, hown, hww⟩ (c_m_joined l dC dI mo la sa cI H.size t1 t0 nz sq lf (r17, lf18) hu hb_t1 hb_t0) (cwV 2 hww (tq_gV tqt_397 tqt_399 tqt_15 tqt_35 tqt_400) rfl rfl rfl (by decide +kernel) ⟨Nat.le_of_ble_eq_true rfl, Nat.le_of_ble_eq_true rfl⟩) ⟨fun a U g mk q => by obtain ⟨q0, q1, qP, qK, qD, qN⟩ := q; exact ⟨q0, q1, qP, va_K.moved (u := U) (U := U.calling g mk a) (Vm.Alike.refl U.vm) qK, qD, tqN_same (u := U) (U := U.calling g mk a) rfl qN⟩, va_recv hK hP (ci := 3) rfl (q0 := 0) rfl, fun U hU hW => ⟨rfl, by rw [hU], by rw [hU]; exact hPc, va_K.moved hW.alike hKc, hDc.weaken (fun _ _ _ _ => trivial), tqN_warm hW hN⟩⟩ rfl rfl hl.1 rfl (lv_room (Nat.le_of_ble_eq_true rfl)) dM_together_60 ⟨Nat.zero_le _, Nat.zero_le _⟩) hS (fun q _ h => hFc q h) hFc (fun ra u0 t H1 locs ht hvm hpost hB hz1 hk1 hS => ?_)
    have hpost : r17 = ra := (show ra = r17 from hpost).symm
    subst hpost
    obtain ⟨hP1, hK1, hD1⟩ := hB
    rw [ht] at hP1
    obtain ⟨hP, hD⟩ := va_join (wr := []) (w1 := [(mo, .inr (3, [.int nz, .ref la, .int sq, .ref sa])), (la, .inl (cI, 200, .inl lf18))]) hP hD [0, 1] [] rfl rfl (by decide) (by decide) hk1 hFc hP1 hD1
    generalize H1 = H at hP hS ⊢
    have hP := hP.sub (ws' := [(mo, .inr (3, [.int nz, .ref la, .int sq, .ref sa])), (la, .inl (cI, 200, .inl lf18))]) [0, 1] rfl
    have hD := hD.sub (ws' := [(mo, .inr (3, [.int nz, .ref la, .int sq, .ref sa])), (la, .inl (cI, 200, .inl lf18))]) [0, 1] (by decide) rfl
    refine lv_istore (lv' := [(4, .int r17), (0, .ref mo)]) hx hb dM_together_63 hl (by decide) rfl (fun ls hl => ?_)
    refine lv_aload_n hx hb dM_together_65 rfl (lv_at hl 1 rfl) ?_
    refine lv_iconst (v := 0) hx hb dM_together_66 (by decide) ?_
    obtain ⟨u, hu, hf⟩ := tq_bd_some hf
    obtain ⟨sq19, lf20⟩ := u
    have hf := tq_nm_at (z := sq19) rfl hf
    have hf := tq_nm_at (z := lf20) rfl hf
    have hPc := hP.sub (ws' := [(mo, .inr (3, [.int nz, .ref la, .int sq, .ref sa])), (la, .inl (cI, 200, .inl lf18))]) [0, 1] rfl
    have hDc := hD.sub (ws' := [(mo, .inr (3, [.int nz, .ref la, .int sq, .ref sa])), (la, .inl (cI, 200, .inl lf18))]) [0, 1] (by decide) rfl
    have hKc := hK.sub (tys' := [(cI, .int)]) [0] rfl
    have hFc := va_free (wc := [(mo, .inr (3, [.int nz, .ref la, .int sq, .ref sa])), (la, .inl (cI, 200, .inl lf18))]) hD hS hA [0, 1] rfl
    refine va_callv (va_runV (As := [.int (0 : Int32)]) (rest := []) ⟨hx, hb, hml, hown, hww⟩ (c_m_factor l dC dI mo la sa cI H.size (0 : Int32) nz sq lf18 (sq19, lf20) hu) (cwV 1 hww (tq_gV tqt_413 tqt_415 tqt_19 tqt_35 tqt_416) rfl rfl rfl (by decide +kernel) ⟨Nat.le_of_ble_eq_true rfl, Nat.le_of_ble_eq_true rfl⟩) ⟨fun a U g mk q => by obtain ⟨q0, q1, qP, qK, qD, qN⟩ := q; exact ⟨q0, q1, qP, va_K.moved (u := U) (U := U.calling g mk a) (Vm.Alike.refl U.vm) qK, qD, tqN_same (u := U) (U := U.calling g mk a) rfl qN⟩, va_recv hK hP (ci := 3) rfl (q0 := 0) rfl, fun U hU hW => ⟨rfl, by rw [hU], by rw [hU]; exact hPc, va_K.moved hW.alike hKc, hDc.weaken (fun _ _ _ _ => trivial), tqN_warm hW hN⟩⟩ rfl rfl hl.1 rfl (lv_room (Nat.le_of_ble_eq_true rfl)) dM_together_67 ⟨Nat.zero_le _, Nat.zero_le _⟩) hS (fun q _ h => hFc q h) hFc (fun u0 t H1 locs ht hvm hpost hB hz1 hk1 hS => ?_)
    obtain ⟨hP1, hK1, hD1⟩ := hB
    rw [ht] at hP1
    obtain ⟨hP, hD⟩ := va_join (wr := []) (w1 := [(mo, .inr (3, [.int nz, .ref la, .int sq19, .ref sa])), (la, .inl (cI, 200, .inl lf20))]) hP hD [0, 1] [] rfl rfl (by decide) (by decide) hk1 hFc hP1 hD1
    generalize H1 = H at hP hS ⊢
    have hP := hP.sub (ws' := [(mo, .inr (3, [.int nz, .ref la, .int sq19, .ref sa])), (la, .inl (cI, 200, .inl lf20))]) [0, 1] rfl
    have hD := hD.sub (ws' := [(mo, .inr (3, [.int nz, .ref la, .int sq19, .ref sa])), (la, .inl (cI, 200, .inl lf20))]) [0, 1] (by decide) rfl
    refine lv_aload_n hx hb dM_together_70 rfl (lv_at hl 1 rfl) ?_
    refine lv_iload hx hb dM_together_71 (lv_at hl 0 rfl) ?_
    refine lv_aload_n hx hb dM_together_73 rfl (lv_at hl 1 rfl) ?_
    refine va_get (D := (dC, dI)) (ci := 3) (v := .int nz) (C := RM) (T := TM) (N := 4) hx hb hww tqinM hown hK hP 0 rfl rfl 0 (by decide) (hww _ tqt_330) (fun _ h9 => h9) rfl dM_together_74 ?_
    obtain ⟨u, hu, hf⟩ := tq_bd_some hf
    obtain ⟨r21, lf22⟩ := u
    have hf := tq_nm_at (z := r21) rfl hf
    have hf := tq_nm_at (z := lf22) rfl hf
    have hPc := hP.sub (ws' := [(mo, .inr (3, [.int nz, .ref la, .int sq19, .ref sa])), (la, .inl (cI, 200, .inl lf20))]) [0, 1] rfl
    have hDc := hD.sub (ws' := [(mo, .inr (3, [.int nz, .ref la, .int sq19, .ref sa])), (la, .inl (cI, 200, .inl lf20))]) [0, 1] (by decide) rfl
    have hKc := hK.sub (tys' := [(cI, .int)]) [0] rfl
    have hFc := va_free (wc := [(mo, .inr (3, [.int nz, .ref la, .int sq19, .ref sa])), (la, .inl (cI, 200, .inl lf20))]) hD hS hA [0, 1] rfl
    refine va_calli (va_runV (As := [.int r17, .int nz]) (rest := []) ⟨hx, hb, hml, hown, hww⟩ (c_m_rounded l dC dI mo la sa cI H.size r17 nz nz sq19 lf20 (r21, lf22) hu) (cwV 2 hww (tq_gV tqt_417 tqt_419 tqt_20 tqt_35 tqt_420) rfl rfl rfl (by decide +kernel) ⟨Nat.le_of_ble_eq_true rfl, Nat.le_of_ble_eq_true rfl⟩) ⟨fun a U g mk q => by obtain ⟨q0, q1, qP, qK, qD, qN⟩ := q; exact ⟨q0, q1, qP, va_K.moved (u := U) (U := U.calling g mk a) (Vm.Alike.refl U.vm) qK, qD, tqN_same (u := U) (U := U.calling g mk a) rfl qN⟩, va_recv hK hP (ci := 3) rfl (q0 := 0) rfl, fun U hU hW => ⟨rfl, by rw [hU], by rw [hU]; exact hPc, va_K.moved hW.alike hKc, hDc.weaken (fun _ _ _ _ => trivial), tqN_warm hW hN⟩⟩ rfl rfl hl.1 rfl (lv_room (Nat.le_of_ble_eq_true rfl)) dM_together_77 ⟨Nat.zero_le _, Nat.zero_le _⟩) hS (fun q _ h => hFc q h) hFc (fun ra u0 t H1 locs ht hvm hpost hB hz1 hk1 hS => ?_)
    have hpost : r21 = ra := (show ra = r21 from hpost).symm
    subst hpost
    obtain ⟨hP1, hK1, hD1⟩ := hB
    rw [ht] at hP1
    obtain ⟨hP, hD⟩ := va_join (wr := []) (w1 := [(mo, .inr (3, [.int nz, .ref la, .int sq19, .ref sa])), (la, .inl (cI, 200, .inl lf22))]) hP hD [0, 1] [] rfl rfl (by decide) (by decide) hk1 hFc hP1 hD1
    generalize H1 = H at hP hS ⊢
    have hP := hP.sub (ws' := [(mo, .inr (3, [.int nz, .ref la, .int sq19, .ref sa])), (la, .inl (cI, 200, .inl lf22))]) [0, 1] rfl
    have hD := hD.sub (ws' := [(mo, .inr (3, [.int nz, .ref la, .int sq19, .ref sa])), (la, .inl (cI, 200, .inl lf22))]) [0, 1] (by decide) rfl
    have hf := Option.some.inj hf
    subst hf
    exact W.iret (v := r21) hx hb hr (fun t ht hW => ⟨⟨r21, (), rfl, rfl, by rw [ht]; exact hP, va_K.moved hW.alike hK, hD⟩, hS.F ht⟩) hS.2.2 dM_together_80
  unfold m_together at hf
  refine lv_aload_n hx hb dM_together_0 rfl (lv_at hl 0 rfl) ?_
  refine lv_iload_n hx hb dM_together_1 rfl (lv_at hl 1 rfl) ?_
  have hPc := hP.sub (ws' := [(mo, .inr (3, [.int nz, .ref la, .int sq, .ref sa]))]) [0] rfl
  have hDc := hD.sub (ws' := [(mo, .inr (3, [.int nz, .ref la, .int sq, .ref sa]))]) [0] (by decide) rfl
  have hKc := hK.sub (tys' := []) [] rfl
  have hFc := va_free (wc := [(mo, .inr (3, [.int nz, .ref la, .int sq, .ref sa]))]) hD hS hA [0] rfl
  refine va_calli (va_runV (As := [.int x]) (rest := []) ⟨hx, hb, hml, hown, hww⟩ (c_m_isNot l dC dI mo la sa s.heap.size x nz sq (m_isNot nz x) rfl) (cwV 1 hww (tq_gV tqt_356 tqt_358 tqt_6 tqt_35 tqt_359) rfl rfl rfl (by decide +kernel) ⟨Nat.le_of_ble_eq_true rfl, Nat.le_of_ble_eq_true rfl⟩) ⟨fun a U g mk q => by obtain ⟨q0, q1, qP, qK, qD, qN⟩ := q; exact ⟨q0, q1, qP, va_K.moved (u := U) (U := U.calling g mk a) (Vm.Alike.refl U.vm) qK, qD, tqN_same (u := U) (U := U.calling g mk a) rfl qN⟩, va_recv hK hP (ci := 3) rfl (q0 := 0) rfl, fun U hU hW => ⟨rfl, by rw [hU], by rw [hU]; exact hPc, va_K.moved hW.alike hKc, hDc.weaken (fun _ _ _ _ => trivial), tqN_warm hW hN⟩⟩ rfl rfl hl.1 rfl (lv_room (Nat.le_of_ble_eq_true rfl)) dM_together_2 ⟨Nat.zero_le _, Nat.zero_le _⟩) hS (fun q _ h => hFc q h) hFc (fun ra u0 t H1 locs ht hvm hpost hB hz1 hk1 hS => ?_)
  have hpost : (m_isNot nz x) = ra := (show ra = (m_isNot nz x) from hpost).symm
  subst hpost
  obtain ⟨hP1, hK1, hD1⟩ := hB
  rw [ht] at hP1
  obtain ⟨hP, hD⟩ := va_join (wr := [(la, .inl (cI, 200, .inl lf))]) (w1 := [(mo, .inr (3, [.int nz, .ref la, .int sq, .ref sa]))]) hP hD [0] [1] rfl rfl (by decide) (by decide) hk1 hFc hP1 hD1
  generalize H1 = H at hP hS ⊢
  have hP := hP.sub (ws' := [(mo, .inr (3, [.int nz, .ref la, .int sq, .ref sa])), (la, .inl (cI, 200, .inl lf))]) [1, 0] rfl
  have hD := hD.sub (ws' := [(mo, .inr (3, [.int nz, .ref la, .int sq, .ref sa])), (la, .inl (cI, 200, .inl lf))]) [1, 0] (by decide) rfl
  refine lv_if_ne hx hb dM_together_5 rfl (fun h2 => ?_) (fun h2 => ?_)
  · rw [if_pos h2] at hf
    exact B16 ls _ _ sq lf hf (lv_sub hl [0] rfl) hP hD hS
  · rw [if_neg (fun q : ¬ (m_isNot nz x) = 0 => q h2)] at hf
    refine lv_aload_n hx hb dM_together_8 rfl (lv_at hl 0 rfl) ?_
    refine lv_iload_n hx hb dM_together_9 rfl (lv_at hl 2 rfl) ?_
    have hPc := hP.sub (ws' := [(mo, .inr (3, [.int nz, .ref la, .int sq, .ref sa]))]) [0] rfl
    have hDc := hD.sub (ws' := [(mo, .inr (3, [.int nz, .ref la, .int sq, .ref sa]))]) [0] (by decide) rfl
    have hKc := hK.sub (tys' := []) [] rfl
    have hFc := va_free (wc := [(mo, .inr (3, [.int nz, .ref la, .int sq, .ref sa]))]) hD hS hA [0] rfl
    refine va_calli (va_runV (As := [.int y]) (rest := []) ⟨hx, hb, hml, hown, hww⟩ (c_m_isNot l dC dI mo la sa H.size y nz sq (m_isNot nz y) rfl) (cwV 1 hww (tq_gV tqt_356 tqt_358 tqt_6 tqt_35 tqt_359) rfl rfl rfl (by decide +kernel) ⟨Nat.le_of_ble_eq_true rfl, Nat.le_of_ble_eq_true rfl⟩) ⟨fun a U g mk q => by obtain ⟨q0, q1, qP, qK, qD, qN⟩ := q; exact ⟨q0, q1, qP, va_K.moved (u := U) (U := U.calling g mk a) (Vm.Alike.refl U.vm) qK, qD, tqN_same (u := U) (U := U.calling g mk a) rfl qN⟩, va_recv hK hP (ci := 3) rfl (q0 := 0) rfl, fun U hU hW => ⟨rfl, by rw [hU], by rw [hU]; exact hPc, va_K.moved hW.alike hKc, hDc.weaken (fun _ _ _ _ => trivial), tqN_warm hW hN⟩⟩ rfl rfl hl.1 rfl (lv_room (Nat.le_of_ble_eq_true rfl)) dM_together_10 ⟨Nat.zero_le _, Nat.zero_le _⟩) hS (fun q _ h => hFc q h) hFc (fun ra u0 t H1 locs ht hvm hpost hB hz1 hk1 hS => ?_)
    have hpost : (m_isNot nz y) = ra := (show ra = (m_isNot nz y) from hpost).symm
    subst hpost
    obtain ⟨hP1, hK1, hD1⟩ := hB
    rw [ht] at hP1
    obtain ⟨hP, hD⟩ := va_join (wr := [(la, .inl (cI, 200, .inl lf))]) (w1 := [(mo, .inr (3, [.int nz, .ref la, .int sq, .ref sa]))]) hP hD [0] [1] rfl rfl (by decide) (by decide) hk1 hFc hP1 hD1
    generalize H1 = H at hP hS ⊢
    have hP := hP.sub (ws' := [(mo, .inr (3, [.int nz, .ref la, .int sq, .ref sa])), (la, .inl (cI, 200, .inl lf))]) [1, 0] rfl
    have hD := hD.sub (ws' := [(mo, .inr (3, [.int nz, .ref la, .int sq, .ref sa])), (la, .inl (cI, 200, .inl lf))]) [1, 0] (by decide) rfl
    refine lv_if_eq hx hb dM_together_13 rfl (fun h5 => ?_) (fun h5 => ?_)
    · rw [if_pos h5] at hf
      refine lv_aload_n hx hb dM_together_24 rfl (lv_at hl 0 rfl) ?_
      refine lv_iconst (v := 0) hx hb dM_together_25 (by decide) ?_
      refine lv_iload_n hx hb dM_together_26 rfl (lv_at hl 1 rfl) ?_
      refine lv_bipush (v := 124) hx hb dM_together_27 (by decide) ?_
      obtain ⟨lf6, hu, hf⟩ := tq_bd_some hf
      have hPc := hP.sub (ws' := [(mo, .inr (3, [.int nz, .ref la, .int sq, .ref sa])), (la, .inl (cI, 200, .inl lf))]) [0, 1] rfl
      have hDc := hD.sub (ws' := [(mo, .inr (3, [.int nz, .ref la, .int sq, .ref sa])), (la, .inl (cI, 200, .inl lf))]) [0, 1] (by decide) rfl
      have hKc := hK.sub (tys' := [(cI, .int)]) [0] rfl
      have hFc := va_free (wc := [(mo, .inr (3, [.int nz, .ref la, .int sq, .ref sa])), (la, .inl (cI, 200, .inl lf))]) hD hS hA [0, 1] rfl
      refine va_callv (va_runV (As := [.int (0 : Int32), .int x, .int (124 : Int32)]) (rest := []) ⟨hx, hb, hml, hown, hww⟩ (c_m_load l dC dI mo la sa cI H.size (0 : Int32) x (124 : Int32) nz sq lf lf6 hu) (cwV 3 hww (tq_gV tqt_367 tqt_369 tqt_8 tqt_35 tqt_370) rfl rfl rfl (by decide +kernel) ⟨Nat.le_of_ble_eq_true rfl, Nat.le_of_ble_eq_true rfl⟩) ⟨fun a U g mk q => by obtain ⟨q0, q1, qP, qK, qD, qN⟩ := q; exact ⟨q0, q1, qP, va_K.moved (u := U) (U := U.calling g mk a) (Vm.Alike.refl U.vm) qK, qD, tqN_same (u := U) (U := U.calling g mk a) rfl qN⟩, va_recv hK hP (ci := 3) rfl (q0 := 0) rfl, fun U hU hW => ⟨rfl, by rw [hU], by rw [hU]; exact hPc, va_K.moved hW.alike hKc, hDc.weaken (fun _ _ _ _ => trivial), tqN_warm hW hN⟩⟩ rfl rfl hl.1 rfl (lv_room (Nat.le_of_ble_eq_true rfl)) dM_together_29 ⟨Nat.zero_le _, Nat.zero_le _⟩) hS (fun q _ h => hFc q h) hFc (fun u0 t H1 locs ht hvm hpost hB hz1 hk1 hS => ?_)
      obtain ⟨hP1, hK1, hD1⟩ := hB
      rw [ht] at hP1
      obtain ⟨hP, hD⟩ := va_join (wr := []) (w1 := [(mo, .inr (3, [.int nz, .ref la, .int sq, .ref sa])), (la, .inl (cI, 200, .inl lf6))]) hP hD [0, 1] [] rfl rfl (by decide) (by decide) hk1 hFc hP1 hD1
      generalize H1 = H at hP hS ⊢
      have hP := hP.sub (ws' := [(mo, .inr (3, [.int nz, .ref la, .int sq, .ref sa])), (la, .inl (cI, 200, .inl lf6))]) [0, 1] rfl
      have hD := hD.sub (ws' := [(mo, .inr (3, [.int nz, .ref la, .int sq, .ref sa])), (la, .inl (cI, 200, .inl lf6))]) [0, 1] (by decide) rfl
      refine lv_aload_n hx hb dM_together_32 rfl (lv_at hl 0 rfl) ?_
      refine lv_iconst (v := 1) hx hb dM_together_33 (by decide) ?_
      refine lv_iload_n hx hb dM_together_34 rfl (lv_at hl 2 rfl) ?_
      refine lv_bipush (v := 124) hx hb dM_together_35 (by decide) ?_
      obtain ⟨lf7, hu, hf⟩ := tq_bd_some hf
      have hPc := hP.sub (ws' := [(mo, .inr (3, [.int nz, .ref la, .int sq, .ref sa])), (la, .inl (cI, 200, .inl lf6))]) [0, 1] rfl
      have hDc := hD.sub (ws' := [(mo, .inr (3, [.int nz, .ref la, .int sq, .ref sa])), (la, .inl (cI, 200, .inl lf6))]) [0, 1] (by decide) rfl
      have hKc := hK.sub (tys' := [(cI, .int)]) [0] rfl
      have hFc := va_free (wc := [(mo, .inr (3, [.int nz, .ref la, .int sq, .ref sa])), (la, .inl (cI, 200, .inl lf6))]) hD hS hA [0, 1] rfl
      refine va_callv (va_runV (As := [.int (1 : Int32), .int y, .int (124 : Int32)]) (rest := []) ⟨hx, hb, hml, hown, hww⟩ (c_m_load l dC dI mo la sa cI H.size (1 : Int32) y (124 : Int32) nz sq lf6 lf7 hu) (cwV 3 hww (tq_gV tqt_367 tqt_369 tqt_8 tqt_35 tqt_370) rfl rfl rfl (by decide +kernel) ⟨Nat.le_of_ble_eq_true rfl, Nat.le_of_ble_eq_true rfl⟩) ⟨fun a U g mk q => by obtain ⟨q0, q1, qP, qK, qD, qN⟩ := q; exact ⟨q0, q1, qP, va_K.moved (u := U) (U := U.calling g mk a) (Vm.Alike.refl U.vm) qK, qD, tqN_same (u := U) (U := U.calling g mk a) rfl qN⟩, va_recv hK hP (ci := 3) rfl (q0 := 0) rfl, fun U hU hW => ⟨rfl, by rw [hU], by rw [hU]; exact hPc, va_K.moved hW.alike hKc, hDc.weaken (fun _ _ _ _ => trivial), tqN_warm hW hN⟩⟩ rfl rfl hl.1 rfl (lv_room (Nat.le_of_ble_eq_true rfl)) dM_together_37 ⟨Nat.zero_le _, Nat.zero_le _⟩) hS (fun q _ h => hFc q h) hFc (fun u0 t H1 locs ht hvm hpost hB hz1 hk1 hS => ?_)
      obtain ⟨hP1, hK1, hD1⟩ := hB
      rw [ht] at hP1
      obtain ⟨hP, hD⟩ := va_join (wr := []) (w1 := [(mo, .inr (3, [.int nz, .ref la, .int sq, .ref sa])), (la, .inl (cI, 200, .inl lf7))]) hP hD [0, 1] [] rfl rfl (by decide) (by decide) hk1 hFc hP1 hD1
      generalize H1 = H at hP hS ⊢
      have hP := hP.sub (ws' := [(mo, .inr (3, [.int nz, .ref la, .int sq, .ref sa])), (la, .inl (cI, 200, .inl lf7))]) [0, 1] rfl
      have hD := hD.sub (ws' := [(mo, .inr (3, [.int nz, .ref la, .int sq, .ref sa])), (la, .inl (cI, 200, .inl lf7))]) [0, 1] (by decide) rfl
      refine lv_aload_n hx hb dM_together_40 rfl (lv_at hl 0 rfl) ?_
      refine lv_aload_n hx hb dM_together_41 rfl (lv_at hl 0 rfl) ?_
      refine lv_iload_n hx hb dM_together_42 rfl (lv_at hl 1 rfl) ?_
      have hPc := hP.sub (ws' := [(mo, .inr (3, [.int nz, .ref la, .int sq, .ref sa]))]) [0] rfl
      have hDc := hD.sub (ws' := [(mo, .inr (3, [.int nz, .ref la, .int sq, .ref sa]))]) [0] (by decide) rfl
      have hKc := hK.sub (tys' := []) [] rfl
      have hFc := va_free (wc := [(mo, .inr (3, [.int nz, .ref la, .int sq, .ref sa]))]) hD hS hA [0] rfl
      refine va_calli (va_runV (As := [.int x]) (rest := [.ref mo]) ⟨hx, hb, hml, hown, hww⟩ (c_m_negative l dC dI mo la sa H.size x nz sq (m_negative nz x) rfl) (cwV 1 hww (tq_gV tqt_393 tqt_395 tqt_14 tqt_35 tqt_396) rfl rfl rfl (by decide +kernel) ⟨Nat.le_of_ble_eq_true rfl, Nat.le_of_ble_eq_true rfl⟩) ⟨fun a U g mk q => by obtain ⟨q0, q1, qP, qK, qD, qN⟩ := q; exact ⟨q0, q1, qP, va_K.moved (u := U) (U := U.calling g mk a) (Vm.Alike.refl U.vm) qK, qD, tqN_same (u := U) (U := U.calling g mk a) rfl qN⟩, va_recv hK hP (ci := 3) rfl (q0 := 0) rfl, fun U hU hW => ⟨rfl, by rw [hU], by rw [hU]; exact hPc, va_K.moved hW.alike hKc, hDc.weaken (fun _ _ _ _ => trivial), tqN_warm hW hN⟩⟩ rfl rfl hl.1 rfl (lv_room (Nat.le_of_ble_eq_true rfl)) dM_together_43 ⟨Nat.zero_le _, Nat.zero_le _⟩) hS (fun q _ h => hFc q h) hFc (fun ra u0 t H1 locs ht hvm hpost hB hz1 hk1 hS => ?_)
      have hpost : (m_negative nz x) = ra := (show ra = (m_negative nz x) from hpost).symm
      subst hpost
      obtain ⟨hP1, hK1, hD1⟩ := hB
      rw [ht] at hP1
      obtain ⟨hP, hD⟩ := va_join (wr := [(la, .inl (cI, 200, .inl lf7))]) (w1 := [(mo, .inr (3, [.int nz, .ref la, .int sq, .ref sa]))]) hP hD [0] [1] rfl rfl (by decide) (by decide) hk1 hFc hP1 hD1
      generalize H1 = H at hP hS ⊢
      have hP := hP.sub (ws' := [(mo, .inr (3, [.int nz, .ref la, .int sq, .ref sa])), (la, .inl (cI, 200, .inl lf7))]) [1, 0] rfl
      have hD := hD.sub (ws' := [(mo, .inr (3, [.int nz, .ref la, .int sq, .ref sa])), (la, .inl (cI, 200, .inl lf7))]) [1, 0] (by decide) rfl
      refine lv_aload_n hx hb dM_together_46 rfl (lv_at hl 0 rfl) ?_
      refine lv_iload_n hx hb dM_together_47 rfl (lv_at hl 2 rfl) ?_
      have hPc := hP.sub (ws' := [(mo, .inr (3, [.int nz, .ref la, .int sq, .ref sa]))]) [0] rfl
      have hDc := hD.sub (ws' := [(mo, .inr (3, [.int nz, .ref la, .int sq, .ref sa]))]) [0] (by decide) rfl
      have hKc := hK.sub (tys' := []) [] rfl
      have hFc := va_free (wc := [(mo, .inr (3, [.int nz, .ref la, .int sq, .ref sa]))]) hD hS hA [0] rfl
      refine va_calli (va_runV (As := [.int y]) (rest := [.int (m_negative nz x), .ref mo]) ⟨hx, hb, hml, hown, hww⟩ (c_m_negative l dC dI mo la sa H.size y nz sq (m_negative nz y) rfl) (cwV 1 hww (tq_gV tqt_393 tqt_395 tqt_14 tqt_35 tqt_396) rfl rfl rfl (by decide +kernel) ⟨Nat.le_of_ble_eq_true rfl, Nat.le_of_ble_eq_true rfl⟩) ⟨fun a U g mk q => by obtain ⟨q0, q1, qP, qK, qD, qN⟩ := q; exact ⟨q0, q1, qP, va_K.moved (u := U) (U := U.calling g mk a) (Vm.Alike.refl U.vm) qK, qD, tqN_same (u := U) (U := U.calling g mk a) rfl qN⟩, va_recv hK hP (ci := 3) rfl (q0 := 0) rfl, fun U hU hW => ⟨rfl, by rw [hU], by rw [hU]; exact hPc, va_K.moved hW.alike hKc, hDc.weaken (fun _ _ _ _ => trivial), tqN_warm hW hN⟩⟩ rfl rfl hl.1 rfl (lv_room (Nat.le_of_ble_eq_true rfl)) dM_together_48 ⟨Nat.zero_le _, Nat.zero_le _⟩) hS (fun q _ h => hFc q h) hFc (fun ra u0 t H1 locs ht hvm hpost hB hz1 hk1 hS => ?_)
      have hpost : (m_negative nz y) = ra := (show ra = (m_negative nz y) from hpost).symm
      subst hpost
      obtain ⟨hP1, hK1, hD1⟩ := hB
      rw [ht] at hP1
      obtain ⟨hP, hD⟩ := va_join (wr := [(la, .inl (cI, 200, .inl lf7))]) (w1 := [(mo, .inr (3, [.int nz, .ref la, .int sq, .ref sa]))]) hP hD [0] [1] rfl rfl (by decide) (by decide) hk1 hFc hP1 hD1
      generalize H1 = H at hP hS ⊢
      have hP := hP.sub (ws' := [(mo, .inr (3, [.int nz, .ref la, .int sq, .ref sa])), (la, .inl (cI, 200, .inl lf7))]) [1, 0] rfl
      have hD := hD.sub (ws' := [(mo, .inr (3, [.int nz, .ref la, .int sq, .ref sa])), (la, .inl (cI, 200, .inl lf7))]) [1, 0] (by decide) rfl
      refine lv_iload_n hx hb dM_together_51 rfl (lv_at hl 3 rfl) ?_
      refine lv_icmp_eq hx hb dM_together_52 rfl (fun h10 => ?_) (fun h10 => ?_)
      · rw [if_pos h10] at hf
        refine lv_iconst (v := 0) hx hb dM_together_59 (by decide) ?_
        exact B60 ls _ _ (0 : Int32) (m_negative nz x) sq lf7 hf (lv_sub hl [0] rfl) hP hD hS (zb_m_negative _ _) (by decide)
      · rw [if_neg h10] at hf
        refine lv_iconst (v := 1) hx hb dM_together_55 (by decide) ?_
        refine lv_goto hx hb dM_together_56 rfl ?_
        exact B60 ls _ _ (1 : Int32) (m_negative nz x) sq lf7 hf (lv_sub hl [0] rfl) hP hD hS (zb_m_negative _ _) (by decide)
    · rw [if_neg h5] at hf
      exact B16 ls _ _ sq lf hf (lv_sub hl [0] rfl) hP hD hS
set_option maxHeartbeats 4000000 in
set_option maxRecDepth 100000 in
theorem c_m_add (l : Launch) (dC : Nat → ClassId) (dI : Nat → Nat → Nat) (mo : Nat) (la : Nat) (sa : Nat) (cI : ClassId) (sz : Nat) (x : Int32) (y : Int32) (nz : Int32) (sq : Int32) (lf : Nat → Int32) (r : Int32 × Int32 × (Nat → Int32)) (hf : m_add nz sq lf x y = some r) : Met l yM_add tqw_M_add ({ frames := 6, cells := 0, slots := 0, locals := 156 }) (va_Pc [.ref mo, .int x, .int y] (fun U => U.heap.size = sz ∧ va_P (dC, dI) tqCl [(mo, .inr (3, [.int nz, .ref la, .int sq, .ref sa])), (la, .inl (cI, 200, .inl lf))] U.heap ∧ va_K (dC, dI) tqCl [(cI, .int)] U ∧ va_D (fun _ => True) [(mo, .inr (3, [.int nz, .ref la, .int sq, .ref sa])), (la, .inl (cI, 200, .inl lf))] ∧ tqN U)) (va_Qi (fun (a : Int32) (_ : Unit) => a = r.1) (fun (_ : Unit) (t : State) => va_P (dC, dI) tqCl [(mo, .inr (3, [.int nz, .ref la, .int r.2.1, .ref sa])), (la, .inl (cI, 200, .inl r.2.2))] t.heap ∧ va_K (dC, dI) tqCl [(cI, .int)] t ∧ va_D (va_A [(mo, .inr (3, [.int nz, .ref la, .int sq, .ref sa])), (la, .inl (cI, 200, .inl lf))] sz) [(mo, .inr (3, [.int nz, .ref la, .int r.2.1, .ref sa])), (la, .inl (cI, 200, .inl r.2.2))]) (va_A [(mo, .inr (3, [.int nz, .ref la, .int sq, .ref sa])), (la, .inl (cI, 200, .inl lf))] sz)) 0 0 (va_A [(mo, .inr (3, [.int nz, .ref la, .int sq, .ref sa])), (la, .inl (cI, 200, .inl lf))] sz) := by
  refine Met.ofW (cc := cM_add) (maxL := 3) (ret := (some .int)) (by decide) rfl ?_
  intro p e s m args below meth c s₁ B hml hv
  obtain ⟨rfl, hsz, hP, hK, hD0, hN⟩ := hv
  have hx := B.exec
  have hb := B.bytes
  have hr := B.returns
  have hts := atoms_spec (ws := tqw_M_add) B.pre
  have hww : ∀ w ∈ tqW, w.before _ s = true := fun w h => hts w (List.mem_cons_of_mem _ h)
  have hown : s.vm.findClass RM = some m.cls := findClass_of_methodNamed B.named
  have hlocks := B.notSynchronized
  subst hsz
  have hD := hD0.self (sz := s.heap.size)
  generalize hAe : va_A [(mo, .inr (3, [.int nz, .ref la, .int sq, .ref sa])), (la, .inl (cI, 200, .inl lf))] s.heap.size = A at hD ⊢
  have hA : ∀ q : Nat, s.heap.size ≤ q → A q := fun q h => by rw [← hAe]; exact Or.inr h
  have hS : va_S A s.heap s.heap [] := va_S.rf
  have hP : va_P (dC, dI) tqCl [(mo, .inr (3, [.int nz, .ref la, .int sq, .ref sa])), (la, .inl (cI, 200, .inl lf))] s.heap := hP
  have hl := lv_entry ([.ref mo, .int x, .int y]) (n := 3) (Nat.le_of_ble_eq_true rfl)
  rw [lg_entry_eq]
  generalize (lg_sl ([.ref mo, .int x, .int y]) ++ List.replicate (3 - (lg_sl ([.ref mo, .int x, .int y])).length) Slot.unset).toArray = ls at hl ⊢
  have hl : lv_has ls 3 [(0, .ref mo), (1, .int x), (2, .int y)] := hl
  unfold m_add at hf
  refine lv_aload_n hx hb dM_add_0 rfl (lv_at hl 0 rfl) ?_
  refine lv_iload_n hx hb dM_add_1 rfl (lv_at hl 1 rfl) ?_
  refine lv_iload_n hx hb dM_add_2 rfl (lv_at hl 2 rfl) ?_
  refine lv_iconst (v := 0) hx hb dM_add_3 (by decide) ?_
  obtain ⟨u, hu, hf⟩ := tq_bd_some hf
  obtain ⟨r1, sq2, lf3⟩ := u
  have hf := tq_nm_at (z := r1) rfl hf
  have hf := tq_nm_at (z := sq2) rfl hf
  have hf := tq_nm_at (z := lf3) rfl hf
  have hPc := hP.sub (ws' := [(mo, .inr (3, [.int nz, .ref la, .int sq, .ref sa])), (la, .inl (cI, 200, .inl lf))]) [0, 1] rfl
  have hDc := hD.sub (ws' := [(mo, .inr (3, [.int nz, .ref la, .int sq, .ref sa])), (la, .inl (cI, 200, .inl lf))]) [0, 1] (by decide) rfl
  have hKc := hK.sub (tys' := [(cI, .int)]) [0] rfl
  have hFc := va_free (wc := [(mo, .inr (3, [.int nz, .ref la, .int sq, .ref sa])), (la, .inl (cI, 200, .inl lf))]) hD hS hA [0, 1] rfl
  refine va_calli (va_runV (As := [.int x, .int y, .int (0 : Int32)]) (rest := []) ⟨hx, hb, hml, hown, hww⟩ (c_m_together l dC dI mo la sa cI s.heap.size x y (0 : Int32) nz sq lf (r1, sq2, lf3) hu) (cwV 3 hww (tq_gV tqt_352 tqt_354 tqt_5 tqt_35 tqt_355) rfl rfl rfl (by decide +kernel) ⟨Nat.le_of_ble_eq_true rfl, Nat.le_of_ble_eq_true rfl⟩) ⟨fun a U g mk q => by obtain ⟨q0, q1, qP, qK, qD, qN⟩ := q; exact ⟨q0, q1, qP, va_K.moved (u := U) (U := U.calling g mk a) (Vm.Alike.refl U.vm) qK, qD, tqN_same (u := U) (U := U.calling g mk a) rfl qN⟩, va_recv hK hP (ci := 3) rfl (q0 := 0) rfl, fun U hU hW => ⟨rfl, by rw [hU], by rw [hU]; exact hPc, va_K.moved hW.alike hKc, hDc.weaken (fun _ _ _ _ => trivial), tqN_warm hW hN⟩⟩ rfl rfl hl.1 rfl (lv_room (Nat.le_of_ble_eq_true rfl)) dM_add_4 ⟨Nat.zero_le _, Nat.zero_le _⟩) hS (fun q _ h => hFc q h) hFc (fun ra u0 t H1 locs ht hvm hpost hB hz1 hk1 hS => ?_)
  have hpost : r1 = ra := (show ra = r1 from hpost).symm
  subst hpost
  obtain ⟨hP1, hK1, hD1⟩ := hB
  rw [ht] at hP1
  obtain ⟨hP, hD⟩ := va_join (wr := []) (w1 := [(mo, .inr (3, [.int nz, .ref la, .int sq2, .ref sa])), (la, .inl (cI, 200, .inl lf3))]) hP hD [0, 1] [] rfl rfl (by decide) (by decide) hk1 hFc hP1 hD1
  generalize H1 = H at hP hS ⊢
  have hP := hP.sub (ws' := [(mo, .inr (3, [.int nz, .ref la, .int sq2, .ref sa])), (la, .inl (cI, 200, .inl lf3))]) [0, 1] rfl
  have hD := hD.sub (ws' := [(mo, .inr (3, [.int nz, .ref la, .int sq2, .ref sa])), (la, .inl (cI, 200, .inl lf3))]) [0, 1] (by decide) rfl
  have hf := Option.some.inj hf
  subst hf
  exact W.iret (v := r1) hx hb hr (fun t ht hW => ⟨⟨r1, (), rfl, rfl, by rw [ht]; exact hP, va_K.moved hW.alike hK, hD⟩, hS.F ht⟩) hS.2.2 dM_add_7
set_option maxHeartbeats 4000000 in
set_option maxRecDepth 100000 in
theorem c_m_subtract (l : Launch) (dC : Nat → ClassId) (dI : Nat → Nat → Nat) (mo : Nat) (la : Nat) (sa : Nat) (cI : ClassId) (sz : Nat) (x : Int32) (y : Int32) (nz : Int32) (sq : Int32) (lf : Nat → Int32) (r : Int32 × Int32 × (Nat → Int32)) (hf : m_subtract nz sq lf x y = some r) : Met l yM_subtract tqw_M_subtract ({ frames := 6, cells := 0, slots := 0, locals := 156 }) (va_Pc [.ref mo, .int x, .int y] (fun U => U.heap.size = sz ∧ va_P (dC, dI) tqCl [(mo, .inr (3, [.int nz, .ref la, .int sq, .ref sa])), (la, .inl (cI, 200, .inl lf))] U.heap ∧ va_K (dC, dI) tqCl [(cI, .int)] U ∧ va_D (fun _ => True) [(mo, .inr (3, [.int nz, .ref la, .int sq, .ref sa])), (la, .inl (cI, 200, .inl lf))] ∧ tqN U)) (va_Qi (fun (a : Int32) (_ : Unit) => a = r.1) (fun (_ : Unit) (t : State) => va_P (dC, dI) tqCl [(mo, .inr (3, [.int nz, .ref la, .int r.2.1, .ref sa])), (la, .inl (cI, 200, .inl r.2.2))] t.heap ∧ va_K (dC, dI) tqCl [(cI, .int)] t ∧ va_D (va_A [(mo, .inr (3, [.int nz, .ref la, .int sq, .ref sa])), (la, .inl (cI, 200, .inl lf))] sz) [(mo, .inr (3, [.int nz, .ref la, .int r.2.1, .ref sa])), (la, .inl (cI, 200, .inl r.2.2))]) (va_A [(mo, .inr (3, [.int nz, .ref la, .int sq, .ref sa])), (la, .inl (cI, 200, .inl lf))] sz)) 0 0 (va_A [(mo, .inr (3, [.int nz, .ref la, .int sq, .ref sa])), (la, .inl (cI, 200, .inl lf))] sz) := by
  refine Met.ofW (cc := cM_subtract) (maxL := 3) (ret := (some .int)) (by decide) rfl ?_
  intro p e s m args below meth c s₁ B hml hv
  obtain ⟨rfl, hsz, hP, hK, hD0, hN⟩ := hv
  have hx := B.exec
  have hb := B.bytes
  have hr := B.returns
  have hts := atoms_spec (ws := tqw_M_subtract) B.pre
  have hww : ∀ w ∈ tqW, w.before _ s = true := fun w h => hts w (List.mem_cons_of_mem _ h)
  have hown : s.vm.findClass RM = some m.cls := findClass_of_methodNamed B.named
  have hlocks := B.notSynchronized
  subst hsz
  have hD := hD0.self (sz := s.heap.size)
  generalize hAe : va_A [(mo, .inr (3, [.int nz, .ref la, .int sq, .ref sa])), (la, .inl (cI, 200, .inl lf))] s.heap.size = A at hD ⊢
  have hA : ∀ q : Nat, s.heap.size ≤ q → A q := fun q h => by rw [← hAe]; exact Or.inr h
  have hS : va_S A s.heap s.heap [] := va_S.rf
  have hP : va_P (dC, dI) tqCl [(mo, .inr (3, [.int nz, .ref la, .int sq, .ref sa])), (la, .inl (cI, 200, .inl lf))] s.heap := hP
  have hl := lv_entry ([.ref mo, .int x, .int y]) (n := 3) (Nat.le_of_ble_eq_true rfl)
  rw [lg_entry_eq]
  generalize (lg_sl ([.ref mo, .int x, .int y]) ++ List.replicate (3 - (lg_sl ([.ref mo, .int x, .int y])).length) Slot.unset).toArray = ls at hl ⊢
  have hl : lv_has ls 3 [(0, .ref mo), (1, .int x), (2, .int y)] := hl
  unfold m_subtract at hf
  refine lv_aload_n hx hb dM_subtract_0 rfl (lv_at hl 0 rfl) ?_
  refine lv_iload_n hx hb dM_subtract_1 rfl (lv_at hl 1 rfl) ?_
  refine lv_iload_n hx hb dM_subtract_2 rfl (lv_at hl 2 rfl) ?_
  refine lv_iconst (v := 1) hx hb dM_subtract_3 (by decide) ?_
  obtain ⟨u, hu, hf⟩ := tq_bd_some hf
  obtain ⟨r1, sq2, lf3⟩ := u
  have hf := tq_nm_at (z := r1) rfl hf
  have hf := tq_nm_at (z := sq2) rfl hf
  have hf := tq_nm_at (z := lf3) rfl hf
  have hPc := hP.sub (ws' := [(mo, .inr (3, [.int nz, .ref la, .int sq, .ref sa])), (la, .inl (cI, 200, .inl lf))]) [0, 1] rfl
  have hDc := hD.sub (ws' := [(mo, .inr (3, [.int nz, .ref la, .int sq, .ref sa])), (la, .inl (cI, 200, .inl lf))]) [0, 1] (by decide) rfl
  have hKc := hK.sub (tys' := [(cI, .int)]) [0] rfl
  have hFc := va_free (wc := [(mo, .inr (3, [.int nz, .ref la, .int sq, .ref sa])), (la, .inl (cI, 200, .inl lf))]) hD hS hA [0, 1] rfl
  refine va_calli (va_runV (As := [.int x, .int y, .int (1 : Int32)]) (rest := []) ⟨hx, hb, hml, hown, hww⟩ (c_m_together l dC dI mo la sa cI s.heap.size x y (1 : Int32) nz sq lf (r1, sq2, lf3) hu) (cwV 3 hww (tq_gV tqt_352 tqt_354 tqt_5 tqt_35 tqt_355) rfl rfl rfl (by decide +kernel) ⟨Nat.le_of_ble_eq_true rfl, Nat.le_of_ble_eq_true rfl⟩) ⟨fun a U g mk q => by obtain ⟨q0, q1, qP, qK, qD, qN⟩ := q; exact ⟨q0, q1, qP, va_K.moved (u := U) (U := U.calling g mk a) (Vm.Alike.refl U.vm) qK, qD, tqN_same (u := U) (U := U.calling g mk a) rfl qN⟩, va_recv hK hP (ci := 3) rfl (q0 := 0) rfl, fun U hU hW => ⟨rfl, by rw [hU], by rw [hU]; exact hPc, va_K.moved hW.alike hKc, hDc.weaken (fun _ _ _ _ => trivial), tqN_warm hW hN⟩⟩ rfl rfl hl.1 rfl (lv_room (Nat.le_of_ble_eq_true rfl)) dM_subtract_4 ⟨Nat.zero_le _, Nat.zero_le _⟩) hS (fun q _ h => hFc q h) hFc (fun ra u0 t H1 locs ht hvm hpost hB hz1 hk1 hS => ?_)
  have hpost : r1 = ra := (show ra = r1 from hpost).symm
  subst hpost
  obtain ⟨hP1, hK1, hD1⟩ := hB
  rw [ht] at hP1
  obtain ⟨hP, hD⟩ := va_join (wr := []) (w1 := [(mo, .inr (3, [.int nz, .ref la, .int sq2, .ref sa])), (la, .inl (cI, 200, .inl lf3))]) hP hD [0, 1] [] rfl rfl (by decide) (by decide) hk1 hFc hP1 hD1
  generalize H1 = H at hP hS ⊢
  have hP := hP.sub (ws' := [(mo, .inr (3, [.int nz, .ref la, .int sq2, .ref sa])), (la, .inl (cI, 200, .inl lf3))]) [0, 1] rfl
  have hD := hD.sub (ws' := [(mo, .inr (3, [.int nz, .ref la, .int sq2, .ref sa])), (la, .inl (cI, 200, .inl lf3))]) [0, 1] (by decide) rfl
  have hf := Option.some.inj hf
  subst hf
  exact W.iret (v := r1) hx hb hr (fun t ht hW => ⟨⟨r1, (), rfl, rfl, by rw [ht]; exact hP, va_K.moved hW.alike hK, hD⟩, hS.F ht⟩) hS.2.2 dM_subtract_7
set_option maxHeartbeats 4000000 in
set_option maxRecDepth 100000 in
theorem c_m_fused (l : Launch) (dC : Nat → ClassId) (dI : Nat → Nat → Nat) (mo : Nat) (la : Nat) (sa : Nat) (cI : ClassId) (sz : Nat) (x : Int32) (y : Int32) (z : Int32) (nz : Int32) (sq : Int32) (lf : Nat → Int32) (r : Int32 × Int32 × (Nat → Int32)) (hf : m_fused nz sq lf x y z = some r) : Met l yM_fused tqw_M_fused ({ frames := 5, cells := 0, slots := 0, locals := 132 }) (va_Pc [.ref mo, .int x, .int y, .int z] (fun U => U.heap.size = sz ∧ va_P (dC, dI) tqCl [(mo, .inr (3, [.int nz, .ref la, .int sq, .ref sa])), (la, .inl (cI, 200, .inl lf))] U.heap ∧ va_K (dC, dI) tqCl [(cI, .int)] U ∧ va_D (fun _ => True) [(mo, .inr (3, [.int nz, .ref la, .int sq, .ref sa])), (la, .inl (cI, 200, .inl lf))] ∧ tqN U)) (va_Qi (fun (a : Int32) (_ : Unit) => a = r.1) (fun (_ : Unit) (t : State) => va_P (dC, dI) tqCl [(mo, .inr (3, [.int nz, .ref la, .int r.2.1, .ref sa])), (la, .inl (cI, 200, .inl r.2.2))] t.heap ∧ va_K (dC, dI) tqCl [(cI, .int)] t ∧ va_D (va_A [(mo, .inr (3, [.int nz, .ref la, .int sq, .ref sa])), (la, .inl (cI, 200, .inl lf))] sz) [(mo, .inr (3, [.int nz, .ref la, .int r.2.1, .ref sa])), (la, .inl (cI, 200, .inl r.2.2))]) (va_A [(mo, .inr (3, [.int nz, .ref la, .int sq, .ref sa])), (la, .inl (cI, 200, .inl lf))] sz)) 0 0 (va_A [(mo, .inr (3, [.int nz, .ref la, .int sq, .ref sa])), (la, .inl (cI, 200, .inl lf))] sz) := by
  refine Met.ofW (cc := cM_fused) (maxL := 5) (ret := (some .int)) (by decide) rfl ?_
  intro p e s m args below meth c s₁ B hml hv
  obtain ⟨rfl, hsz, hP, hK, hD0, hN⟩ := hv
  have hx := B.exec
  have hb := B.bytes
  have hr := B.returns
  have hts := atoms_spec (ws := tqw_M_fused) B.pre
  have hww : ∀ w ∈ tqW, w.before _ s = true := fun w h => hts w (List.mem_cons_of_mem _ h)
  have hown : s.vm.findClass RM = some m.cls := findClass_of_methodNamed B.named
  have hlocks := B.notSynchronized
  subst hsz
  have hD := hD0.self (sz := s.heap.size)
  generalize hAe : va_A [(mo, .inr (3, [.int nz, .ref la, .int sq, .ref sa])), (la, .inl (cI, 200, .inl lf))] s.heap.size = A at hD ⊢
  have hA : ∀ q : Nat, s.heap.size ≤ q → A q := fun q h => by rw [← hAe]; exact Or.inr h
  have hS : va_S A s.heap s.heap [] := va_S.rf
  have hP : va_P (dC, dI) tqCl [(mo, .inr (3, [.int nz, .ref la, .int sq, .ref sa])), (la, .inl (cI, 200, .inl lf))] s.heap := hP
  have hl := lv_entry ([.ref mo, .int x, .int y, .int z]) (n := 5) (Nat.le_of_ble_eq_true rfl)
  rw [lg_entry_eq]
  generalize (lg_sl ([.ref mo, .int x, .int y, .int z]) ++ List.replicate (5 - (lg_sl ([.ref mo, .int x, .int y, .int z])).length) Slot.unset).toArray = ls at hl ⊢
  have hl : lv_has ls 5 [(0, .ref mo), (1, .int x), (2, .int y), (3, .int z)] := hl
  have B24 : ∀ (ls : Array Slot) (H : Heap) (locs : List Loc) (sq : Int32) (lf : Nat → Int32), m_fused_b24 nz sq lf = some r → lv_has ls 5 [(0, .ref mo)] → va_P (dC, dI) tqCl [(mo, .inr (3, [.int nz, .ref la, .int sq, .ref sa])), (la, .inl (cI, 200, .inl lf))] H → va_D A [(mo, .inr (3, [.int nz, .ref la, .int sq, .ref sa])), (la, .inl (cI, 200, .inl lf))] → va_S A s.heap H locs → W p l e ({ frames := 5, cells := 0, slots := 0, locals := 132 }) s m ([.ref mo, .int x, .int y, .int z] : List Value).toArray below meth c H locs 0 0 (MQ below (va_Qi (fun (a : Int32) (_ : Unit) => a = r.1) (fun (_ : Unit) (t : State) => va_P (dC, dI) tqCl [(mo, .inr (3, [.int nz, .ref la, .int r.2.1, .ref sa])), (la, .inl (cI, 200, .inl r.2.2))] t.heap ∧ va_K (dC, dI) tqCl [(cI, .int)] t ∧ va_D (A) [(mo, .inr (3, [.int nz, .ref la, .int r.2.1, .ref sa])), (la, .inl (cI, 200, .inl r.2.2))]) (A)) ([.ref mo, .int x, .int y, .int z] : List Value).toArray s 0 0 A) (F0 m 24 ls []) := by
    try clear hf
    intro ls H locs sq lf hf hl hP hD hS
    unfold m_fused_b24 at hf
    refine lv_aload_n hx hb dM_fused_24 rfl (lv_at hl 0 rfl) ?_
    refine va_get (D := (dC, dI)) (ci := 3) (v := .int nz) (C := RM) (T := TM) (N := 4) hx hb hww tqinM hown hK hP 0 rfl rfl 0 (by decide) (hww _ tqt_330) (fun _ h9 => h9) rfl dM_fused_25 ?_
    have hPc := hP.sub (ws' := []) [] rfl
    have hDc := hD.sub (ws' := []) [] (by decide) rfl
    have hKc := hK.sub (tys' := []) [] rfl
    have hFc := va_free (wc := []) hD hS hA [] rfl
    refine va_calli (va_runS (As := [.int nz]) (rest := []) ⟨hx, hb, hml, hown, hww⟩ (c_m_not l dC dI H.size nz (m_not nz) rfl) (va_cwS 1 hww (tq_gS tqt_364 tqt_365 tqt_35 tqt_366) rfl rfl rfl (by decide +kernel) ⟨Nat.le_of_ble_eq_true rfl, Nat.le_of_ble_eq_true rfl⟩) ⟨fun a U g mk q => by obtain ⟨q0, q1, qP, qK, qD, qN⟩ := q; exact ⟨q0, q1, qP, va_K.moved (u := U) (U := U.calling g mk a) (Vm.Alike.refl U.vm) qK, qD, tqN_same (u := U) (U := U.calling g mk a) rfl qN⟩, fun U hU hW => ⟨rfl, by rw [hU], by rw [hU]; exact hPc, va_K.moved hW.alike hKc, hDc.weaken (fun _ _ _ _ => trivial), tqN_warm hW hN⟩⟩ rfl rfl hl.1 rfl (lv_room (Nat.le_of_ble_eq_true rfl)) dM_fused_28 ⟨Nat.zero_le _, Nat.zero_le _⟩) hS (fun q _ h => hFc q h) hFc (fun ra u0 t H1 locs ht hvm hpost hB hz1 hk1 hS => ?_)
    have hpost : (m_not nz) = ra := (show ra = (m_not nz) from hpost).symm
    subst hpost
    obtain ⟨hP1, hK1, hD1⟩ := hB
    rw [ht] at hP1
    obtain ⟨hP, hD⟩ := va_join (wr := [(mo, .inr (3, [.int nz, .ref la, .int sq, .ref sa])), (la, .inl (cI, 200, .inl lf))]) (w1 := []) hP hD [] [0, 1] rfl rfl (by decide) (by decide) hk1 hFc hP1 hD1
    generalize H1 = H at hP hS ⊢
    have hP := hP.sub (ws' := [(mo, .inr (3, [.int nz, .ref la, .int sq, .ref sa])), (la, .inl (cI, 200, .inl lf))]) [0, 1] rfl
    have hD := hD.sub (ws' := [(mo, .inr (3, [.int nz, .ref la, .int sq, .ref sa])), (la, .inl (cI, 200, .inl lf))]) [0, 1] (by decide) rfl
    have hf := Option.some.inj hf
    subst hf
    exact W.iret (v := m_not nz) hx hb hr (fun t ht hW => ⟨⟨m_not nz, (), rfl, rfl, by rw [ht]; exact hP, va_K.moved hW.alike hK, hD⟩, hS.F ht⟩) hS.2.2 dM_fused_31
  have B89 : ∀ (ls : Array Slot) (H : Heap) (locs : List Loc) (t0 : Int32) (sq : Int32) (lf : Nat → Int32), m_fused_b89 nz z t0 sq lf = some r → lv_has ls 5 [(0, .ref mo), (3, .int z)] → va_P (dC, dI) tqCl [(mo, .inr (3, [.int nz, .ref la, .int sq, .ref sa])), (la, .inl (cI, 200, .inl lf))] H → va_D A [(mo, .inr (3, [.int nz, .ref la, .int sq, .ref sa])), (la, .inl (cI, 200, .inl lf))] → va_S A s.heap H locs → (t0 = 0 ∨ t0 = 1) → W p l e ({ frames := 5, cells := 0, slots := 0, locals := 132 }) s m ([.ref mo, .int x, .int y, .int z] : List Value).toArray below meth c H locs 0 0 (MQ below (va_Qi (fun (a : Int32) (_ : Unit) => a = r.1) (fun (_ : Unit) (t : State) => va_P (dC, dI) tqCl [(mo, .inr (3, [.int nz, .ref la, .int r.2.1, .ref sa])), (la, .inl (cI, 200, .inl r.2.2))] t.heap ∧ va_K (dC, dI) tqCl [(cI, .int)] t ∧ va_D (A) [(mo, .inr (3, [.int nz, .ref la, .int r.2.1, .ref sa])), (la, .inl (cI, 200, .inl r.2.2))]) (A)) ([.ref mo, .int x, .int y, .int z] : List Value).toArray s 0 0 A) (F0 m 89 ls [.int t0, .ref mo]) := by
    try clear hf
    intro ls H locs t0 sq lf hf hl hP hD hS hb_t0
    unfold m_fused_b89 at hf
    refine lv_aload_n hx hb dM_fused_89 rfl (lv_at hl 0 rfl) ?_
    refine lv_iload_n hx hb dM_fused_90 rfl (lv_at hl 1 rfl) ?_
    have hPc := hP.sub (ws' := [(mo, .inr (3, [.int nz, .ref la, .int sq, .ref sa]))]) [0] rfl
    have hDc := hD.sub (ws' := [(mo, .inr (3, [.int nz, .ref la, .int sq, .ref sa]))]) [0] (by decide) rfl
    have hKc := hK.sub (tys' := []) [] rfl
    have hFc := va_free (wc := [(mo, .inr (3, [.int nz, .ref la, .int sq, .ref sa]))]) hD hS hA [0] rfl
    refine va_calli (va_runV (As := [.int z]) (rest := [.int t0, .ref mo]) ⟨hx, hb, hml, hown, hww⟩ (c_m_negative l dC dI mo la sa H.size z nz sq (m_negative nz z) rfl) (cwV 1 hww (tq_gV tqt_393 tqt_395 tqt_14 tqt_35 tqt_396) rfl rfl rfl (by decide +kernel) ⟨Nat.le_of_ble_eq_true rfl, Nat.le_of_ble_eq_true rfl⟩) ⟨fun a U g mk q => by obtain ⟨q0, q1, qP, qK, qD, qN⟩ := q; exact ⟨q0, q1, qP, va_K.moved (u := U) (U := U.calling g mk a) (Vm.Alike.refl U.vm) qK, qD, tqN_same (u := U) (U := U.calling g mk a) rfl qN⟩, va_recv hK hP (ci := 3) rfl (q0 := 0) rfl, fun U hU hW => ⟨rfl, by rw [hU], by rw [hU]; exact hPc, va_K.moved hW.alike hKc, hDc.weaken (fun _ _ _ _ => trivial), tqN_warm hW hN⟩⟩ rfl rfl hl.1 rfl (lv_room (Nat.le_of_ble_eq_true rfl)) dM_fused_91 ⟨Nat.zero_le _, Nat.zero_le _⟩) hS (fun q _ h => hFc q h) hFc (fun ra u0 t H1 locs ht hvm hpost hB hz1 hk1 hS => ?_)
    have hpost : (m_negative nz z) = ra := (show ra = (m_negative nz z) from hpost).symm
    subst hpost
    obtain ⟨hP1, hK1, hD1⟩ := hB
    rw [ht] at hP1
    obtain ⟨hP, hD⟩ := va_join (wr := [(la, .inl (cI, 200, .inl lf))]) (w1 := [(mo, .inr (3, [.int nz, .ref la, .int sq, .ref sa]))]) hP hD [0] [1] rfl rfl (by decide) (by decide) hk1 hFc hP1 hD1
    generalize H1 = H at hP hS ⊢
    have hP := hP.sub (ws' := [(mo, .inr (3, [.int nz, .ref la, .int sq, .ref sa])), (la, .inl (cI, 200, .inl lf))]) [1, 0] rfl
    have hD := hD.sub (ws' := [(mo, .inr (3, [.int nz, .ref la, .int sq, .ref sa])), (la, .inl (cI, 200, .inl lf))]) [1, 0] (by decide) rfl
    obtain ⟨u, hu, hf⟩ := tq_bd_some hf
    obtain ⟨r24, lf25⟩ := u
    have hf := tq_nm_at (z := r24) rfl hf
    have hf := tq_nm_at (z := lf25) rfl hf
    have hPc := hP.sub (ws' := [(mo, .inr (3, [.int nz, .ref la, .int sq, .ref sa])), (la, .inl (cI, 200, .inl lf))]) [0, 1] rfl
    have hDc := hD.sub (ws' := [(mo, .inr (3, [.int nz, .ref la, .int sq, .ref sa])), (la, .inl (cI, 200, .inl lf))]) [0, 1] (by decide) rfl
    have hKc := hK.sub (tys' := [(cI, .int)]) [0] rfl
    have hFc := va_free (wc := [(mo, .inr (3, [.int nz, .ref la, .int sq, .ref sa])), (la, .inl (cI, 200, .inl lf))]) hD hS hA [0, 1] rfl
    refine va_calli (va_runV (As := [.int t0, .int (m_negative nz z)]) (rest := []) ⟨hx, hb, hml, hown, hww⟩ (c_m_joined l dC dI mo la sa cI H.size t0 (m_negative nz z) nz sq lf (r24, lf25) hu hb_t0 (zb_m_negative _ _)) (cwV 2 hww (tq_gV tqt_397 tqt_399 tqt_15 tqt_35 tqt_400) rfl rfl rfl (by decide +kernel) ⟨Nat.le_of_ble_eq_true rfl, Nat.le_of_ble_eq_true rfl⟩) ⟨fun a U g mk q => by obtain ⟨q0, q1, qP, qK, qD, qN⟩ := q; exact ⟨q0, q1, qP, va_K.moved (u := U) (U := U.calling g mk a) (Vm.Alike.refl U.vm) qK, qD, tqN_same (u := U) (U := U.calling g mk a) rfl qN⟩, va_recv hK hP (ci := 3) rfl (q0 := 0) rfl, fun U hU hW => ⟨rfl, by rw [hU], by rw [hU]; exact hPc, va_K.moved hW.alike hKc, hDc.weaken (fun _ _ _ _ => trivial), tqN_warm hW hN⟩⟩ rfl rfl hl.1 rfl (lv_room (Nat.le_of_ble_eq_true rfl)) dM_fused_94 ⟨Nat.zero_le _, Nat.zero_le _⟩) hS (fun q _ h => hFc q h) hFc (fun ra u0 t H1 locs ht hvm hpost hB hz1 hk1 hS => ?_)
    have hpost : r24 = ra := (show ra = r24 from hpost).symm
    subst hpost
    obtain ⟨hP1, hK1, hD1⟩ := hB
    rw [ht] at hP1
    obtain ⟨hP, hD⟩ := va_join (wr := []) (w1 := [(mo, .inr (3, [.int nz, .ref la, .int sq, .ref sa])), (la, .inl (cI, 200, .inl lf25))]) hP hD [0, 1] [] rfl rfl (by decide) (by decide) hk1 hFc hP1 hD1
    generalize H1 = H at hP hS ⊢
    have hP := hP.sub (ws' := [(mo, .inr (3, [.int nz, .ref la, .int sq, .ref sa])), (la, .inl (cI, 200, .inl lf25))]) [0, 1] rfl
    have hD := hD.sub (ws' := [(mo, .inr (3, [.int nz, .ref la, .int sq, .ref sa])), (la, .inl (cI, 200, .inl lf25))]) [0, 1] (by decide) rfl
    refine lv_istore (lv' := [(4, .int r24), (0, .ref mo), (3, .int z)]) hx hb dM_fused_97 hl (by decide) rfl (fun ls hl => ?_)
    refine lv_aload_n hx hb dM_fused_99 rfl (lv_at hl 1 rfl) ?_
    refine lv_bipush (v := 124) hx hb dM_fused_100 (by decide) ?_
    obtain ⟨u, hu, hf⟩ := tq_bd_some hf
    obtain ⟨sq26, lf27⟩ := u
    have hf := tq_nm_at (z := sq26) rfl hf
    have hf := tq_nm_at (z := lf27) rfl hf
    have hPc := hP.sub (ws' := [(mo, .inr (3, [.int nz, .ref la, .int sq, .ref sa])), (la, .inl (cI, 200, .inl lf25))]) [0, 1] rfl
    have hDc := hD.sub (ws' := [(mo, .inr (3, [.int nz, .ref la, .int sq, .ref sa])), (la, .inl (cI, 200, .inl lf25))]) [0, 1] (by decide) rfl
    have hKc := hK.sub (tys' := [(cI, .int)]) [0] rfl
    have hFc := va_free (wc := [(mo, .inr (3, [.int nz, .ref la, .int sq, .ref sa])), (la, .inl (cI, 200, .inl lf25))]) hD hS hA [0, 1] rfl
    refine va_callv (va_runV (As := [.int (124 : Int32)]) (rest := []) ⟨hx, hb, hml, hown, hww⟩ (c_m_factor l dC dI mo la sa cI H.size (124 : Int32) nz sq lf25 (sq26, lf27) hu) (cwV 1 hww (tq_gV tqt_413 tqt_415 tqt_19 tqt_35 tqt_416) rfl rfl rfl (by decide +kernel) ⟨Nat.le_of_ble_eq_true rfl, Nat.le_of_ble_eq_true rfl⟩) ⟨fun a U g mk q => by obtain ⟨q0, q1, qP, qK, qD, qN⟩ := q; exact ⟨q0, q1, qP, va_K.moved (u := U) (U := U.calling g mk a) (Vm.Alike.refl U.vm) qK, qD, tqN_same (u := U) (U := U.calling g mk a) rfl qN⟩, va_recv hK hP (ci := 3) rfl (q0 := 0) rfl, fun U hU hW => ⟨rfl, by rw [hU], by rw [hU]; exact hPc, va_K.moved hW.alike hKc, hDc.weaken (fun _ _ _ _ => trivial), tqN_warm hW hN⟩⟩ rfl rfl hl.1 rfl (lv_room (Nat.le_of_ble_eq_true rfl)) dM_fused_102 ⟨Nat.zero_le _, Nat.zero_le _⟩) hS (fun q _ h => hFc q h) hFc (fun u0 t H1 locs ht hvm hpost hB hz1 hk1 hS => ?_)
    obtain ⟨hP1, hK1, hD1⟩ := hB
    rw [ht] at hP1
    obtain ⟨hP, hD⟩ := va_join (wr := []) (w1 := [(mo, .inr (3, [.int nz, .ref la, .int sq26, .ref sa])), (la, .inl (cI, 200, .inl lf27))]) hP hD [0, 1] [] rfl rfl (by decide) (by decide) hk1 hFc hP1 hD1
    generalize H1 = H at hP hS ⊢
    have hP := hP.sub (ws' := [(mo, .inr (3, [.int nz, .ref la, .int sq26, .ref sa])), (la, .inl (cI, 200, .inl lf27))]) [0, 1] rfl
    have hD := hD.sub (ws' := [(mo, .inr (3, [.int nz, .ref la, .int sq26, .ref sa])), (la, .inl (cI, 200, .inl lf27))]) [0, 1] (by decide) rfl
    refine lv_aload_n hx hb dM_fused_105 rfl (lv_at hl 1 rfl) ?_
    refine lv_iload hx hb dM_fused_106 (lv_at hl 0 rfl) ?_
    refine lv_aload_n hx hb dM_fused_108 rfl (lv_at hl 1 rfl) ?_
    refine va_get (D := (dC, dI)) (ci := 3) (v := .int nz) (C := RM) (T := TM) (N := 4) hx hb hww tqinM hown hK hP 0 rfl rfl 0 (by decide) (hww _ tqt_330) (fun _ h9 => h9) rfl dM_fused_109 ?_
    obtain ⟨u, hu, hf⟩ := tq_bd_some hf
    obtain ⟨r28, lf29⟩ := u
    have hf := tq_nm_at (z := r28) rfl hf
    have hf := tq_nm_at (z := lf29) rfl hf
    have hPc := hP.sub (ws' := [(mo, .inr (3, [.int nz, .ref la, .int sq26, .ref sa])), (la, .inl (cI, 200, .inl lf27))]) [0, 1] rfl
    have hDc := hD.sub (ws' := [(mo, .inr (3, [.int nz, .ref la, .int sq26, .ref sa])), (la, .inl (cI, 200, .inl lf27))]) [0, 1] (by decide) rfl
    have hKc := hK.sub (tys' := [(cI, .int)]) [0] rfl
    have hFc := va_free (wc := [(mo, .inr (3, [.int nz, .ref la, .int sq26, .ref sa])), (la, .inl (cI, 200, .inl lf27))]) hD hS hA [0, 1] rfl
    refine va_calli (va_runV (As := [.int r24, .int nz]) (rest := []) ⟨hx, hb, hml, hown, hww⟩ (c_m_rounded l dC dI mo la sa cI H.size r24 nz nz sq26 lf27 (r28, lf29) hu) (cwV 2 hww (tq_gV tqt_417 tqt_419 tqt_20 tqt_35 tqt_420) rfl rfl rfl (by decide +kernel) ⟨Nat.le_of_ble_eq_true rfl, Nat.le_of_ble_eq_true rfl⟩) ⟨fun a U g mk q => by obtain ⟨q0, q1, qP, qK, qD, qN⟩ := q; exact ⟨q0, q1, qP, va_K.moved (u := U) (U := U.calling g mk a) (Vm.Alike.refl U.vm) qK, qD, tqN_same (u := U) (U := U.calling g mk a) rfl qN⟩, va_recv hK hP (ci := 3) rfl (q0 := 0) rfl, fun U hU hW => ⟨rfl, by rw [hU], by rw [hU]; exact hPc, va_K.moved hW.alike hKc, hDc.weaken (fun _ _ _ _ => trivial), tqN_warm hW hN⟩⟩ rfl rfl hl.1 rfl (lv_room (Nat.le_of_ble_eq_true rfl)) dM_fused_112 ⟨Nat.zero_le _, Nat.zero_le _⟩) hS (fun q _ h => hFc q h) hFc (fun ra u0 t H1 locs ht hvm hpost hB hz1 hk1 hS => ?_)
    have hpost : r28 = ra := (show ra = r28 from hpost).symm
    subst hpost
    obtain ⟨hP1, hK1, hD1⟩ := hB
    rw [ht] at hP1
    obtain ⟨hP, hD⟩ := va_join (wr := []) (w1 := [(mo, .inr (3, [.int nz, .ref la, .int sq26, .ref sa])), (la, .inl (cI, 200, .inl lf29))]) hP hD [0, 1] [] rfl rfl (by decide) (by decide) hk1 hFc hP1 hD1
    generalize H1 = H at hP hS ⊢
    have hP := hP.sub (ws' := [(mo, .inr (3, [.int nz, .ref la, .int sq26, .ref sa])), (la, .inl (cI, 200, .inl lf29))]) [0, 1] rfl
    have hD := hD.sub (ws' := [(mo, .inr (3, [.int nz, .ref la, .int sq26, .ref sa])), (la, .inl (cI, 200, .inl lf29))]) [0, 1] (by decide) rfl
    have hf := Option.some.inj hf
    subst hf
    exact W.iret (v := r28) hx hb hr (fun t ht hW => ⟨⟨r28, (), rfl, rfl, by rw [ht]; exact hP, va_K.moved hW.alike hK, hD⟩, hS.F ht⟩) hS.2.2 dM_fused_115
  unfold m_fused at hf
  refine lv_aload_n hx hb dM_fused_0 rfl (lv_at hl 0 rfl) ?_
  refine lv_iload_n hx hb dM_fused_1 rfl (lv_at hl 1 rfl) ?_
  have hPc := hP.sub (ws' := [(mo, .inr (3, [.int nz, .ref la, .int sq, .ref sa]))]) [0] rfl
  have hDc := hD.sub (ws' := [(mo, .inr (3, [.int nz, .ref la, .int sq, .ref sa]))]) [0] (by decide) rfl
  have hKc := hK.sub (tys' := []) [] rfl
  have hFc := va_free (wc := [(mo, .inr (3, [.int nz, .ref la, .int sq, .ref sa]))]) hD hS hA [0] rfl
  refine va_calli (va_runV (As := [.int x]) (rest := []) ⟨hx, hb, hml, hown, hww⟩ (c_m_isNot l dC dI mo la sa s.heap.size x nz sq (m_isNot nz x) rfl) (cwV 1 hww (tq_gV tqt_356 tqt_358 tqt_6 tqt_35 tqt_359) rfl rfl rfl (by decide +kernel) ⟨Nat.le_of_ble_eq_true rfl, Nat.le_of_ble_eq_true rfl⟩) ⟨fun a U g mk q => by obtain ⟨q0, q1, qP, qK, qD, qN⟩ := q; exact ⟨q0, q1, qP, va_K.moved (u := U) (U := U.calling g mk a) (Vm.Alike.refl U.vm) qK, qD, tqN_same (u := U) (U := U.calling g mk a) rfl qN⟩, va_recv hK hP (ci := 3) rfl (q0 := 0) rfl, fun U hU hW => ⟨rfl, by rw [hU], by rw [hU]; exact hPc, va_K.moved hW.alike hKc, hDc.weaken (fun _ _ _ _ => trivial), tqN_warm hW hN⟩⟩ rfl rfl hl.1 rfl (lv_room (Nat.le_of_ble_eq_true rfl)) dM_fused_2 ⟨Nat.zero_le _, Nat.zero_le _⟩) hS (fun q _ h => hFc q h) hFc (fun ra u0 t H1 locs ht hvm hpost hB hz1 hk1 hS => ?_)
  have hpost : (m_isNot nz x) = ra := (show ra = (m_isNot nz x) from hpost).symm
  subst hpost
  obtain ⟨hP1, hK1, hD1⟩ := hB
  rw [ht] at hP1
  obtain ⟨hP, hD⟩ := va_join (wr := [(la, .inl (cI, 200, .inl lf))]) (w1 := [(mo, .inr (3, [.int nz, .ref la, .int sq, .ref sa]))]) hP hD [0] [1] rfl rfl (by decide) (by decide) hk1 hFc hP1 hD1
  generalize H1 = H at hP hS ⊢
  have hP := hP.sub (ws' := [(mo, .inr (3, [.int nz, .ref la, .int sq, .ref sa])), (la, .inl (cI, 200, .inl lf))]) [1, 0] rfl
  have hD := hD.sub (ws' := [(mo, .inr (3, [.int nz, .ref la, .int sq, .ref sa])), (la, .inl (cI, 200, .inl lf))]) [1, 0] (by decide) rfl
  refine lv_if_ne hx hb dM_fused_5 rfl (fun h2 => ?_) (fun h2 => ?_)
  · rw [if_pos h2] at hf
    exact B24 ls _ _ sq lf hf (lv_sub hl [0] rfl) hP hD hS
  · rw [if_neg (fun q : ¬ (m_isNot nz x) = 0 => q h2)] at hf
    refine lv_aload_n hx hb dM_fused_8 rfl (lv_at hl 0 rfl) ?_
    refine lv_iload_n hx hb dM_fused_9 rfl (lv_at hl 2 rfl) ?_
    have hPc := hP.sub (ws' := [(mo, .inr (3, [.int nz, .ref la, .int sq, .ref sa]))]) [0] rfl
    have hDc := hD.sub (ws' := [(mo, .inr (3, [.int nz, .ref la, .int sq, .ref sa]))]) [0] (by decide) rfl
    have hKc := hK.sub (tys' := []) [] rfl
    have hFc := va_free (wc := [(mo, .inr (3, [.int nz, .ref la, .int sq, .ref sa]))]) hD hS hA [0] rfl
    refine va_calli (va_runV (As := [.int y]) (rest := []) ⟨hx, hb, hml, hown, hww⟩ (c_m_isNot l dC dI mo la sa H.size y nz sq (m_isNot nz y) rfl) (cwV 1 hww (tq_gV tqt_356 tqt_358 tqt_6 tqt_35 tqt_359) rfl rfl rfl (by decide +kernel) ⟨Nat.le_of_ble_eq_true rfl, Nat.le_of_ble_eq_true rfl⟩) ⟨fun a U g mk q => by obtain ⟨q0, q1, qP, qK, qD, qN⟩ := q; exact ⟨q0, q1, qP, va_K.moved (u := U) (U := U.calling g mk a) (Vm.Alike.refl U.vm) qK, qD, tqN_same (u := U) (U := U.calling g mk a) rfl qN⟩, va_recv hK hP (ci := 3) rfl (q0 := 0) rfl, fun U hU hW => ⟨rfl, by rw [hU], by rw [hU]; exact hPc, va_K.moved hW.alike hKc, hDc.weaken (fun _ _ _ _ => trivial), tqN_warm hW hN⟩⟩ rfl rfl hl.1 rfl (lv_room (Nat.le_of_ble_eq_true rfl)) dM_fused_10 ⟨Nat.zero_le _, Nat.zero_le _⟩) hS (fun q _ h => hFc q h) hFc (fun ra u0 t H1 locs ht hvm hpost hB hz1 hk1 hS => ?_)
    have hpost : (m_isNot nz y) = ra := (show ra = (m_isNot nz y) from hpost).symm
    subst hpost
    obtain ⟨hP1, hK1, hD1⟩ := hB
    rw [ht] at hP1
    obtain ⟨hP, hD⟩ := va_join (wr := [(la, .inl (cI, 200, .inl lf))]) (w1 := [(mo, .inr (3, [.int nz, .ref la, .int sq, .ref sa]))]) hP hD [0] [1] rfl rfl (by decide) (by decide) hk1 hFc hP1 hD1
    generalize H1 = H at hP hS ⊢
    have hP := hP.sub (ws' := [(mo, .inr (3, [.int nz, .ref la, .int sq, .ref sa])), (la, .inl (cI, 200, .inl lf))]) [1, 0] rfl
    have hD := hD.sub (ws' := [(mo, .inr (3, [.int nz, .ref la, .int sq, .ref sa])), (la, .inl (cI, 200, .inl lf))]) [1, 0] (by decide) rfl
    refine lv_if_ne hx hb dM_fused_13 rfl (fun h5 => ?_) (fun h5 => ?_)
    · rw [if_pos h5] at hf
      exact B24 ls _ _ sq lf hf (lv_sub hl [0] rfl) hP hD hS
    · rw [if_neg (fun q : ¬ (m_isNot nz y) = 0 => q h5)] at hf
      refine lv_aload_n hx hb dM_fused_16 rfl (lv_at hl 0 rfl) ?_
      refine lv_iload_n hx hb dM_fused_17 rfl (lv_at hl 3 rfl) ?_
      have hPc := hP.sub (ws' := [(mo, .inr (3, [.int nz, .ref la, .int sq, .ref sa]))]) [0] rfl
      have hDc := hD.sub (ws' := [(mo, .inr (3, [.int nz, .ref la, .int sq, .ref sa]))]) [0] (by decide) rfl
      have hKc := hK.sub (tys' := []) [] rfl
      have hFc := va_free (wc := [(mo, .inr (3, [.int nz, .ref la, .int sq, .ref sa]))]) hD hS hA [0] rfl
      refine va_calli (va_runV (As := [.int z]) (rest := []) ⟨hx, hb, hml, hown, hww⟩ (c_m_isNot l dC dI mo la sa H.size z nz sq (m_isNot nz z) rfl) (cwV 1 hww (tq_gV tqt_356 tqt_358 tqt_6 tqt_35 tqt_359) rfl rfl rfl (by decide +kernel) ⟨Nat.le_of_ble_eq_true rfl, Nat.le_of_ble_eq_true rfl⟩) ⟨fun a U g mk q => by obtain ⟨q0, q1, qP, qK, qD, qN⟩ := q; exact ⟨q0, q1, qP, va_K.moved (u := U) (U := U.calling g mk a) (Vm.Alike.refl U.vm) qK, qD, tqN_same (u := U) (U := U.calling g mk a) rfl qN⟩, va_recv hK hP (ci := 3) rfl (q0 := 0) rfl, fun U hU hW => ⟨rfl, by rw [hU], by rw [hU]; exact hPc, va_K.moved hW.alike hKc, hDc.weaken (fun _ _ _ _ => trivial), tqN_warm hW hN⟩⟩ rfl rfl hl.1 rfl (lv_room (Nat.le_of_ble_eq_true rfl)) dM_fused_18 ⟨Nat.zero_le _, Nat.zero_le _⟩) hS (fun q _ h => hFc q h) hFc (fun ra u0 t H1 locs ht hvm hpost hB hz1 hk1 hS => ?_)
      have hpost : (m_isNot nz z) = ra := (show ra = (m_isNot nz z) from hpost).symm
      subst hpost
      obtain ⟨hP1, hK1, hD1⟩ := hB
      rw [ht] at hP1
      obtain ⟨hP, hD⟩ := va_join (wr := [(la, .inl (cI, 200, .inl lf))]) (w1 := [(mo, .inr (3, [.int nz, .ref la, .int sq, .ref sa]))]) hP hD [0] [1] rfl rfl (by decide) (by decide) hk1 hFc hP1 hD1
      generalize H1 = H at hP hS ⊢
      have hP := hP.sub (ws' := [(mo, .inr (3, [.int nz, .ref la, .int sq, .ref sa])), (la, .inl (cI, 200, .inl lf))]) [1, 0] rfl
      have hD := hD.sub (ws' := [(mo, .inr (3, [.int nz, .ref la, .int sq, .ref sa])), (la, .inl (cI, 200, .inl lf))]) [1, 0] (by decide) rfl
      refine lv_if_eq hx hb dM_fused_21 rfl (fun h7 => ?_) (fun h7 => ?_)
      · rw [if_pos h7] at hf
        refine lv_aload_n hx hb dM_fused_32 rfl (lv_at hl 0 rfl) ?_
        refine lv_iconst (v := 1) hx hb dM_fused_33 (by decide) ?_
        refine lv_iload_n hx hb dM_fused_34 rfl (lv_at hl 1 rfl) ?_
        refine lv_bipush (v := 124) hx hb dM_fused_35 (by decide) ?_
        obtain ⟨lf8, hu, hf⟩ := tq_bd_some hf
        have hPc := hP.sub (ws' := [(mo, .inr (3, [.int nz, .ref la, .int sq, .ref sa])), (la, .inl (cI, 200, .inl lf))]) [0, 1] rfl
        have hDc := hD.sub (ws' := [(mo, .inr (3, [.int nz, .ref la, .int sq, .ref sa])), (la, .inl (cI, 200, .inl lf))]) [0, 1] (by decide) rfl
        have hKc := hK.sub (tys' := [(cI, .int)]) [0] rfl
        have hFc := va_free (wc := [(mo, .inr (3, [.int nz, .ref la, .int sq, .ref sa])), (la, .inl (cI, 200, .inl lf))]) hD hS hA [0, 1] rfl
        refine va_callv (va_runV (As := [.int (1 : Int32), .int x, .int (124 : Int32)]) (rest := []) ⟨hx, hb, hml, hown, hww⟩ (c_m_load l dC dI mo la sa cI H.size (1 : Int32) x (124 : Int32) nz sq lf lf8 hu) (cwV 3 hww (tq_gV tqt_367 tqt_369 tqt_8 tqt_35 tqt_370) rfl rfl rfl (by decide +kernel) ⟨Nat.le_of_ble_eq_true rfl, Nat.le_of_ble_eq_true rfl⟩) ⟨fun a U g mk q => by obtain ⟨q0, q1, qP, qK, qD, qN⟩ := q; exact ⟨q0, q1, qP, va_K.moved (u := U) (U := U.calling g mk a) (Vm.Alike.refl U.vm) qK, qD, tqN_same (u := U) (U := U.calling g mk a) rfl qN⟩, va_recv hK hP (ci := 3) rfl (q0 := 0) rfl, fun U hU hW => ⟨rfl, by rw [hU], by rw [hU]; exact hPc, va_K.moved hW.alike hKc, hDc.weaken (fun _ _ _ _ => trivial), tqN_warm hW hN⟩⟩ rfl rfl hl.1 rfl (lv_room (Nat.le_of_ble_eq_true rfl)) dM_fused_37 ⟨Nat.zero_le _, Nat.zero_le _⟩) hS (fun q _ h => hFc q h) hFc (fun u0 t H1 locs ht hvm hpost hB hz1 hk1 hS => ?_)
        obtain ⟨hP1, hK1, hD1⟩ := hB
        rw [ht] at hP1
        obtain ⟨hP, hD⟩ := va_join (wr := []) (w1 := [(mo, .inr (3, [.int nz, .ref la, .int sq, .ref sa])), (la, .inl (cI, 200, .inl lf8))]) hP hD [0, 1] [] rfl rfl (by decide) (by decide) hk1 hFc hP1 hD1
        generalize H1 = H at hP hS ⊢
        have hP := hP.sub (ws' := [(mo, .inr (3, [.int nz, .ref la, .int sq, .ref sa])), (la, .inl (cI, 200, .inl lf8))]) [0, 1] rfl
        have hD := hD.sub (ws' := [(mo, .inr (3, [.int nz, .ref la, .int sq, .ref sa])), (la, .inl (cI, 200, .inl lf8))]) [0, 1] (by decide) rfl
        refine lv_aload_n hx hb dM_fused_40 rfl (lv_at hl 0 rfl) ?_
        refine lv_iconst (v := 2) hx hb dM_fused_41 (by decide) ?_
        refine lv_iload_n hx hb dM_fused_42 rfl (lv_at hl 2 rfl) ?_
        refine lv_bipush (v := 124) hx hb dM_fused_43 (by decide) ?_
        obtain ⟨lf9, hu, hf⟩ := tq_bd_some hf
        have hPc := hP.sub (ws' := [(mo, .inr (3, [.int nz, .ref la, .int sq, .ref sa])), (la, .inl (cI, 200, .inl lf8))]) [0, 1] rfl
        have hDc := hD.sub (ws' := [(mo, .inr (3, [.int nz, .ref la, .int sq, .ref sa])), (la, .inl (cI, 200, .inl lf8))]) [0, 1] (by decide) rfl
        have hKc := hK.sub (tys' := [(cI, .int)]) [0] rfl
        have hFc := va_free (wc := [(mo, .inr (3, [.int nz, .ref la, .int sq, .ref sa])), (la, .inl (cI, 200, .inl lf8))]) hD hS hA [0, 1] rfl
        refine va_callv (va_runV (As := [.int (2 : Int32), .int y, .int (124 : Int32)]) (rest := []) ⟨hx, hb, hml, hown, hww⟩ (c_m_load l dC dI mo la sa cI H.size (2 : Int32) y (124 : Int32) nz sq lf8 lf9 hu) (cwV 3 hww (tq_gV tqt_367 tqt_369 tqt_8 tqt_35 tqt_370) rfl rfl rfl (by decide +kernel) ⟨Nat.le_of_ble_eq_true rfl, Nat.le_of_ble_eq_true rfl⟩) ⟨fun a U g mk q => by obtain ⟨q0, q1, qP, qK, qD, qN⟩ := q; exact ⟨q0, q1, qP, va_K.moved (u := U) (U := U.calling g mk a) (Vm.Alike.refl U.vm) qK, qD, tqN_same (u := U) (U := U.calling g mk a) rfl qN⟩, va_recv hK hP (ci := 3) rfl (q0 := 0) rfl, fun U hU hW => ⟨rfl, by rw [hU], by rw [hU]; exact hPc, va_K.moved hW.alike hKc, hDc.weaken (fun _ _ _ _ => trivial), tqN_warm hW hN⟩⟩ rfl rfl hl.1 rfl (lv_room (Nat.le_of_ble_eq_true rfl)) dM_fused_45 ⟨Nat.zero_le _, Nat.zero_le _⟩) hS (fun q _ h => hFc q h) hFc (fun u0 t H1 locs ht hvm hpost hB hz1 hk1 hS => ?_)
        obtain ⟨hP1, hK1, hD1⟩ := hB
        rw [ht] at hP1
        obtain ⟨hP, hD⟩ := va_join (wr := []) (w1 := [(mo, .inr (3, [.int nz, .ref la, .int sq, .ref sa])), (la, .inl (cI, 200, .inl lf9))]) hP hD [0, 1] [] rfl rfl (by decide) (by decide) hk1 hFc hP1 hD1
        generalize H1 = H at hP hS ⊢
        have hP := hP.sub (ws' := [(mo, .inr (3, [.int nz, .ref la, .int sq, .ref sa])), (la, .inl (cI, 200, .inl lf9))]) [0, 1] rfl
        have hD := hD.sub (ws' := [(mo, .inr (3, [.int nz, .ref la, .int sq, .ref sa])), (la, .inl (cI, 200, .inl lf9))]) [0, 1] (by decide) rfl
        refine lv_aload_n hx hb dM_fused_48 rfl (lv_at hl 0 rfl) ?_
        refine lv_iconst (v := 1) hx hb dM_fused_49 (by decide) ?_
        refine lv_iconst (v := 2) hx hb dM_fused_50 (by decide) ?_
        refine lv_iconst (v := 0) hx hb dM_fused_51 (by decide) ?_
        obtain ⟨lf10, hu, hf⟩ := tq_bd_some hf
        have hPc := hP.sub (ws' := [(mo, .inr (3, [.int nz, .ref la, .int sq, .ref sa])), (la, .inl (cI, 200, .inl lf9))]) [0, 1] rfl
        have hDc := hD.sub (ws' := [(mo, .inr (3, [.int nz, .ref la, .int sq, .ref sa])), (la, .inl (cI, 200, .inl lf9))]) [0, 1] (by decide) rfl
        have hKc := hK.sub (tys' := [(cI, .int)]) [0] rfl
        have hFc := va_free (wc := [(mo, .inr (3, [.int nz, .ref la, .int sq, .ref sa])), (la, .inl (cI, 200, .inl lf9))]) hD hS hA [0, 1] rfl
        refine va_callv (va_runV (As := [.int (1 : Int32), .int (2 : Int32), .int (0 : Int32)]) (rest := []) ⟨hx, hb, hml, hown, hww⟩ (c_m_times l dC dI mo la sa cI H.size (1 : Int32) (2 : Int32) (0 : Int32) nz sq lf9 lf10 hu) (cwV 3 hww (tq_gV tqt_429 tqt_431 tqt_23 tqt_35 tqt_432) rfl rfl rfl (by decide +kernel) ⟨Nat.le_of_ble_eq_true rfl, Nat.le_of_ble_eq_true rfl⟩) ⟨fun a U g mk q => by obtain ⟨q0, q1, qP, qK, qD, qN⟩ := q; exact ⟨q0, q1, qP, va_K.moved (u := U) (U := U.calling g mk a) (Vm.Alike.refl U.vm) qK, qD, tqN_same (u := U) (U := U.calling g mk a) rfl qN⟩, va_recv hK hP (ci := 3) rfl (q0 := 0) rfl, fun U hU hW => ⟨rfl, by rw [hU], by rw [hU]; exact hPc, va_K.moved hW.alike hKc, hDc.weaken (fun _ _ _ _ => trivial), tqN_warm hW hN⟩⟩ rfl rfl hl.1 rfl (lv_room (Nat.le_of_ble_eq_true rfl)) dM_fused_52 ⟨Nat.zero_le _, Nat.zero_le _⟩) hS (fun q _ h => hFc q h) hFc (fun u0 t H1 locs ht hvm hpost hB hz1 hk1 hS => ?_)
        obtain ⟨hP1, hK1, hD1⟩ := hB
        rw [ht] at hP1
        obtain ⟨hP, hD⟩ := va_join (wr := []) (w1 := [(mo, .inr (3, [.int nz, .ref la, .int sq, .ref sa])), (la, .inl (cI, 200, .inl lf10))]) hP hD [0, 1] [] rfl rfl (by decide) (by decide) hk1 hFc hP1 hD1
        generalize H1 = H at hP hS ⊢
        have hP := hP.sub (ws' := [(mo, .inr (3, [.int nz, .ref la, .int sq, .ref sa])), (la, .inl (cI, 200, .inl lf10))]) [0, 1] rfl
        have hD := hD.sub (ws' := [(mo, .inr (3, [.int nz, .ref la, .int sq, .ref sa])), (la, .inl (cI, 200, .inl lf10))]) [0, 1] (by decide) rfl
        refine lv_aload_n hx hb dM_fused_55 rfl (lv_at hl 0 rfl) ?_
        refine lv_iconst (v := 1) hx hb dM_fused_56 (by decide) ?_
        refine lv_iload_n hx hb dM_fused_57 rfl (lv_at hl 3 rfl) ?_
        refine lv_bipush (v := 124) hx hb dM_fused_58 (by decide) ?_
        obtain ⟨lf11, hu, hf⟩ := tq_bd_some hf
        have hPc := hP.sub (ws' := [(mo, .inr (3, [.int nz, .ref la, .int sq, .ref sa])), (la, .inl (cI, 200, .inl lf10))]) [0, 1] rfl
        have hDc := hD.sub (ws' := [(mo, .inr (3, [.int nz, .ref la, .int sq, .ref sa])), (la, .inl (cI, 200, .inl lf10))]) [0, 1] (by decide) rfl
        have hKc := hK.sub (tys' := [(cI, .int)]) [0] rfl
        have hFc := va_free (wc := [(mo, .inr (3, [.int nz, .ref la, .int sq, .ref sa])), (la, .inl (cI, 200, .inl lf10))]) hD hS hA [0, 1] rfl
        refine va_callv (va_runV (As := [.int (1 : Int32), .int z, .int (124 : Int32)]) (rest := []) ⟨hx, hb, hml, hown, hww⟩ (c_m_load l dC dI mo la sa cI H.size (1 : Int32) z (124 : Int32) nz sq lf10 lf11 hu) (cwV 3 hww (tq_gV tqt_367 tqt_369 tqt_8 tqt_35 tqt_370) rfl rfl rfl (by decide +kernel) ⟨Nat.le_of_ble_eq_true rfl, Nat.le_of_ble_eq_true rfl⟩) ⟨fun a U g mk q => by obtain ⟨q0, q1, qP, qK, qD, qN⟩ := q; exact ⟨q0, q1, qP, va_K.moved (u := U) (U := U.calling g mk a) (Vm.Alike.refl U.vm) qK, qD, tqN_same (u := U) (U := U.calling g mk a) rfl qN⟩, va_recv hK hP (ci := 3) rfl (q0 := 0) rfl, fun U hU hW => ⟨rfl, by rw [hU], by rw [hU]; exact hPc, va_K.moved hW.alike hKc, hDc.weaken (fun _ _ _ _ => trivial), tqN_warm hW hN⟩⟩ rfl rfl hl.1 rfl (lv_room (Nat.le_of_ble_eq_true rfl)) dM_fused_60 ⟨Nat.zero_le _, Nat.zero_le _⟩) hS (fun q _ h => hFc q h) hFc (fun u0 t H1 locs ht hvm hpost hB hz1 hk1 hS => ?_)
        obtain ⟨hP1, hK1, hD1⟩ := hB
        rw [ht] at hP1
        obtain ⟨hP, hD⟩ := va_join (wr := []) (w1 := [(mo, .inr (3, [.int nz, .ref la, .int sq, .ref sa])), (la, .inl (cI, 200, .inl lf11))]) hP hD [0, 1] [] rfl rfl (by decide) (by decide) hk1 hFc hP1 hD1
        generalize H1 = H at hP hS ⊢
        have hP := hP.sub (ws' := [(mo, .inr (3, [.int nz, .ref la, .int sq, .ref sa])), (la, .inl (cI, 200, .inl lf11))]) [0, 1] rfl
        have hD := hD.sub (ws' := [(mo, .inr (3, [.int nz, .ref la, .int sq, .ref sa])), (la, .inl (cI, 200, .inl lf11))]) [0, 1] (by decide) rfl
        refine lv_aload_n hx hb dM_fused_63 rfl (lv_at hl 0 rfl) ?_
        refine lv_iconst (v := 1) hx hb dM_fused_64 (by decide) ?_
        refine lv_bipush (v := 124) hx hb dM_fused_65 (by decide) ?_
        obtain ⟨lf12, hu, hf⟩ := tq_bd_some hf
        have hPc := hP.sub (ws' := [(mo, .inr (3, [.int nz, .ref la, .int sq, .ref sa])), (la, .inl (cI, 200, .inl lf11))]) [0, 1] rfl
        have hDc := hD.sub (ws' := [(mo, .inr (3, [.int nz, .ref la, .int sq, .ref sa])), (la, .inl (cI, 200, .inl lf11))]) [0, 1] (by decide) rfl
        have hKc := hK.sub (tys' := [(cI, .int)]) [0] rfl
        have hFc := va_free (wc := [(mo, .inr (3, [.int nz, .ref la, .int sq, .ref sa])), (la, .inl (cI, 200, .inl lf11))]) hD hS hA [0, 1] rfl
        refine va_callv (va_runV (As := [.int (1 : Int32), .int (124 : Int32)]) (rest := []) ⟨hx, hb, hml, hown, hww⟩ (c_m_raise l dC dI mo la sa cI H.size (1 : Int32) (124 : Int32) nz sq lf11 lf12 hu) (cwV 2 hww (tq_gV tqt_384 tqt_386 tqt_12 tqt_35 tqt_387) rfl rfl rfl (by decide +kernel) ⟨Nat.le_of_ble_eq_true rfl, Nat.le_of_ble_eq_true rfl⟩) ⟨fun a U g mk q => by obtain ⟨q0, q1, qP, qK, qD, qN⟩ := q; exact ⟨q0, q1, qP, va_K.moved (u := U) (U := U.calling g mk a) (Vm.Alike.refl U.vm) qK, qD, tqN_same (u := U) (U := U.calling g mk a) rfl qN⟩, va_recv hK hP (ci := 3) rfl (q0 := 0) rfl, fun U hU hW => ⟨rfl, by rw [hU], by rw [hU]; exact hPc, va_K.moved hW.alike hKc, hDc.weaken (fun _ _ _ _ => trivial), tqN_warm hW hN⟩⟩ rfl rfl hl.1 rfl (lv_room (Nat.le_of_ble_eq_true rfl)) dM_fused_67 ⟨Nat.zero_le _, Nat.zero_le _⟩) hS (fun q _ h => hFc q h) hFc (fun u0 t H1 locs ht hvm hpost hB hz1 hk1 hS => ?_)
        obtain ⟨hP1, hK1, hD1⟩ := hB
        rw [ht] at hP1
        obtain ⟨hP, hD⟩ := va_join (wr := []) (w1 := [(mo, .inr (3, [.int nz, .ref la, .int sq, .ref sa])), (la, .inl (cI, 200, .inl lf12))]) hP hD [0, 1] [] rfl rfl (by decide) (by decide) hk1 hFc hP1 hD1
        generalize H1 = H at hP hS ⊢
        have hP := hP.sub (ws' := [(mo, .inr (3, [.int nz, .ref la, .int sq, .ref sa])), (la, .inl (cI, 200, .inl lf12))]) [0, 1] rfl
        have hD := hD.sub (ws' := [(mo, .inr (3, [.int nz, .ref la, .int sq, .ref sa])), (la, .inl (cI, 200, .inl lf12))]) [0, 1] (by decide) rfl
        refine lv_aload_n hx hb dM_fused_70 rfl (lv_at hl 0 rfl) ?_
        refine lv_aload_n hx hb dM_fused_71 rfl (lv_at hl 0 rfl) ?_
        refine lv_iload_n hx hb dM_fused_72 rfl (lv_at hl 1 rfl) ?_
        have hPc := hP.sub (ws' := [(mo, .inr (3, [.int nz, .ref la, .int sq, .ref sa]))]) [0] rfl
        have hDc := hD.sub (ws' := [(mo, .inr (3, [.int nz, .ref la, .int sq, .ref sa]))]) [0] (by decide) rfl
        have hKc := hK.sub (tys' := []) [] rfl
        have hFc := va_free (wc := [(mo, .inr (3, [.int nz, .ref la, .int sq, .ref sa]))]) hD hS hA [0] rfl
        refine va_calli (va_runV (As := [.int x]) (rest := [.ref mo]) ⟨hx, hb, hml, hown, hww⟩ (c_m_negative l dC dI mo la sa H.size x nz sq (m_negative nz x) rfl) (cwV 1 hww (tq_gV tqt_393 tqt_395 tqt_14 tqt_35 tqt_396) rfl rfl rfl (by decide +kernel) ⟨Nat.le_of_ble_eq_true rfl, Nat.le_of_ble_eq_true rfl⟩) ⟨fun a U g mk q => by obtain ⟨q0, q1, qP, qK, qD, qN⟩ := q; exact ⟨q0, q1, qP, va_K.moved (u := U) (U := U.calling g mk a) (Vm.Alike.refl U.vm) qK, qD, tqN_same (u := U) (U := U.calling g mk a) rfl qN⟩, va_recv hK hP (ci := 3) rfl (q0 := 0) rfl, fun U hU hW => ⟨rfl, by rw [hU], by rw [hU]; exact hPc, va_K.moved hW.alike hKc, hDc.weaken (fun _ _ _ _ => trivial), tqN_warm hW hN⟩⟩ rfl rfl hl.1 rfl (lv_room (Nat.le_of_ble_eq_true rfl)) dM_fused_73 ⟨Nat.zero_le _, Nat.zero_le _⟩) hS (fun q _ h => hFc q h) hFc (fun ra u0 t H1 locs ht hvm hpost hB hz1 hk1 hS => ?_)
        have hpost : (m_negative nz x) = ra := (show ra = (m_negative nz x) from hpost).symm
        subst hpost
        obtain ⟨hP1, hK1, hD1⟩ := hB
        rw [ht] at hP1
        obtain ⟨hP, hD⟩ := va_join (wr := [(la, .inl (cI, 200, .inl lf12))]) (w1 := [(mo, .inr (3, [.int nz, .ref la, .int sq, .ref sa]))]) hP hD [0] [1] rfl rfl (by decide) (by decide) hk1 hFc hP1 hD1
        generalize H1 = H at hP hS ⊢
        have hP := hP.sub (ws' := [(mo, .inr (3, [.int nz, .ref la, .int sq, .ref sa])), (la, .inl (cI, 200, .inl lf12))]) [1, 0] rfl
        have hD := hD.sub (ws' := [(mo, .inr (3, [.int nz, .ref la, .int sq, .ref sa])), (la, .inl (cI, 200, .inl lf12))]) [1, 0] (by decide) rfl
        refine lv_aload_n hx hb dM_fused_76 rfl (lv_at hl 0 rfl) ?_
        refine lv_iload_n hx hb dM_fused_77 rfl (lv_at hl 2 rfl) ?_
        have hPc := hP.sub (ws' := [(mo, .inr (3, [.int nz, .ref la, .int sq, .ref sa]))]) [0] rfl
        have hDc := hD.sub (ws' := [(mo, .inr (3, [.int nz, .ref la, .int sq, .ref sa]))]) [0] (by decide) rfl
        have hKc := hK.sub (tys' := []) [] rfl
        have hFc := va_free (wc := [(mo, .inr (3, [.int nz, .ref la, .int sq, .ref sa]))]) hD hS hA [0] rfl
        refine va_calli (va_runV (As := [.int y]) (rest := [.int (m_negative nz x), .ref mo]) ⟨hx, hb, hml, hown, hww⟩ (c_m_negative l dC dI mo la sa H.size y nz sq (m_negative nz y) rfl) (cwV 1 hww (tq_gV tqt_393 tqt_395 tqt_14 tqt_35 tqt_396) rfl rfl rfl (by decide +kernel) ⟨Nat.le_of_ble_eq_true rfl, Nat.le_of_ble_eq_true rfl⟩) ⟨fun a U g mk q => by obtain ⟨q0, q1, qP, qK, qD, qN⟩ := q; exact ⟨q0, q1, qP, va_K.moved (u := U) (U := U.calling g mk a) (Vm.Alike.refl U.vm) qK, qD, tqN_same (u := U) (U := U.calling g mk a) rfl qN⟩, va_recv hK hP (ci := 3) rfl (q0 := 0) rfl, fun U hU hW => ⟨rfl, by rw [hU], by rw [hU]; exact hPc, va_K.moved hW.alike hKc, hDc.weaken (fun _ _ _ _ => trivial), tqN_warm hW hN⟩⟩ rfl rfl hl.1 rfl (lv_room (Nat.le_of_ble_eq_true rfl)) dM_fused_78 ⟨Nat.zero_le _, Nat.zero_le _⟩) hS (fun q _ h => hFc q h) hFc (fun ra u0 t H1 locs ht hvm hpost hB hz1 hk1 hS => ?_)
        have hpost : (m_negative nz y) = ra := (show ra = (m_negative nz y) from hpost).symm
        subst hpost
        obtain ⟨hP1, hK1, hD1⟩ := hB
        rw [ht] at hP1
        obtain ⟨hP, hD⟩ := va_join (wr := [(la, .inl (cI, 200, .inl lf12))]) (w1 := [(mo, .inr (3, [.int nz, .ref la, .int sq, .ref sa]))]) hP hD [0] [1] rfl rfl (by decide) (by decide) hk1 hFc hP1 hD1
        generalize H1 = H at hP hS ⊢
        have hP := hP.sub (ws' := [(mo, .inr (3, [.int nz, .ref la, .int sq, .ref sa])), (la, .inl (cI, 200, .inl lf12))]) [1, 0] rfl
        have hD := hD.sub (ws' := [(mo, .inr (3, [.int nz, .ref la, .int sq, .ref sa])), (la, .inl (cI, 200, .inl lf12))]) [1, 0] (by decide) rfl
        refine lv_icmp_eq hx hb dM_fused_81 rfl (fun h15 => ?_) (fun h15 => ?_)
        · rw [if_pos h15] at hf
          refine lv_iconst (v := 0) hx hb dM_fused_88 (by decide) ?_
          exact B89 ls _ _ (0 : Int32) sq lf12 hf (lv_sub hl [0, 3] rfl) hP hD hS (by decide)
        · rw [if_neg h15] at hf
          refine lv_iconst (v := 1) hx hb dM_fused_84 (by decide) ?_
          refine lv_goto hx hb dM_fused_85 rfl ?_
          exact B89 ls _ _ (1 : Int32) sq lf12 hf (lv_sub hl [0, 3] rfl) hP hD hS (by decide)
      · rw [if_neg h7] at hf
        exact B24 ls _ _ sq lf hf (lv_sub hl [0] rfl) hP hD hS
set_option maxHeartbeats 4000000 in
set_option maxRecDepth 100000 in
theorem c_m_multiply (l : Launch) (dC : Nat → ClassId) (dI : Nat → Nat → Nat) (mo : Nat) (la : Nat) (sa : Nat) (cI : ClassId) (sz : Nat) (x : Int32) (y : Int32) (nz : Int32) (sq : Int32) (lf : Nat → Int32) (r : Int32 × Int32 × (Nat → Int32)) (hf : m_multiply nz sq lf x y = some r) : Met l yM_multiply tqw_M_multiply ({ frames := 6, cells := 0, slots := 0, locals := 156 }) (va_Pc [.ref mo, .int x, .int y] (fun U => U.heap.size = sz ∧ va_P (dC, dI) tqCl [(mo, .inr (3, [.int nz, .ref la, .int sq, .ref sa])), (la, .inl (cI, 200, .inl lf))] U.heap ∧ va_K (dC, dI) tqCl [(cI, .int)] U ∧ va_D (fun _ => True) [(mo, .inr (3, [.int nz, .ref la, .int sq, .ref sa])), (la, .inl (cI, 200, .inl lf))] ∧ tqN U)) (va_Qi (fun (a : Int32) (_ : Unit) => a = r.1) (fun (_ : Unit) (t : State) => va_P (dC, dI) tqCl [(mo, .inr (3, [.int nz, .ref la, .int r.2.1, .ref sa])), (la, .inl (cI, 200, .inl r.2.2))] t.heap ∧ va_K (dC, dI) tqCl [(cI, .int)] t ∧ va_D (va_A [(mo, .inr (3, [.int nz, .ref la, .int sq, .ref sa])), (la, .inl (cI, 200, .inl lf))] sz) [(mo, .inr (3, [.int nz, .ref la, .int r.2.1, .ref sa])), (la, .inl (cI, 200, .inl r.2.2))]) (va_A [(mo, .inr (3, [.int nz, .ref la, .int sq, .ref sa])), (la, .inl (cI, 200, .inl lf))] sz)) 0 0 (va_A [(mo, .inr (3, [.int nz, .ref la, .int sq, .ref sa])), (la, .inl (cI, 200, .inl lf))] sz) := by
  refine Met.ofW (cc := cM_multiply) (maxL := 3) (ret := (some .int)) (by decide) rfl ?_
  intro p e s m args below meth c s₁ B hml hv
  obtain ⟨rfl, hsz, hP, hK, hD0, hN⟩ := hv
  have hx := B.exec
  have hb := B.bytes
  have hr := B.returns
  have hts := atoms_spec (ws := tqw_M_multiply) B.pre
  have hww : ∀ w ∈ tqW, w.before _ s = true := fun w h => hts w (List.mem_cons_of_mem _ h)
  have hown : s.vm.findClass RM = some m.cls := findClass_of_methodNamed B.named
  have hlocks := B.notSynchronized
  subst hsz
  have hD := hD0.self (sz := s.heap.size)
  generalize hAe : va_A [(mo, .inr (3, [.int nz, .ref la, .int sq, .ref sa])), (la, .inl (cI, 200, .inl lf))] s.heap.size = A at hD ⊢
  have hA : ∀ q : Nat, s.heap.size ≤ q → A q := fun q h => by rw [← hAe]; exact Or.inr h
  have hS : va_S A s.heap s.heap [] := va_S.rf
  have hP : va_P (dC, dI) tqCl [(mo, .inr (3, [.int nz, .ref la, .int sq, .ref sa])), (la, .inl (cI, 200, .inl lf))] s.heap := hP
  have hl := lv_entry ([.ref mo, .int x, .int y]) (n := 3) (Nat.le_of_ble_eq_true rfl)
  rw [lg_entry_eq]
  generalize (lg_sl ([.ref mo, .int x, .int y]) ++ List.replicate (3 - (lg_sl ([.ref mo, .int x, .int y])).length) Slot.unset).toArray = ls at hl ⊢
  have hl : lv_has ls 3 [(0, .ref mo), (1, .int x), (2, .int y)] := hl
  unfold m_multiply at hf
  refine lv_aload_n hx hb dM_multiply_0 rfl (lv_at hl 0 rfl) ?_
  refine lv_iload_n hx hb dM_multiply_1 rfl (lv_at hl 1 rfl) ?_
  refine lv_iload_n hx hb dM_multiply_2 rfl (lv_at hl 2 rfl) ?_
  refine lv_iconst (v := 0) hx hb dM_multiply_3 (by decide) ?_
  obtain ⟨u, hu, hf⟩ := tq_bd_some hf
  obtain ⟨r1, sq2, lf3⟩ := u
  have hf := tq_nm_at (z := r1) rfl hf
  have hf := tq_nm_at (z := sq2) rfl hf
  have hf := tq_nm_at (z := lf3) rfl hf
  have hPc := hP.sub (ws' := [(mo, .inr (3, [.int nz, .ref la, .int sq, .ref sa])), (la, .inl (cI, 200, .inl lf))]) [0, 1] rfl
  have hDc := hD.sub (ws' := [(mo, .inr (3, [.int nz, .ref la, .int sq, .ref sa])), (la, .inl (cI, 200, .inl lf))]) [0, 1] (by decide) rfl
  have hKc := hK.sub (tys' := [(cI, .int)]) [0] rfl
  have hFc := va_free (wc := [(mo, .inr (3, [.int nz, .ref la, .int sq, .ref sa])), (la, .inl (cI, 200, .inl lf))]) hD hS hA [0, 1] rfl
  refine va_calli (va_runV (As := [.int x, .int y, .int (0 : Int32)]) (rest := []) ⟨hx, hb, hml, hown, hww⟩ (c_m_fused l dC dI mo la sa cI s.heap.size x y (0 : Int32) nz sq lf (r1, sq2, lf3) hu) (cwV 3 hww (tq_gV tqt_442 tqt_443 tqt_444 tqt_35 tqt_445) rfl rfl rfl (by decide +kernel) ⟨Nat.le_of_ble_eq_true rfl, Nat.le_of_ble_eq_true rfl⟩) ⟨fun a U g mk q => by obtain ⟨q0, q1, qP, qK, qD, qN⟩ := q; exact ⟨q0, q1, qP, va_K.moved (u := U) (U := U.calling g mk a) (Vm.Alike.refl U.vm) qK, qD, tqN_same (u := U) (U := U.calling g mk a) rfl qN⟩, va_recv hK hP (ci := 3) rfl (q0 := 0) rfl, fun U hU hW => ⟨rfl, by rw [hU], by rw [hU]; exact hPc, va_K.moved hW.alike hKc, hDc.weaken (fun _ _ _ _ => trivial), tqN_warm hW hN⟩⟩ rfl rfl hl.1 rfl (lv_room (Nat.le_of_ble_eq_true rfl)) dM_multiply_4 ⟨Nat.zero_le _, Nat.zero_le _⟩) hS (fun q _ h => hFc q h) hFc (fun ra u0 t H1 locs ht hvm hpost hB hz1 hk1 hS => ?_)
  have hpost : r1 = ra := (show ra = r1 from hpost).symm
  subst hpost
  obtain ⟨hP1, hK1, hD1⟩ := hB
  rw [ht] at hP1
  obtain ⟨hP, hD⟩ := va_join (wr := []) (w1 := [(mo, .inr (3, [.int nz, .ref la, .int sq2, .ref sa])), (la, .inl (cI, 200, .inl lf3))]) hP hD [0, 1] [] rfl rfl (by decide) (by decide) hk1 hFc hP1 hD1
  generalize H1 = H at hP hS ⊢
  have hP := hP.sub (ws' := [(mo, .inr (3, [.int nz, .ref la, .int sq2, .ref sa])), (la, .inl (cI, 200, .inl lf3))]) [0, 1] rfl
  have hD := hD.sub (ws' := [(mo, .inr (3, [.int nz, .ref la, .int sq2, .ref sa])), (la, .inl (cI, 200, .inl lf3))]) [0, 1] (by decide) rfl
  have hf := Option.some.inj hf
  subst hf
  exact W.iret (v := r1) hx hb hr (fun t ht hW => ⟨⟨r1, (), rfl, rfl, by rw [ht]; exact hP, va_K.moved hW.alike hK, hD⟩, hS.F ht⟩) hS.2.2 dM_multiply_7
set_option maxHeartbeats 4000000 in
set_option maxRecDepth 100000 in
theorem c_m_divide (l : Launch) (dC : Nat → ClassId) (dI : Nat → Nat → Nat) (mo : Nat) (la : Nat) (sa : Nat) (cI : ClassId) (sz : Nat) (x : Int32) (y : Int32) (nz : Int32) (sq : Int32) (lf : Nat → Int32) (r : Int32 × Int32 × (Nat → Int32)) (hf : m_divide nz sq lf x y = some r) : Met l yM_divide tqw_M_divide ({ frames := 5, cells := 0, slots := 0, locals := 132 }) (va_Pc [.ref mo, .int x, .int y] (fun U => U.heap.size = sz ∧ va_P (dC, dI) tqCl [(mo, .inr (3, [.int nz, .ref la, .int sq, .ref sa])), (la, .inl (cI, 200, .inl lf))] U.heap ∧ va_K (dC, dI) tqCl [(cI, .int)] U ∧ va_D (fun _ => True) [(mo, .inr (3, [.int nz, .ref la, .int sq, .ref sa])), (la, .inl (cI, 200, .inl lf))] ∧ tqN U)) (va_Qi (fun (a : Int32) (_ : Unit) => a = r.1) (fun (_ : Unit) (t : State) => va_P (dC, dI) tqCl [(mo, .inr (3, [.int nz, .ref la, .int r.2.1, .ref sa])), (la, .inl (cI, 200, .inl r.2.2))] t.heap ∧ va_K (dC, dI) tqCl [(cI, .int)] t ∧ va_D (va_A [(mo, .inr (3, [.int nz, .ref la, .int sq, .ref sa])), (la, .inl (cI, 200, .inl lf))] sz) [(mo, .inr (3, [.int nz, .ref la, .int r.2.1, .ref sa])), (la, .inl (cI, 200, .inl r.2.2))]) (va_A [(mo, .inr (3, [.int nz, .ref la, .int sq, .ref sa])), (la, .inl (cI, 200, .inl lf))] sz)) 0 0 (va_A [(mo, .inr (3, [.int nz, .ref la, .int sq, .ref sa])), (la, .inl (cI, 200, .inl lf))] sz) := by
  refine Met.ofW (cc := cM_divide) (maxL := 3) (ret := (some .int)) (by decide) rfl ?_
  intro p e s m args below meth c s₁ B hml hv
  obtain ⟨rfl, hsz, hP, hK, hD0, hN⟩ := hv
  have hx := B.exec
  have hb := B.bytes
  have hr := B.returns
  have hts := atoms_spec (ws := tqw_M_divide) B.pre
  have hww : ∀ w ∈ tqW, w.before _ s = true := fun w h => hts w (List.mem_cons_of_mem _ h)
  have hown : s.vm.findClass RM = some m.cls := findClass_of_methodNamed B.named
  have hlocks := B.notSynchronized
  subst hsz
  have hD := hD0.self (sz := s.heap.size)
  generalize hAe : va_A [(mo, .inr (3, [.int nz, .ref la, .int sq, .ref sa])), (la, .inl (cI, 200, .inl lf))] s.heap.size = A at hD ⊢
  have hA : ∀ q : Nat, s.heap.size ≤ q → A q := fun q h => by rw [← hAe]; exact Or.inr h
  have hS : va_S A s.heap s.heap [] := va_S.rf
  have hP : va_P (dC, dI) tqCl [(mo, .inr (3, [.int nz, .ref la, .int sq, .ref sa])), (la, .inl (cI, 200, .inl lf))] s.heap := hP
  have hl := lv_entry ([.ref mo, .int x, .int y]) (n := 3) (Nat.le_of_ble_eq_true rfl)
  rw [lg_entry_eq]
  generalize (lg_sl ([.ref mo, .int x, .int y]) ++ List.replicate (3 - (lg_sl ([.ref mo, .int x, .int y])).length) Slot.unset).toArray = ls at hl ⊢
  have hl : lv_has ls 3 [(0, .ref mo), (1, .int x), (2, .int y)] := hl
  have B24 : ∀ (ls : Array Slot) (H : Heap) (locs : List Loc) (sq : Int32) (lf : Nat → Int32), m_divide_b24 nz sq lf = some r → lv_has ls 3 [(0, .ref mo)] → va_P (dC, dI) tqCl [(mo, .inr (3, [.int nz, .ref la, .int sq, .ref sa])), (la, .inl (cI, 200, .inl lf))] H → va_D A [(mo, .inr (3, [.int nz, .ref la, .int sq, .ref sa])), (la, .inl (cI, 200, .inl lf))] → va_S A s.heap H locs → W p l e ({ frames := 5, cells := 0, slots := 0, locals := 132 }) s m ([.ref mo, .int x, .int y] : List Value).toArray below meth c H locs 0 0 (MQ below (va_Qi (fun (a : Int32) (_ : Unit) => a = r.1) (fun (_ : Unit) (t : State) => va_P (dC, dI) tqCl [(mo, .inr (3, [.int nz, .ref la, .int r.2.1, .ref sa])), (la, .inl (cI, 200, .inl r.2.2))] t.heap ∧ va_K (dC, dI) tqCl [(cI, .int)] t ∧ va_D (A) [(mo, .inr (3, [.int nz, .ref la, .int r.2.1, .ref sa])), (la, .inl (cI, 200, .inl r.2.2))]) (A)) ([.ref mo, .int x, .int y] : List Value).toArray s 0 0 A) (F0 m 24 ls []) := by
    try clear hf
    intro ls H locs sq lf hf hl hP hD hS
    unfold m_divide_b24 at hf
    refine lv_aload_n hx hb dM_divide_24 rfl (lv_at hl 0 rfl) ?_
    refine va_get (D := (dC, dI)) (ci := 3) (v := .int nz) (C := RM) (T := TM) (N := 4) hx hb hww tqinM hown hK hP 0 rfl rfl 0 (by decide) (hww _ tqt_330) (fun _ h9 => h9) rfl dM_divide_25 ?_
    have hPc := hP.sub (ws' := []) [] rfl
    have hDc := hD.sub (ws' := []) [] (by decide) rfl
    have hKc := hK.sub (tys' := []) [] rfl
    have hFc := va_free (wc := []) hD hS hA [] rfl
    refine va_calli (va_runS (As := [.int nz]) (rest := []) ⟨hx, hb, hml, hown, hww⟩ (c_m_not l dC dI H.size nz (m_not nz) rfl) (va_cwS 1 hww (tq_gS tqt_364 tqt_365 tqt_35 tqt_366) rfl rfl rfl (by decide +kernel) ⟨Nat.le_of_ble_eq_true rfl, Nat.le_of_ble_eq_true rfl⟩) ⟨fun a U g mk q => by obtain ⟨q0, q1, qP, qK, qD, qN⟩ := q; exact ⟨q0, q1, qP, va_K.moved (u := U) (U := U.calling g mk a) (Vm.Alike.refl U.vm) qK, qD, tqN_same (u := U) (U := U.calling g mk a) rfl qN⟩, fun U hU hW => ⟨rfl, by rw [hU], by rw [hU]; exact hPc, va_K.moved hW.alike hKc, hDc.weaken (fun _ _ _ _ => trivial), tqN_warm hW hN⟩⟩ rfl rfl hl.1 rfl (lv_room (Nat.le_of_ble_eq_true rfl)) dM_divide_28 ⟨Nat.zero_le _, Nat.zero_le _⟩) hS (fun q _ h => hFc q h) hFc (fun ra u0 t H1 locs ht hvm hpost hB hz1 hk1 hS => ?_)
    have hpost : (m_not nz) = ra := (show ra = (m_not nz) from hpost).symm
    subst hpost
    obtain ⟨hP1, hK1, hD1⟩ := hB
    rw [ht] at hP1
    obtain ⟨hP, hD⟩ := va_join (wr := [(mo, .inr (3, [.int nz, .ref la, .int sq, .ref sa])), (la, .inl (cI, 200, .inl lf))]) (w1 := []) hP hD [] [0, 1] rfl rfl (by decide) (by decide) hk1 hFc hP1 hD1
    generalize H1 = H at hP hS ⊢
    have hP := hP.sub (ws' := [(mo, .inr (3, [.int nz, .ref la, .int sq, .ref sa])), (la, .inl (cI, 200, .inl lf))]) [0, 1] rfl
    have hD := hD.sub (ws' := [(mo, .inr (3, [.int nz, .ref la, .int sq, .ref sa])), (la, .inl (cI, 200, .inl lf))]) [0, 1] (by decide) rfl
    have hf := Option.some.inj hf
    subst hf
    exact W.iret (v := m_not nz) hx hb hr (fun t ht hW => ⟨⟨m_not nz, (), rfl, rfl, by rw [ht]; exact hP, va_K.moved hW.alike hK, hD⟩, hS.F ht⟩) hS.2.2 dM_divide_31
  have B79 : ∀ (ls : Array Slot) (H : Heap) (locs : List Loc) (t0 : Int32) (sq : Int32) (lf : Nat → Int32), m_divide_b79 nz t0 sq lf = some r → lv_has ls 3 [(0, .ref mo)] → va_P (dC, dI) tqCl [(mo, .inr (3, [.int nz, .ref la, .int sq, .ref sa])), (la, .inl (cI, 200, .inl lf))] H → va_D A [(mo, .inr (3, [.int nz, .ref la, .int sq, .ref sa])), (la, .inl (cI, 200, .inl lf))] → va_S A s.heap H locs → W p l e ({ frames := 5, cells := 0, slots := 0, locals := 132 }) s m ([.ref mo, .int x, .int y] : List Value).toArray below meth c H locs 0 0 (MQ below (va_Qi (fun (a : Int32) (_ : Unit) => a = r.1) (fun (_ : Unit) (t : State) => va_P (dC, dI) tqCl [(mo, .inr (3, [.int nz, .ref la, .int r.2.1, .ref sa])), (la, .inl (cI, 200, .inl r.2.2))] t.heap ∧ va_K (dC, dI) tqCl [(cI, .int)] t ∧ va_D (A) [(mo, .inr (3, [.int nz, .ref la, .int r.2.1, .ref sa])), (la, .inl (cI, 200, .inl r.2.2))]) (A)) ([.ref mo, .int x, .int y] : List Value).toArray s 0 0 A) (F0 m 79 ls [.int t0, .ref mo]) := by
    try clear hf
    intro ls H locs t0 sq lf hf hl hP hD hS
    unfold m_divide_b79 at hf
    refine lv_aload_n hx hb dM_divide_79 rfl (lv_at hl 0 rfl) ?_
    refine va_get (D := (dC, dI)) (ci := 3) (v := .int nz) (C := RM) (T := TM) (N := 4) hx hb hww tqinM hown hK hP 0 rfl rfl 0 (by decide) (hww _ tqt_330) (fun _ h9 => h9) rfl dM_divide_80 ?_
    obtain ⟨u, hu, hf⟩ := tq_bd_some hf
    obtain ⟨r14, lf15⟩ := u
    have hf := tq_nm_at (z := r14) rfl hf
    have hf := tq_nm_at (z := lf15) rfl hf
    have hPc := hP.sub (ws' := [(mo, .inr (3, [.int nz, .ref la, .int sq, .ref sa])), (la, .inl (cI, 200, .inl lf))]) [0, 1] rfl
    have hDc := hD.sub (ws' := [(mo, .inr (3, [.int nz, .ref la, .int sq, .ref sa])), (la, .inl (cI, 200, .inl lf))]) [0, 1] (by decide) rfl
    have hKc := hK.sub (tys' := [(cI, .int)]) [0] rfl
    have hFc := va_free (wc := [(mo, .inr (3, [.int nz, .ref la, .int sq, .ref sa])), (la, .inl (cI, 200, .inl lf))]) hD hS hA [0, 1] rfl
    refine va_calli (va_runV (As := [.int t0, .int nz]) (rest := []) ⟨hx, hb, hml, hown, hww⟩ (c_m_rounded l dC dI mo la sa cI H.size t0 nz nz sq lf (r14, lf15) hu) (cwV 2 hww (tq_gV tqt_417 tqt_419 tqt_20 tqt_35 tqt_420) rfl rfl rfl (by decide +kernel) ⟨Nat.le_of_ble_eq_true rfl, Nat.le_of_ble_eq_true rfl⟩) ⟨fun a U g mk q => by obtain ⟨q0, q1, qP, qK, qD, qN⟩ := q; exact ⟨q0, q1, qP, va_K.moved (u := U) (U := U.calling g mk a) (Vm.Alike.refl U.vm) qK, qD, tqN_same (u := U) (U := U.calling g mk a) rfl qN⟩, va_recv hK hP (ci := 3) rfl (q0 := 0) rfl, fun U hU hW => ⟨rfl, by rw [hU], by rw [hU]; exact hPc, va_K.moved hW.alike hKc, hDc.weaken (fun _ _ _ _ => trivial), tqN_warm hW hN⟩⟩ rfl rfl hl.1 rfl (lv_room (Nat.le_of_ble_eq_true rfl)) dM_divide_83 ⟨Nat.zero_le _, Nat.zero_le _⟩) hS (fun q _ h => hFc q h) hFc (fun ra u0 t H1 locs ht hvm hpost hB hz1 hk1 hS => ?_)
    have hpost : r14 = ra := (show ra = r14 from hpost).symm
    subst hpost
    obtain ⟨hP1, hK1, hD1⟩ := hB
    rw [ht] at hP1
    obtain ⟨hP, hD⟩ := va_join (wr := []) (w1 := [(mo, .inr (3, [.int nz, .ref la, .int sq, .ref sa])), (la, .inl (cI, 200, .inl lf15))]) hP hD [0, 1] [] rfl rfl (by decide) (by decide) hk1 hFc hP1 hD1
    generalize H1 = H at hP hS ⊢
    have hP := hP.sub (ws' := [(mo, .inr (3, [.int nz, .ref la, .int sq, .ref sa])), (la, .inl (cI, 200, .inl lf15))]) [0, 1] rfl
    have hD := hD.sub (ws' := [(mo, .inr (3, [.int nz, .ref la, .int sq, .ref sa])), (la, .inl (cI, 200, .inl lf15))]) [0, 1] (by decide) rfl
    have hf := Option.some.inj hf
    subst hf
    exact W.iret (v := r14) hx hb hr (fun t ht hW => ⟨⟨r14, (), rfl, rfl, by rw [ht]; exact hP, va_K.moved hW.alike hK, hD⟩, hS.F ht⟩) hS.2.2 dM_divide_86
  unfold m_divide at hf
  refine lv_aload_n hx hb dM_divide_0 rfl (lv_at hl 0 rfl) ?_
  refine lv_iload_n hx hb dM_divide_1 rfl (lv_at hl 1 rfl) ?_
  have hPc := hP.sub (ws' := [(mo, .inr (3, [.int nz, .ref la, .int sq, .ref sa]))]) [0] rfl
  have hDc := hD.sub (ws' := [(mo, .inr (3, [.int nz, .ref la, .int sq, .ref sa]))]) [0] (by decide) rfl
  have hKc := hK.sub (tys' := []) [] rfl
  have hFc := va_free (wc := [(mo, .inr (3, [.int nz, .ref la, .int sq, .ref sa]))]) hD hS hA [0] rfl
  refine va_calli (va_runV (As := [.int x]) (rest := []) ⟨hx, hb, hml, hown, hww⟩ (c_m_isNot l dC dI mo la sa s.heap.size x nz sq (m_isNot nz x) rfl) (cwV 1 hww (tq_gV tqt_356 tqt_358 tqt_6 tqt_35 tqt_359) rfl rfl rfl (by decide +kernel) ⟨Nat.le_of_ble_eq_true rfl, Nat.le_of_ble_eq_true rfl⟩) ⟨fun a U g mk q => by obtain ⟨q0, q1, qP, qK, qD, qN⟩ := q; exact ⟨q0, q1, qP, va_K.moved (u := U) (U := U.calling g mk a) (Vm.Alike.refl U.vm) qK, qD, tqN_same (u := U) (U := U.calling g mk a) rfl qN⟩, va_recv hK hP (ci := 3) rfl (q0 := 0) rfl, fun U hU hW => ⟨rfl, by rw [hU], by rw [hU]; exact hPc, va_K.moved hW.alike hKc, hDc.weaken (fun _ _ _ _ => trivial), tqN_warm hW hN⟩⟩ rfl rfl hl.1 rfl (lv_room (Nat.le_of_ble_eq_true rfl)) dM_divide_2 ⟨Nat.zero_le _, Nat.zero_le _⟩) hS (fun q _ h => hFc q h) hFc (fun ra u0 t H1 locs ht hvm hpost hB hz1 hk1 hS => ?_)
  have hpost : (m_isNot nz x) = ra := (show ra = (m_isNot nz x) from hpost).symm
  subst hpost
  obtain ⟨hP1, hK1, hD1⟩ := hB
  rw [ht] at hP1
  obtain ⟨hP, hD⟩ := va_join (wr := [(la, .inl (cI, 200, .inl lf))]) (w1 := [(mo, .inr (3, [.int nz, .ref la, .int sq, .ref sa]))]) hP hD [0] [1] rfl rfl (by decide) (by decide) hk1 hFc hP1 hD1
  generalize H1 = H at hP hS ⊢
  have hP := hP.sub (ws' := [(mo, .inr (3, [.int nz, .ref la, .int sq, .ref sa])), (la, .inl (cI, 200, .inl lf))]) [1, 0] rfl
  have hD := hD.sub (ws' := [(mo, .inr (3, [.int nz, .ref la, .int sq, .ref sa])), (la, .inl (cI, 200, .inl lf))]) [1, 0] (by decide) rfl
  refine lv_if_ne hx hb dM_divide_5 rfl (fun h2 => ?_) (fun h2 => ?_)
  · rw [if_pos h2] at hf
    exact B24 ls _ _ sq lf hf (lv_sub hl [0] rfl) hP hD hS
  · rw [if_neg (fun q : ¬ (m_isNot nz x) = 0 => q h2)] at hf
    refine lv_aload_n hx hb dM_divide_8 rfl (lv_at hl 0 rfl) ?_
    refine lv_iload_n hx hb dM_divide_9 rfl (lv_at hl 2 rfl) ?_
    have hPc := hP.sub (ws' := [(mo, .inr (3, [.int nz, .ref la, .int sq, .ref sa]))]) [0] rfl
    have hDc := hD.sub (ws' := [(mo, .inr (3, [.int nz, .ref la, .int sq, .ref sa]))]) [0] (by decide) rfl
    have hKc := hK.sub (tys' := []) [] rfl
    have hFc := va_free (wc := [(mo, .inr (3, [.int nz, .ref la, .int sq, .ref sa]))]) hD hS hA [0] rfl
    refine va_calli (va_runV (As := [.int y]) (rest := []) ⟨hx, hb, hml, hown, hww⟩ (c_m_isNot l dC dI mo la sa H.size y nz sq (m_isNot nz y) rfl) (cwV 1 hww (tq_gV tqt_356 tqt_358 tqt_6 tqt_35 tqt_359) rfl rfl rfl (by decide +kernel) ⟨Nat.le_of_ble_eq_true rfl, Nat.le_of_ble_eq_true rfl⟩) ⟨fun a U g mk q => by obtain ⟨q0, q1, qP, qK, qD, qN⟩ := q; exact ⟨q0, q1, qP, va_K.moved (u := U) (U := U.calling g mk a) (Vm.Alike.refl U.vm) qK, qD, tqN_same (u := U) (U := U.calling g mk a) rfl qN⟩, va_recv hK hP (ci := 3) rfl (q0 := 0) rfl, fun U hU hW => ⟨rfl, by rw [hU], by rw [hU]; exact hPc, va_K.moved hW.alike hKc, hDc.weaken (fun _ _ _ _ => trivial), tqN_warm hW hN⟩⟩ rfl rfl hl.1 rfl (lv_room (Nat.le_of_ble_eq_true rfl)) dM_divide_10 ⟨Nat.zero_le _, Nat.zero_le _⟩) hS (fun q _ h => hFc q h) hFc (fun ra u0 t H1 locs ht hvm hpost hB hz1 hk1 hS => ?_)
    have hpost : (m_isNot nz y) = ra := (show ra = (m_isNot nz y) from hpost).symm
    subst hpost
    obtain ⟨hP1, hK1, hD1⟩ := hB
    rw [ht] at hP1
    obtain ⟨hP, hD⟩ := va_join (wr := [(la, .inl (cI, 200, .inl lf))]) (w1 := [(mo, .inr (3, [.int nz, .ref la, .int sq, .ref sa]))]) hP hD [0] [1] rfl rfl (by decide) (by decide) hk1 hFc hP1 hD1
    generalize H1 = H at hP hS ⊢
    have hP := hP.sub (ws' := [(mo, .inr (3, [.int nz, .ref la, .int sq, .ref sa])), (la, .inl (cI, 200, .inl lf))]) [1, 0] rfl
    have hD := hD.sub (ws' := [(mo, .inr (3, [.int nz, .ref la, .int sq, .ref sa])), (la, .inl (cI, 200, .inl lf))]) [1, 0] (by decide) rfl
    refine lv_if_ne hx hb dM_divide_13 rfl (fun h5 => ?_) (fun h5 => ?_)
    · rw [if_pos h5] at hf
      exact B24 ls _ _ sq lf hf (lv_sub hl [0] rfl) hP hD hS
    · rw [if_neg (fun q : ¬ (m_isNot nz y) = 0 => q h5)] at hf
      refine lv_aload_n hx hb dM_divide_16 rfl (lv_at hl 0 rfl) ?_
      refine lv_iload_n hx hb dM_divide_17 rfl (lv_at hl 2 rfl) ?_
      have hPc := hP.sub (ws' := [(mo, .inr (3, [.int nz, .ref la, .int sq, .ref sa]))]) [0] rfl
      have hDc := hD.sub (ws' := [(mo, .inr (3, [.int nz, .ref la, .int sq, .ref sa]))]) [0] (by decide) rfl
      have hKc := hK.sub (tys' := []) [] rfl
      have hFc := va_free (wc := [(mo, .inr (3, [.int nz, .ref la, .int sq, .ref sa]))]) hD hS hA [0] rfl
      refine va_calli (va_runV (As := [.int y]) (rest := []) ⟨hx, hb, hml, hown, hww⟩ (c_m_pattern l dC dI mo la sa H.size y nz sq (m_pattern nz y) rfl) (cwV 1 hww (tq_gV tqt_360 tqt_362 tqt_7 tqt_35 tqt_363) rfl rfl rfl (by decide +kernel) ⟨Nat.le_of_ble_eq_true rfl, Nat.le_of_ble_eq_true rfl⟩) ⟨fun a U g mk q => by obtain ⟨q0, q1, qP, qK, qD, qN⟩ := q; exact ⟨q0, q1, qP, va_K.moved (u := U) (U := U.calling g mk a) (Vm.Alike.refl U.vm) qK, qD, tqN_same (u := U) (U := U.calling g mk a) rfl qN⟩, va_recv hK hP (ci := 3) rfl (q0 := 0) rfl, fun U hU hW => ⟨rfl, by rw [hU], by rw [hU]; exact hPc, va_K.moved hW.alike hKc, hDc.weaken (fun _ _ _ _ => trivial), tqN_warm hW hN⟩⟩ rfl rfl hl.1 rfl (lv_room (Nat.le_of_ble_eq_true rfl)) dM_divide_18 ⟨Nat.zero_le _, Nat.zero_le _⟩) hS (fun q _ h => hFc q h) hFc (fun ra u0 t H1 locs ht hvm hpost hB hz1 hk1 hS => ?_)
      have hpost : (m_pattern nz y) = ra := (show ra = (m_pattern nz y) from hpost).symm
      subst hpost
      obtain ⟨hP1, hK1, hD1⟩ := hB
      rw [ht] at hP1
      obtain ⟨hP, hD⟩ := va_join (wr := [(la, .inl (cI, 200, .inl lf))]) (w1 := [(mo, .inr (3, [.int nz, .ref la, .int sq, .ref sa]))]) hP hD [0] [1] rfl rfl (by decide) (by decide) hk1 hFc hP1 hD1
      generalize H1 = H at hP hS ⊢
      have hP := hP.sub (ws' := [(mo, .inr (3, [.int nz, .ref la, .int sq, .ref sa])), (la, .inl (cI, 200, .inl lf))]) [1, 0] rfl
      have hD := hD.sub (ws' := [(mo, .inr (3, [.int nz, .ref la, .int sq, .ref sa])), (la, .inl (cI, 200, .inl lf))]) [1, 0] (by decide) rfl
      refine lv_if_ne hx hb dM_divide_21 rfl (fun h7 => ?_) (fun h7 => ?_)
      · rw [if_pos h7] at hf
        refine lv_aload_n hx hb dM_divide_32 rfl (lv_at hl 0 rfl) ?_
        refine lv_iconst (v := 0) hx hb dM_divide_33 (by decide) ?_
        refine lv_iload_n hx hb dM_divide_34 rfl (lv_at hl 1 rfl) ?_
        refine lv_bipush (v := 124) hx hb dM_divide_35 (by decide) ?_
        obtain ⟨lf8, hu, hf⟩ := tq_bd_some hf
        have hPc := hP.sub (ws' := [(mo, .inr (3, [.int nz, .ref la, .int sq, .ref sa])), (la, .inl (cI, 200, .inl lf))]) [0, 1] rfl
        have hDc := hD.sub (ws' := [(mo, .inr (3, [.int nz, .ref la, .int sq, .ref sa])), (la, .inl (cI, 200, .inl lf))]) [0, 1] (by decide) rfl
        have hKc := hK.sub (tys' := [(cI, .int)]) [0] rfl
        have hFc := va_free (wc := [(mo, .inr (3, [.int nz, .ref la, .int sq, .ref sa])), (la, .inl (cI, 200, .inl lf))]) hD hS hA [0, 1] rfl
        refine va_callv (va_runV (As := [.int (0 : Int32), .int x, .int (124 : Int32)]) (rest := []) ⟨hx, hb, hml, hown, hww⟩ (c_m_load l dC dI mo la sa cI H.size (0 : Int32) x (124 : Int32) nz sq lf lf8 hu) (cwV 3 hww (tq_gV tqt_367 tqt_369 tqt_8 tqt_35 tqt_370) rfl rfl rfl (by decide +kernel) ⟨Nat.le_of_ble_eq_true rfl, Nat.le_of_ble_eq_true rfl⟩) ⟨fun a U g mk q => by obtain ⟨q0, q1, qP, qK, qD, qN⟩ := q; exact ⟨q0, q1, qP, va_K.moved (u := U) (U := U.calling g mk a) (Vm.Alike.refl U.vm) qK, qD, tqN_same (u := U) (U := U.calling g mk a) rfl qN⟩, va_recv hK hP (ci := 3) rfl (q0 := 0) rfl, fun U hU hW => ⟨rfl, by rw [hU], by rw [hU]; exact hPc, va_K.moved hW.alike hKc, hDc.weaken (fun _ _ _ _ => trivial), tqN_warm hW hN⟩⟩ rfl rfl hl.1 rfl (lv_room (Nat.le_of_ble_eq_true rfl)) dM_divide_37 ⟨Nat.zero_le _, Nat.zero_le _⟩) hS (fun q _ h => hFc q h) hFc (fun u0 t H1 locs ht hvm hpost hB hz1 hk1 hS => ?_)
        obtain ⟨hP1, hK1, hD1⟩ := hB
        rw [ht] at hP1
        obtain ⟨hP, hD⟩ := va_join (wr := []) (w1 := [(mo, .inr (3, [.int nz, .ref la, .int sq, .ref sa])), (la, .inl (cI, 200, .inl lf8))]) hP hD [0, 1] [] rfl rfl (by decide) (by decide) hk1 hFc hP1 hD1
        generalize H1 = H at hP hS ⊢
        have hP := hP.sub (ws' := [(mo, .inr (3, [.int nz, .ref la, .int sq, .ref sa])), (la, .inl (cI, 200, .inl lf8))]) [0, 1] rfl
        have hD := hD.sub (ws' := [(mo, .inr (3, [.int nz, .ref la, .int sq, .ref sa])), (la, .inl (cI, 200, .inl lf8))]) [0, 1] (by decide) rfl
        refine lv_aload_n hx hb dM_divide_40 rfl (lv_at hl 0 rfl) ?_
        refine lv_iconst (v := 0) hx hb dM_divide_41 (by decide) ?_
        refine lv_bipush (v := 124) hx hb dM_divide_42 (by decide) ?_
        obtain ⟨lf9, hu, hf⟩ := tq_bd_some hf
        have hPc := hP.sub (ws' := [(mo, .inr (3, [.int nz, .ref la, .int sq, .ref sa])), (la, .inl (cI, 200, .inl lf8))]) [0, 1] rfl
        have hDc := hD.sub (ws' := [(mo, .inr (3, [.int nz, .ref la, .int sq, .ref sa])), (la, .inl (cI, 200, .inl lf8))]) [0, 1] (by decide) rfl
        have hKc := hK.sub (tys' := [(cI, .int)]) [0] rfl
        have hFc := va_free (wc := [(mo, .inr (3, [.int nz, .ref la, .int sq, .ref sa])), (la, .inl (cI, 200, .inl lf8))]) hD hS hA [0, 1] rfl
        refine va_callv (va_runV (As := [.int (0 : Int32), .int (124 : Int32)]) (rest := []) ⟨hx, hb, hml, hown, hww⟩ (c_m_raise l dC dI mo la sa cI H.size (0 : Int32) (124 : Int32) nz sq lf8 lf9 hu) (cwV 2 hww (tq_gV tqt_384 tqt_386 tqt_12 tqt_35 tqt_387) rfl rfl rfl (by decide +kernel) ⟨Nat.le_of_ble_eq_true rfl, Nat.le_of_ble_eq_true rfl⟩) ⟨fun a U g mk q => by obtain ⟨q0, q1, qP, qK, qD, qN⟩ := q; exact ⟨q0, q1, qP, va_K.moved (u := U) (U := U.calling g mk a) (Vm.Alike.refl U.vm) qK, qD, tqN_same (u := U) (U := U.calling g mk a) rfl qN⟩, va_recv hK hP (ci := 3) rfl (q0 := 0) rfl, fun U hU hW => ⟨rfl, by rw [hU], by rw [hU]; exact hPc, va_K.moved hW.alike hKc, hDc.weaken (fun _ _ _ _ => trivial), tqN_warm hW hN⟩⟩ rfl rfl hl.1 rfl (lv_room (Nat.le_of_ble_eq_true rfl)) dM_divide_44 ⟨Nat.zero_le _, Nat.zero_le _⟩) hS (fun q _ h => hFc q h) hFc (fun u0 t H1 locs ht hvm hpost hB hz1 hk1 hS => ?_)
        obtain ⟨hP1, hK1, hD1⟩ := hB
        rw [ht] at hP1
        obtain ⟨hP, hD⟩ := va_join (wr := []) (w1 := [(mo, .inr (3, [.int nz, .ref la, .int sq, .ref sa])), (la, .inl (cI, 200, .inl lf9))]) hP hD [0, 1] [] rfl rfl (by decide) (by decide) hk1 hFc hP1 hD1
        generalize H1 = H at hP hS ⊢
        have hP := hP.sub (ws' := [(mo, .inr (3, [.int nz, .ref la, .int sq, .ref sa])), (la, .inl (cI, 200, .inl lf9))]) [0, 1] rfl
        have hD := hD.sub (ws' := [(mo, .inr (3, [.int nz, .ref la, .int sq, .ref sa])), (la, .inl (cI, 200, .inl lf9))]) [0, 1] (by decide) rfl
        refine lv_aload_n hx hb dM_divide_47 rfl (lv_at hl 0 rfl) ?_
        refine lv_iconst (v := 0) hx hb dM_divide_48 (by decide) ?_
        refine va_put (D := (dC, dI)) (ci := 3) (v := .int (0 : Int32)) (ty := .boolean) (C := RM) (T := TM) (N := 4) hx hb hww tqinM tyM tyM_ok nmM hown hK hP hD hS 0 rfl rfl 2 (by decide) (hww _ tqt_332) (fun _ h9 => h9) rfl (by decide +kernel) (tq_nb_bool (by decide)) (tq_ft_bool (by decide)) (Nat.le_of_ble_eq_true rfl) dM_divide_49 (fun H locs hP hD hS => ?_)
        have hP : va_P (dC, dI) tqCl [(mo, .inr (3, [.int nz, .ref la, .int (0 : Int32), .ref sa])), (la, .inl (cI, 200, .inl lf9))] H := hP
        have hD : va_D A [(mo, .inr (3, [.int nz, .ref la, .int (0 : Int32), .ref sa])), (la, .inl (cI, 200, .inl lf9))] := hD
        refine lv_aload_n hx hb dM_divide_52 rfl (lv_at hl 0 rfl) ?_
        refine lv_iconst (v := 4) hx hb dM_divide_53 (by decide) ?_
        refine lv_iload_n hx hb dM_divide_54 rfl (lv_at hl 2 rfl) ?_
        refine lv_bipush (v := 124) hx hb dM_divide_55 (by decide) ?_
        obtain ⟨lf10, hu, hf⟩ := tq_bd_some hf
        have hPc := hP.sub (ws' := [(mo, .inr (3, [.int nz, .ref la, .int (0 : Int32), .ref sa])), (la, .inl (cI, 200, .inl lf9))]) [0, 1] rfl
        have hDc := hD.sub (ws' := [(mo, .inr (3, [.int nz, .ref la, .int (0 : Int32), .ref sa])), (la, .inl (cI, 200, .inl lf9))]) [0, 1] (by decide) rfl
        have hKc := hK.sub (tys' := [(cI, .int)]) [0] rfl
        have hFc := va_free (wc := [(mo, .inr (3, [.int nz, .ref la, .int (0 : Int32), .ref sa])), (la, .inl (cI, 200, .inl lf9))]) hD hS hA [0, 1] rfl
        refine va_callv (va_runV (As := [.int (4 : Int32), .int y, .int (124 : Int32)]) (rest := []) ⟨hx, hb, hml, hown, hww⟩ (c_m_load l dC dI mo la sa cI H.size (4 : Int32) y (124 : Int32) nz (0 : Int32) lf9 lf10 hu) (cwV 3 hww (tq_gV tqt_367 tqt_369 tqt_8 tqt_35 tqt_370) rfl rfl rfl (by decide +kernel) ⟨Nat.le_of_ble_eq_true rfl, Nat.le_of_ble_eq_true rfl⟩) ⟨fun a U g mk q => by obtain ⟨q0, q1, qP, qK, qD, qN⟩ := q; exact ⟨q0, q1, qP, va_K.moved (u := U) (U := U.calling g mk a) (Vm.Alike.refl U.vm) qK, qD, tqN_same (u := U) (U := U.calling g mk a) rfl qN⟩, va_recv hK hP (ci := 3) rfl (q0 := 0) rfl, fun U hU hW => ⟨rfl, by rw [hU], by rw [hU]; exact hPc, va_K.moved hW.alike hKc, hDc.weaken (fun _ _ _ _ => trivial), tqN_warm hW hN⟩⟩ rfl rfl hl.1 rfl (lv_room (Nat.le_of_ble_eq_true rfl)) dM_divide_57 ⟨Nat.zero_le _, Nat.zero_le _⟩) hS (fun q _ h => hFc q h) hFc (fun u0 t H1 locs ht hvm hpost hB hz1 hk1 hS => ?_)
        obtain ⟨hP1, hK1, hD1⟩ := hB
        rw [ht] at hP1
        obtain ⟨hP, hD⟩ := va_join (wr := []) (w1 := [(mo, .inr (3, [.int nz, .ref la, .int (0 : Int32), .ref sa])), (la, .inl (cI, 200, .inl lf10))]) hP hD [0, 1] [] rfl rfl (by decide) (by decide) hk1 hFc hP1 hD1
        generalize H1 = H at hP hS ⊢
        have hP := hP.sub (ws' := [(mo, .inr (3, [.int nz, .ref la, .int (0 : Int32), .ref sa])), (la, .inl (cI, 200, .inl lf10))]) [0, 1] rfl
        have hD := hD.sub (ws' := [(mo, .inr (3, [.int nz, .ref la, .int (0 : Int32), .ref sa])), (la, .inl (cI, 200, .inl lf10))]) [0, 1] (by decide) rfl
        refine lv_aload_n hx hb dM_divide_60 rfl (lv_at hl 0 rfl) ?_
        refine lv_aload_n hx hb dM_divide_61 rfl (lv_at hl 0 rfl) ?_
        refine lv_iload_n hx hb dM_divide_62 rfl (lv_at hl 1 rfl) ?_
        have hPc := hP.sub (ws' := [(mo, .inr (3, [.int nz, .ref la, .int (0 : Int32), .ref sa]))]) [0] rfl
        have hDc := hD.sub (ws' := [(mo, .inr (3, [.int nz, .ref la, .int (0 : Int32), .ref sa]))]) [0] (by decide) rfl
        have hKc := hK.sub (tys' := []) [] rfl
        have hFc := va_free (wc := [(mo, .inr (3, [.int nz, .ref la, .int (0 : Int32), .ref sa]))]) hD hS hA [0] rfl
        refine va_calli (va_runV (As := [.int x]) (rest := [.ref mo]) ⟨hx, hb, hml, hown, hww⟩ (c_m_negative l dC dI mo la sa H.size x nz (0 : Int32) (m_negative nz x) rfl) (cwV 1 hww (tq_gV tqt_393 tqt_395 tqt_14 tqt_35 tqt_396) rfl rfl rfl (by decide +kernel) ⟨Nat.le_of_ble_eq_true rfl, Nat.le_of_ble_eq_true rfl⟩) ⟨fun a U g mk q => by obtain ⟨q0, q1, qP, qK, qD, qN⟩ := q; exact ⟨q0, q1, qP, va_K.moved (u := U) (U := U.calling g mk a) (Vm.Alike.refl U.vm) qK, qD, tqN_same (u := U) (U := U.calling g mk a) rfl qN⟩, va_recv hK hP (ci := 3) rfl (q0 := 0) rfl, fun U hU hW => ⟨rfl, by rw [hU], by rw [hU]; exact hPc, va_K.moved hW.alike hKc, hDc.weaken (fun _ _ _ _ => trivial), tqN_warm hW hN⟩⟩ rfl rfl hl.1 rfl (lv_room (Nat.le_of_ble_eq_true rfl)) dM_divide_63 ⟨Nat.zero_le _, Nat.zero_le _⟩) hS (fun q _ h => hFc q h) hFc (fun ra u0 t H1 locs ht hvm hpost hB hz1 hk1 hS => ?_)
        have hpost : (m_negative nz x) = ra := (show ra = (m_negative nz x) from hpost).symm
        subst hpost
        obtain ⟨hP1, hK1, hD1⟩ := hB
        rw [ht] at hP1
        obtain ⟨hP, hD⟩ := va_join (wr := [(la, .inl (cI, 200, .inl lf10))]) (w1 := [(mo, .inr (3, [.int nz, .ref la, .int (0 : Int32), .ref sa]))]) hP hD [0] [1] rfl rfl (by decide) (by decide) hk1 hFc hP1 hD1
        generalize H1 = H at hP hS ⊢
        have hP := hP.sub (ws' := [(mo, .inr (3, [.int nz, .ref la, .int (0 : Int32), .ref sa])), (la, .inl (cI, 200, .inl lf10))]) [1, 0] rfl
        have hD := hD.sub (ws' := [(mo, .inr (3, [.int nz, .ref la, .int (0 : Int32), .ref sa])), (la, .inl (cI, 200, .inl lf10))]) [1, 0] (by decide) rfl
        refine lv_aload_n hx hb dM_divide_66 rfl (lv_at hl 0 rfl) ?_
        refine lv_iload_n hx hb dM_divide_67 rfl (lv_at hl 2 rfl) ?_
        have hPc := hP.sub (ws' := [(mo, .inr (3, [.int nz, .ref la, .int (0 : Int32), .ref sa]))]) [0] rfl
        have hDc := hD.sub (ws' := [(mo, .inr (3, [.int nz, .ref la, .int (0 : Int32), .ref sa]))]) [0] (by decide) rfl
        have hKc := hK.sub (tys' := []) [] rfl
        have hFc := va_free (wc := [(mo, .inr (3, [.int nz, .ref la, .int (0 : Int32), .ref sa]))]) hD hS hA [0] rfl
        refine va_calli (va_runV (As := [.int y]) (rest := [.int (m_negative nz x), .ref mo]) ⟨hx, hb, hml, hown, hww⟩ (c_m_negative l dC dI mo la sa H.size y nz (0 : Int32) (m_negative nz y) rfl) (cwV 1 hww (tq_gV tqt_393 tqt_395 tqt_14 tqt_35 tqt_396) rfl rfl rfl (by decide +kernel) ⟨Nat.le_of_ble_eq_true rfl, Nat.le_of_ble_eq_true rfl⟩) ⟨fun a U g mk q => by obtain ⟨q0, q1, qP, qK, qD, qN⟩ := q; exact ⟨q0, q1, qP, va_K.moved (u := U) (U := U.calling g mk a) (Vm.Alike.refl U.vm) qK, qD, tqN_same (u := U) (U := U.calling g mk a) rfl qN⟩, va_recv hK hP (ci := 3) rfl (q0 := 0) rfl, fun U hU hW => ⟨rfl, by rw [hU], by rw [hU]; exact hPc, va_K.moved hW.alike hKc, hDc.weaken (fun _ _ _ _ => trivial), tqN_warm hW hN⟩⟩ rfl rfl hl.1 rfl (lv_room (Nat.le_of_ble_eq_true rfl)) dM_divide_68 ⟨Nat.zero_le _, Nat.zero_le _⟩) hS (fun q _ h => hFc q h) hFc (fun ra u0 t H1 locs ht hvm hpost hB hz1 hk1 hS => ?_)
        have hpost : (m_negative nz y) = ra := (show ra = (m_negative nz y) from hpost).symm
        subst hpost
        obtain ⟨hP1, hK1, hD1⟩ := hB
        rw [ht] at hP1
        obtain ⟨hP, hD⟩ := va_join (wr := [(la, .inl (cI, 200, .inl lf10))]) (w1 := [(mo, .inr (3, [.int nz, .ref la, .int (0 : Int32), .ref sa]))]) hP hD [0] [1] rfl rfl (by decide) (by decide) hk1 hFc hP1 hD1
        generalize H1 = H at hP hS ⊢
        have hP := hP.sub (ws' := [(mo, .inr (3, [.int nz, .ref la, .int (0 : Int32), .ref sa])), (la, .inl (cI, 200, .inl lf10))]) [1, 0] rfl
        have hD := hD.sub (ws' := [(mo, .inr (3, [.int nz, .ref la, .int (0 : Int32), .ref sa])), (la, .inl (cI, 200, .inl lf10))]) [1, 0] (by decide) rfl
        refine lv_icmp_eq hx hb dM_divide_71 rfl (fun h13 => ?_) (fun h13 => ?_)
        · rw [if_pos h13] at hf
          refine lv_iconst (v := 0) hx hb dM_divide_78 (by decide) ?_
          exact B79 ls _ _ (0 : Int32) (0 : Int32) lf10 hf (lv_sub hl [0] rfl) hP hD hS
        · rw [if_neg h13] at hf
          refine lv_iconst (v := 1) hx hb dM_divide_74 (by decide) ?_
          refine lv_goto hx hb dM_divide_75 rfl ?_
          exact B79 ls _ _ (1 : Int32) (0 : Int32) lf10 hf (lv_sub hl [0] rfl) hP hD hS
      · rw [if_neg (fun q : ¬ (m_pattern nz y) = 0 => q h7)] at hf
        exact B24 ls _ _ sq lf hf (lv_sub hl [0] rfl) hP hD hS
set_option maxHeartbeats 4000000 in
set_option maxRecDepth 100000 in
theorem c_m_root (l : Launch) (dC : Nat → ClassId) (dI : Nat → Nat → Nat) (mo : Nat) (la : Nat) (sa : Nat) (cI : ClassId) (sz : Nat) (x : Int32) (nz : Int32) (sq : Int32) (lf : Nat → Int32) (r : Int32 × Int32 × (Nat → Int32)) (hf : m_root nz sq lf x = some r) : Met l yM_root tqw_M_root ({ frames := 5, cells := 0, slots := 0, locals := 132 }) (va_Pc [.ref mo, .int x] (fun U => U.heap.size = sz ∧ va_P (dC, dI) tqCl [(mo, .inr (3, [.int nz, .ref la, .int sq, .ref sa])), (la, .inl (cI, 200, .inl lf))] U.heap ∧ va_K (dC, dI) tqCl [(cI, .int)] U ∧ va_D (fun _ => True) [(mo, .inr (3, [.int nz, .ref la, .int sq, .ref sa])), (la, .inl (cI, 200, .inl lf))] ∧ tqN U)) (va_Qi (fun (a : Int32) (_ : Unit) => a = r.1) (fun (_ : Unit) (t : State) => va_P (dC, dI) tqCl [(mo, .inr (3, [.int nz, .ref la, .int r.2.1, .ref sa])), (la, .inl (cI, 200, .inl r.2.2))] t.heap ∧ va_K (dC, dI) tqCl [(cI, .int)] t ∧ va_D (va_A [(mo, .inr (3, [.int nz, .ref la, .int sq, .ref sa])), (la, .inl (cI, 200, .inl lf))] sz) [(mo, .inr (3, [.int nz, .ref la, .int r.2.1, .ref sa])), (la, .inl (cI, 200, .inl r.2.2))]) (va_A [(mo, .inr (3, [.int nz, .ref la, .int sq, .ref sa])), (la, .inl (cI, 200, .inl lf))] sz)) 0 0 (va_A [(mo, .inr (3, [.int nz, .ref la, .int sq, .ref sa])), (la, .inl (cI, 200, .inl lf))] sz) := by
  refine Met.ofW (cc := cM_root) (maxL := 2) (ret := (some .int)) (by decide) rfl ?_
  intro p e s m args below meth c s₁ B hml hv
  obtain ⟨rfl, hsz, hP, hK, hD0, hN⟩ := hv
  have hx := B.exec
  have hb := B.bytes
  have hr := B.returns
  have hts := atoms_spec (ws := tqw_M_root) B.pre
  have hww : ∀ w ∈ tqW, w.before _ s = true := fun w h => hts w (List.mem_cons_of_mem _ h)
  have hown : s.vm.findClass RM = some m.cls := findClass_of_methodNamed B.named
  have hlocks := B.notSynchronized
  subst hsz
  have hD := hD0.self (sz := s.heap.size)
  generalize hAe : va_A [(mo, .inr (3, [.int nz, .ref la, .int sq, .ref sa])), (la, .inl (cI, 200, .inl lf))] s.heap.size = A at hD ⊢
  have hA : ∀ q : Nat, s.heap.size ≤ q → A q := fun q h => by rw [← hAe]; exact Or.inr h
  have hS : va_S A s.heap s.heap [] := va_S.rf
  have hP : va_P (dC, dI) tqCl [(mo, .inr (3, [.int nz, .ref la, .int sq, .ref sa])), (la, .inl (cI, 200, .inl lf))] s.heap := hP
  have hl := lv_entry ([.ref mo, .int x]) (n := 2) (Nat.le_of_ble_eq_true rfl)
  rw [lg_entry_eq]
  generalize (lg_sl ([.ref mo, .int x]) ++ List.replicate (2 - (lg_sl ([.ref mo, .int x])).length) Slot.unset).toArray = ls at hl ⊢
  have hl : lv_has ls 2 [(0, .ref mo), (1, .int x)] := hl
  have B16 : ∀ (ls : Array Slot) (H : Heap) (locs : List Loc) (sq : Int32) (lf : Nat → Int32), m_root_b16 nz sq lf = some r → lv_has ls 2 [(0, .ref mo)] → va_P (dC, dI) tqCl [(mo, .inr (3, [.int nz, .ref la, .int sq, .ref sa])), (la, .inl (cI, 200, .inl lf))] H → va_D A [(mo, .inr (3, [.int nz, .ref la, .int sq, .ref sa])), (la, .inl (cI, 200, .inl lf))] → va_S A s.heap H locs → W p l e ({ frames := 5, cells := 0, slots := 0, locals := 132 }) s m ([.ref mo, .int x] : List Value).toArray below meth c H locs 0 0 (MQ below (va_Qi (fun (a : Int32) (_ : Unit) => a = r.1) (fun (_ : Unit) (t : State) => va_P (dC, dI) tqCl [(mo, .inr (3, [.int nz, .ref la, .int r.2.1, .ref sa])), (la, .inl (cI, 200, .inl r.2.2))] t.heap ∧ va_K (dC, dI) tqCl [(cI, .int)] t ∧ va_D (A) [(mo, .inr (3, [.int nz, .ref la, .int r.2.1, .ref sa])), (la, .inl (cI, 200, .inl r.2.2))]) (A)) ([.ref mo, .int x] : List Value).toArray s 0 0 A) (F0 m 16 ls []) := by
    try clear hf
    intro ls H locs sq lf hf hl hP hD hS
    unfold m_root_b16 at hf
    refine lv_aload_n hx hb dM_root_16 rfl (lv_at hl 0 rfl) ?_
    refine va_get (D := (dC, dI)) (ci := 3) (v := .int nz) (C := RM) (T := TM) (N := 4) hx hb hww tqinM hown hK hP 0 rfl rfl 0 (by decide) (hww _ tqt_330) (fun _ h9 => h9) rfl dM_root_17 ?_
    have hPc := hP.sub (ws' := []) [] rfl
    have hDc := hD.sub (ws' := []) [] (by decide) rfl
    have hKc := hK.sub (tys' := []) [] rfl
    have hFc := va_free (wc := []) hD hS hA [] rfl
    refine va_calli (va_runS (As := [.int nz]) (rest := []) ⟨hx, hb, hml, hown, hww⟩ (c_m_not l dC dI H.size nz (m_not nz) rfl) (va_cwS 1 hww (tq_gS tqt_364 tqt_365 tqt_35 tqt_366) rfl rfl rfl (by decide +kernel) ⟨Nat.le_of_ble_eq_true rfl, Nat.le_of_ble_eq_true rfl⟩) ⟨fun a U g mk q => by obtain ⟨q0, q1, qP, qK, qD, qN⟩ := q; exact ⟨q0, q1, qP, va_K.moved (u := U) (U := U.calling g mk a) (Vm.Alike.refl U.vm) qK, qD, tqN_same (u := U) (U := U.calling g mk a) rfl qN⟩, fun U hU hW => ⟨rfl, by rw [hU], by rw [hU]; exact hPc, va_K.moved hW.alike hKc, hDc.weaken (fun _ _ _ _ => trivial), tqN_warm hW hN⟩⟩ rfl rfl hl.1 rfl (lv_room (Nat.le_of_ble_eq_true rfl)) dM_root_20 ⟨Nat.zero_le _, Nat.zero_le _⟩) hS (fun q _ h => hFc q h) hFc (fun ra u0 t H1 locs ht hvm hpost hB hz1 hk1 hS => ?_)
    have hpost : (m_not nz) = ra := (show ra = (m_not nz) from hpost).symm
    subst hpost
    obtain ⟨hP1, hK1, hD1⟩ := hB
    rw [ht] at hP1
    obtain ⟨hP, hD⟩ := va_join (wr := [(mo, .inr (3, [.int nz, .ref la, .int sq, .ref sa])), (la, .inl (cI, 200, .inl lf))]) (w1 := []) hP hD [] [0, 1] rfl rfl (by decide) (by decide) hk1 hFc hP1 hD1
    generalize H1 = H at hP hS ⊢
    have hP := hP.sub (ws' := [(mo, .inr (3, [.int nz, .ref la, .int sq, .ref sa])), (la, .inl (cI, 200, .inl lf))]) [0, 1] rfl
    have hD := hD.sub (ws' := [(mo, .inr (3, [.int nz, .ref la, .int sq, .ref sa])), (la, .inl (cI, 200, .inl lf))]) [0, 1] (by decide) rfl
    have hf := Option.some.inj hf
    subst hf
    exact W.iret (v := m_not nz) hx hb hr (fun t ht hW => ⟨⟨m_not nz, (), rfl, rfl, by rw [ht]; exact hP, va_K.moved hW.alike hK, hD⟩, hS.F ht⟩) hS.2.2 dM_root_23
  unfold m_root at hf
  refine lv_aload_n hx hb dM_root_0 rfl (lv_at hl 0 rfl) ?_
  refine lv_iload_n hx hb dM_root_1 rfl (lv_at hl 1 rfl) ?_
  have hPc := hP.sub (ws' := [(mo, .inr (3, [.int nz, .ref la, .int sq, .ref sa]))]) [0] rfl
  have hDc := hD.sub (ws' := [(mo, .inr (3, [.int nz, .ref la, .int sq, .ref sa]))]) [0] (by decide) rfl
  have hKc := hK.sub (tys' := []) [] rfl
  have hFc := va_free (wc := [(mo, .inr (3, [.int nz, .ref la, .int sq, .ref sa]))]) hD hS hA [0] rfl
  refine va_calli (va_runV (As := [.int x]) (rest := []) ⟨hx, hb, hml, hown, hww⟩ (c_m_isNot l dC dI mo la sa s.heap.size x nz sq (m_isNot nz x) rfl) (cwV 1 hww (tq_gV tqt_356 tqt_358 tqt_6 tqt_35 tqt_359) rfl rfl rfl (by decide +kernel) ⟨Nat.le_of_ble_eq_true rfl, Nat.le_of_ble_eq_true rfl⟩) ⟨fun a U g mk q => by obtain ⟨q0, q1, qP, qK, qD, qN⟩ := q; exact ⟨q0, q1, qP, va_K.moved (u := U) (U := U.calling g mk a) (Vm.Alike.refl U.vm) qK, qD, tqN_same (u := U) (U := U.calling g mk a) rfl qN⟩, va_recv hK hP (ci := 3) rfl (q0 := 0) rfl, fun U hU hW => ⟨rfl, by rw [hU], by rw [hU]; exact hPc, va_K.moved hW.alike hKc, hDc.weaken (fun _ _ _ _ => trivial), tqN_warm hW hN⟩⟩ rfl rfl hl.1 rfl (lv_room (Nat.le_of_ble_eq_true rfl)) dM_root_2 ⟨Nat.zero_le _, Nat.zero_le _⟩) hS (fun q _ h => hFc q h) hFc (fun ra u0 t H1 locs ht hvm hpost hB hz1 hk1 hS => ?_)
  have hpost : (m_isNot nz x) = ra := (show ra = (m_isNot nz x) from hpost).symm
  subst hpost
  obtain ⟨hP1, hK1, hD1⟩ := hB
  rw [ht] at hP1
  obtain ⟨hP, hD⟩ := va_join (wr := [(la, .inl (cI, 200, .inl lf))]) (w1 := [(mo, .inr (3, [.int nz, .ref la, .int sq, .ref sa]))]) hP hD [0] [1] rfl rfl (by decide) (by decide) hk1 hFc hP1 hD1
  generalize H1 = H at hP hS ⊢
  have hP := hP.sub (ws' := [(mo, .inr (3, [.int nz, .ref la, .int sq, .ref sa])), (la, .inl (cI, 200, .inl lf))]) [1, 0] rfl
  have hD := hD.sub (ws' := [(mo, .inr (3, [.int nz, .ref la, .int sq, .ref sa])), (la, .inl (cI, 200, .inl lf))]) [1, 0] (by decide) rfl
  refine lv_if_ne hx hb dM_root_5 rfl (fun h2 => ?_) (fun h2 => ?_)
  · rw [if_pos h2] at hf
    exact B16 ls _ _ sq lf hf (lv_sub hl [0] rfl) hP hD hS
  · rw [if_neg (fun q : ¬ (m_isNot nz x) = 0 => q h2)] at hf
    refine lv_aload_n hx hb dM_root_8 rfl (lv_at hl 0 rfl) ?_
    refine lv_iload_n hx hb dM_root_9 rfl (lv_at hl 1 rfl) ?_
    have hPc := hP.sub (ws' := [(mo, .inr (3, [.int nz, .ref la, .int sq, .ref sa]))]) [0] rfl
    have hDc := hD.sub (ws' := [(mo, .inr (3, [.int nz, .ref la, .int sq, .ref sa]))]) [0] (by decide) rfl
    have hKc := hK.sub (tys' := []) [] rfl
    have hFc := va_free (wc := [(mo, .inr (3, [.int nz, .ref la, .int sq, .ref sa]))]) hD hS hA [0] rfl
    refine va_calli (va_runV (As := [.int x]) (rest := []) ⟨hx, hb, hml, hown, hww⟩ (c_m_negative l dC dI mo la sa H.size x nz sq (m_negative nz x) rfl) (cwV 1 hww (tq_gV tqt_393 tqt_395 tqt_14 tqt_35 tqt_396) rfl rfl rfl (by decide +kernel) ⟨Nat.le_of_ble_eq_true rfl, Nat.le_of_ble_eq_true rfl⟩) ⟨fun a U g mk q => by obtain ⟨q0, q1, qP, qK, qD, qN⟩ := q; exact ⟨q0, q1, qP, va_K.moved (u := U) (U := U.calling g mk a) (Vm.Alike.refl U.vm) qK, qD, tqN_same (u := U) (U := U.calling g mk a) rfl qN⟩, va_recv hK hP (ci := 3) rfl (q0 := 0) rfl, fun U hU hW => ⟨rfl, by rw [hU], by rw [hU]; exact hPc, va_K.moved hW.alike hKc, hDc.weaken (fun _ _ _ _ => trivial), tqN_warm hW hN⟩⟩ rfl rfl hl.1 rfl (lv_room (Nat.le_of_ble_eq_true rfl)) dM_root_10 ⟨Nat.zero_le _, Nat.zero_le _⟩) hS (fun q _ h => hFc q h) hFc (fun ra u0 t H1 locs ht hvm hpost hB hz1 hk1 hS => ?_)
    have hpost : (m_negative nz x) = ra := (show ra = (m_negative nz x) from hpost).symm
    subst hpost
    obtain ⟨hP1, hK1, hD1⟩ := hB
    rw [ht] at hP1
    obtain ⟨hP, hD⟩ := va_join (wr := [(la, .inl (cI, 200, .inl lf))]) (w1 := [(mo, .inr (3, [.int nz, .ref la, .int sq, .ref sa]))]) hP hD [0] [1] rfl rfl (by decide) (by decide) hk1 hFc hP1 hD1
    generalize H1 = H at hP hS ⊢
    have hP := hP.sub (ws' := [(mo, .inr (3, [.int nz, .ref la, .int sq, .ref sa])), (la, .inl (cI, 200, .inl lf))]) [1, 0] rfl
    have hD := hD.sub (ws' := [(mo, .inr (3, [.int nz, .ref la, .int sq, .ref sa])), (la, .inl (cI, 200, .inl lf))]) [1, 0] (by decide) rfl
    refine lv_if_eq hx hb dM_root_13 rfl (fun h5 => ?_) (fun h5 => ?_)
    · rw [if_pos h5] at hf
      refine lv_aload_n hx hb dM_root_24 rfl (lv_at hl 0 rfl) ?_
      refine lv_iconst (v := 0) hx hb dM_root_25 (by decide) ?_
      refine lv_iload_n hx hb dM_root_26 rfl (lv_at hl 1 rfl) ?_
      refine lv_bipush (v := 124) hx hb dM_root_27 (by decide) ?_
      obtain ⟨lf6, hu, hf⟩ := tq_bd_some hf
      have hPc := hP.sub (ws' := [(mo, .inr (3, [.int nz, .ref la, .int sq, .ref sa])), (la, .inl (cI, 200, .inl lf))]) [0, 1] rfl
      have hDc := hD.sub (ws' := [(mo, .inr (3, [.int nz, .ref la, .int sq, .ref sa])), (la, .inl (cI, 200, .inl lf))]) [0, 1] (by decide) rfl
      have hKc := hK.sub (tys' := [(cI, .int)]) [0] rfl
      have hFc := va_free (wc := [(mo, .inr (3, [.int nz, .ref la, .int sq, .ref sa])), (la, .inl (cI, 200, .inl lf))]) hD hS hA [0, 1] rfl
      refine va_callv (va_runV (As := [.int (0 : Int32), .int x, .int (124 : Int32)]) (rest := []) ⟨hx, hb, hml, hown, hww⟩ (c_m_load l dC dI mo la sa cI H.size (0 : Int32) x (124 : Int32) nz sq lf lf6 hu) (cwV 3 hww (tq_gV tqt_367 tqt_369 tqt_8 tqt_35 tqt_370) rfl rfl rfl (by decide +kernel) ⟨Nat.le_of_ble_eq_true rfl, Nat.le_of_ble_eq_true rfl⟩) ⟨fun a U g mk q => by obtain ⟨q0, q1, qP, qK, qD, qN⟩ := q; exact ⟨q0, q1, qP, va_K.moved (u := U) (U := U.calling g mk a) (Vm.Alike.refl U.vm) qK, qD, tqN_same (u := U) (U := U.calling g mk a) rfl qN⟩, va_recv hK hP (ci := 3) rfl (q0 := 0) rfl, fun U hU hW => ⟨rfl, by rw [hU], by rw [hU]; exact hPc, va_K.moved hW.alike hKc, hDc.weaken (fun _ _ _ _ => trivial), tqN_warm hW hN⟩⟩ rfl rfl hl.1 rfl (lv_room (Nat.le_of_ble_eq_true rfl)) dM_root_29 ⟨Nat.zero_le _, Nat.zero_le _⟩) hS (fun q _ h => hFc q h) hFc (fun u0 t H1 locs ht hvm hpost hB hz1 hk1 hS => ?_)
      obtain ⟨hP1, hK1, hD1⟩ := hB
      rw [ht] at hP1
      obtain ⟨hP, hD⟩ := va_join (wr := []) (w1 := [(mo, .inr (3, [.int nz, .ref la, .int sq, .ref sa])), (la, .inl (cI, 200, .inl lf6))]) hP hD [0, 1] [] rfl rfl (by decide) (by decide) hk1 hFc hP1 hD1
      generalize H1 = H at hP hS ⊢
      have hP := hP.sub (ws' := [(mo, .inr (3, [.int nz, .ref la, .int sq, .ref sa])), (la, .inl (cI, 200, .inl lf6))]) [0, 1] rfl
      have hD := hD.sub (ws' := [(mo, .inr (3, [.int nz, .ref la, .int sq, .ref sa])), (la, .inl (cI, 200, .inl lf6))]) [0, 1] (by decide) rfl
      refine lv_aload_n hx hb dM_root_32 rfl (lv_at hl 0 rfl) ?_
      refine lv_iconst (v := 0) hx hb dM_root_33 (by decide) ?_
      refine lv_bipush (v := 124) hx hb dM_root_34 (by decide) ?_
      obtain ⟨lf7, hu, hf⟩ := tq_bd_some hf
      have hPc := hP.sub (ws' := [(mo, .inr (3, [.int nz, .ref la, .int sq, .ref sa])), (la, .inl (cI, 200, .inl lf6))]) [0, 1] rfl
      have hDc := hD.sub (ws' := [(mo, .inr (3, [.int nz, .ref la, .int sq, .ref sa])), (la, .inl (cI, 200, .inl lf6))]) [0, 1] (by decide) rfl
      have hKc := hK.sub (tys' := [(cI, .int)]) [0] rfl
      have hFc := va_free (wc := [(mo, .inr (3, [.int nz, .ref la, .int sq, .ref sa])), (la, .inl (cI, 200, .inl lf6))]) hD hS hA [0, 1] rfl
      refine va_callv (va_runV (As := [.int (0 : Int32), .int (124 : Int32)]) (rest := []) ⟨hx, hb, hml, hown, hww⟩ (c_m_raise l dC dI mo la sa cI H.size (0 : Int32) (124 : Int32) nz sq lf6 lf7 hu) (cwV 2 hww (tq_gV tqt_384 tqt_386 tqt_12 tqt_35 tqt_387) rfl rfl rfl (by decide +kernel) ⟨Nat.le_of_ble_eq_true rfl, Nat.le_of_ble_eq_true rfl⟩) ⟨fun a U g mk q => by obtain ⟨q0, q1, qP, qK, qD, qN⟩ := q; exact ⟨q0, q1, qP, va_K.moved (u := U) (U := U.calling g mk a) (Vm.Alike.refl U.vm) qK, qD, tqN_same (u := U) (U := U.calling g mk a) rfl qN⟩, va_recv hK hP (ci := 3) rfl (q0 := 0) rfl, fun U hU hW => ⟨rfl, by rw [hU], by rw [hU]; exact hPc, va_K.moved hW.alike hKc, hDc.weaken (fun _ _ _ _ => trivial), tqN_warm hW hN⟩⟩ rfl rfl hl.1 rfl (lv_room (Nat.le_of_ble_eq_true rfl)) dM_root_36 ⟨Nat.zero_le _, Nat.zero_le _⟩) hS (fun q _ h => hFc q h) hFc (fun u0 t H1 locs ht hvm hpost hB hz1 hk1 hS => ?_)
      obtain ⟨hP1, hK1, hD1⟩ := hB
      rw [ht] at hP1
      obtain ⟨hP, hD⟩ := va_join (wr := []) (w1 := [(mo, .inr (3, [.int nz, .ref la, .int sq, .ref sa])), (la, .inl (cI, 200, .inl lf7))]) hP hD [0, 1] [] rfl rfl (by decide) (by decide) hk1 hFc hP1 hD1
      generalize H1 = H at hP hS ⊢
      have hP := hP.sub (ws' := [(mo, .inr (3, [.int nz, .ref la, .int sq, .ref sa])), (la, .inl (cI, 200, .inl lf7))]) [0, 1] rfl
      have hD := hD.sub (ws' := [(mo, .inr (3, [.int nz, .ref la, .int sq, .ref sa])), (la, .inl (cI, 200, .inl lf7))]) [0, 1] (by decide) rfl
      refine lv_aload_n hx hb dM_root_39 rfl (lv_at hl 0 rfl) ?_
      refine lv_iconst (v := 1) hx hb dM_root_40 (by decide) ?_
      refine va_put (D := (dC, dI)) (ci := 3) (v := .int (1 : Int32)) (ty := .boolean) (C := RM) (T := TM) (N := 4) hx hb hww tqinM tyM tyM_ok nmM hown hK hP hD hS 0 rfl rfl 2 (by decide) (hww _ tqt_332) (fun _ h9 => h9) rfl (by decide +kernel) (tq_nb_bool (by decide)) (tq_ft_bool (by decide)) (Nat.le_of_ble_eq_true rfl) dM_root_41 (fun H locs hP hD hS => ?_)
      have hP : va_P (dC, dI) tqCl [(mo, .inr (3, [.int nz, .ref la, .int (1 : Int32), .ref sa])), (la, .inl (cI, 200, .inl lf7))] H := hP
      have hD : va_D A [(mo, .inr (3, [.int nz, .ref la, .int (1 : Int32), .ref sa])), (la, .inl (cI, 200, .inl lf7))] := hD
      refine lv_aload_n hx hb dM_root_44 rfl (lv_at hl 0 rfl) ?_
      refine lv_iconst (v := 0) hx hb dM_root_45 (by decide) ?_
      refine lv_aload_n hx hb dM_root_46 rfl (lv_at hl 0 rfl) ?_
      refine va_get (D := (dC, dI)) (ci := 3) (v := .int nz) (C := RM) (T := TM) (N := 4) hx hb hww tqinM hown hK hP 0 rfl rfl 0 (by decide) (hww _ tqt_330) (fun _ h9 => h9) rfl dM_root_47 ?_
      obtain ⟨u, hu, hf⟩ := tq_bd_some hf
      obtain ⟨r8, lf9⟩ := u
      have hf := tq_nm_at (z := r8) rfl hf
      have hf := tq_nm_at (z := lf9) rfl hf
      have hPc := hP.sub (ws' := [(mo, .inr (3, [.int nz, .ref la, .int (1 : Int32), .ref sa])), (la, .inl (cI, 200, .inl lf7))]) [0, 1] rfl
      have hDc := hD.sub (ws' := [(mo, .inr (3, [.int nz, .ref la, .int (1 : Int32), .ref sa])), (la, .inl (cI, 200, .inl lf7))]) [0, 1] (by decide) rfl
      have hKc := hK.sub (tys' := [(cI, .int)]) [0] rfl
      have hFc := va_free (wc := [(mo, .inr (3, [.int nz, .ref la, .int (1 : Int32), .ref sa])), (la, .inl (cI, 200, .inl lf7))]) hD hS hA [0, 1] rfl
      refine va_calli (va_runV (As := [.int (0 : Int32), .int nz]) (rest := []) ⟨hx, hb, hml, hown, hww⟩ (c_m_rounded l dC dI mo la sa cI H.size (0 : Int32) nz nz (1 : Int32) lf7 (r8, lf9) hu) (cwV 2 hww (tq_gV tqt_417 tqt_419 tqt_20 tqt_35 tqt_420) rfl rfl rfl (by decide +kernel) ⟨Nat.le_of_ble_eq_true rfl, Nat.le_of_ble_eq_true rfl⟩) ⟨fun a U g mk q => by obtain ⟨q0, q1, qP, qK, qD, qN⟩ := q; exact ⟨q0, q1, qP, va_K.moved (u := U) (U := U.calling g mk a) (Vm.Alike.refl U.vm) qK, qD, tqN_same (u := U) (U := U.calling g mk a) rfl qN⟩, va_recv hK hP (ci := 3) rfl (q0 := 0) rfl, fun U hU hW => ⟨rfl, by rw [hU], by rw [hU]; exact hPc, va_K.moved hW.alike hKc, hDc.weaken (fun _ _ _ _ => trivial), tqN_warm hW hN⟩⟩ rfl rfl hl.1 rfl (lv_room (Nat.le_of_ble_eq_true rfl)) dM_root_50 ⟨Nat.zero_le _, Nat.zero_le _⟩) hS (fun q _ h => hFc q h) hFc (fun ra u0 t H1 locs ht hvm hpost hB hz1 hk1 hS => ?_)
      have hpost : r8 = ra := (show ra = r8 from hpost).symm
      subst hpost
      obtain ⟨hP1, hK1, hD1⟩ := hB
      rw [ht] at hP1
      obtain ⟨hP, hD⟩ := va_join (wr := []) (w1 := [(mo, .inr (3, [.int nz, .ref la, .int (1 : Int32), .ref sa])), (la, .inl (cI, 200, .inl lf9))]) hP hD [0, 1] [] rfl rfl (by decide) (by decide) hk1 hFc hP1 hD1
      generalize H1 = H at hP hS ⊢
      have hP := hP.sub (ws' := [(mo, .inr (3, [.int nz, .ref la, .int (1 : Int32), .ref sa])), (la, .inl (cI, 200, .inl lf9))]) [0, 1] rfl
      have hD := hD.sub (ws' := [(mo, .inr (3, [.int nz, .ref la, .int (1 : Int32), .ref sa])), (la, .inl (cI, 200, .inl lf9))]) [0, 1] (by decide) rfl
      have hf := Option.some.inj hf
      subst hf
      exact W.iret (v := r8) hx hb hr (fun t ht hW => ⟨⟨r8, (), rfl, rfl, by rw [ht]; exact hP, va_K.moved hW.alike hK, hD⟩, hS.F ht⟩) hS.2.2 dM_root_53
    · rw [if_neg h5] at hf
      exact B16 ls _ _ sq lf hf (lv_sub hl [0] rfl) hP hD hS
