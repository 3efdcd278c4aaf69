set_option maxHeartbeats 4000000 in
set_option maxRecDepth 100000 in
theorem c_m_merge (l : Launch) (dC : Nat → ClassId) (dI : Nat → Nat → Nat) (mo : Nat) (la : Nat) (sa : Nat) (cI : ClassId) (sz : Nat) (q : Int32) (nz : Int32) (sq : Int32) (lf : Nat → Int32) (sf : Nat → Int32) (r : Int32 × (Nat → Int32) × (Nat → Int32)) (hf : m_merge nz lf sf q = some r) : Met l yM_merge tqw_M_merge ({ frames := 2, cells := 0, slots := 0, locals := 45 }) (va_Pc [.ref mo, .int q] (fun U => U.heap.size = sz ∧ va_P (dC, dI) tqCl [(mo, .inr (3, [.int nz, .ref la, .int sq, .ref sa])), (la, .inl (cI, 200, .inl lf)), (sa, .inl (cI, 64, .inl sf))] U.heap ∧ va_K (dC, dI) tqCl [(cI, .int)] U ∧ va_D (fun _ => True) [(mo, .inr (3, [.int nz, .ref la, .int sq, .ref sa])), (la, .inl (cI, 200, .inl lf)), (sa, .inl (cI, 64, .inl sf))] ∧ tqN U)) (va_Qi (fun (a : Int32) (_ : Unit) => a = r.1) (fun (_ : Unit) (t : State) => va_P (dC, dI) tqCl [(mo, .inr (3, [.int nz, .ref la, .int sq, .ref sa])), (la, .inl (cI, 200, .inl r.2.1)), (sa, .inl (cI, 64, .inl r.2.2))] t.heap ∧ va_K (dC, dI) tqCl [(cI, .int)] t ∧ va_D (va_A [(mo, .inr (3, [.int nz, .ref la, .int sq, .ref sa])), (la, .inl (cI, 200, .inl lf)), (sa, .inl (cI, 64, .inl sf))] sz) [(mo, .inr (3, [.int nz, .ref la, .int sq, .ref sa])), (la, .inl (cI, 200, .inl r.2.1)), (sa, .inl (cI, 64, .inl r.2.2))]) (va_A [(mo, .inr (3, [.int nz, .ref la, .int sq, .ref sa])), (la, .inl (cI, 200, .inl lf)), (sa, .inl (cI, 64, .inl sf))] sz)) 0 0 (va_A [(mo, .inr (3, [.int nz, .ref la, .int sq, .ref sa])), (la, .inl (cI, 200, .inl lf)), (sa, .inl (cI, 64, .inl sf))] sz) := by
  refine Met.ofW (cc := cM_merge) (maxL := 2) (ret := (some .boolean)) (by decide) rfl ?_
  intro p e s m args below meth c s₁ B hml hv
  obtain ⟨rfl, hsz, hP, hK, hD0, hN⟩ := hv
  have hx := B.exec
  have hb := B.bytes
  have hr := B.returns
  have hts := atoms_spec (ws := tqw_M_merge) B.pre
  have hww : ∀ w ∈ tqW, w.before _ s = true := fun w h => hts w (List.mem_cons_of_mem _ h)
  have hown : s.vm.findClass RM = some m.cls := findClass_of_methodNamed B.named
  have hlocks := B.notSynchronized
  subst hsz
  have hD := hD0.self (sz := s.heap.size)
  generalize hAe : va_A [(mo, .inr (3, [.int nz, .ref la, .int sq, .ref sa])), (la, .inl (cI, 200, .inl lf)), (sa, .inl (cI, 64, .inl sf))] s.heap.size = A at hD ⊢
  have hA : ∀ q : Nat, s.heap.size ≤ q → A q := fun q h => by rw [← hAe]; exact Or.inr h
  have hS : va_S A s.heap s.heap [] := va_S.rf
  have hP : va_P (dC, dI) tqCl [(mo, .inr (3, [.int nz, .ref la, .int sq, .ref sa])), (la, .inl (cI, 200, .inl lf)), (sa, .inl (cI, 64, .inl sf))] s.heap := hP
  have hl := lv_entry ([.ref mo, .int q]) (n := 2) (Nat.le_of_ble_eq_true rfl)
  rw [lg_entry_eq]
  generalize (lg_sl ([.ref mo, .int q]) ++ List.replicate (2 - (lg_sl ([.ref mo, .int q])).length) Slot.unset).toArray = ls at hl ⊢
  have hl : lv_has ls 2 [(0, .ref mo), (1, .int q)] := hl
  have B24 : ∀ (ls : Array Slot) (H : Heap) (locs : List Loc) (lf : Nat → Int32) (sf : Nat → Int32), m_merge_b24 nz q lf sf = some r → lv_has ls 2 [(0, .ref mo), (1, .int q)] → va_P (dC, dI) tqCl [(mo, .inr (3, [.int nz, .ref la, .int sq, .ref sa])), (la, .inl (cI, 200, .inl lf)), (sa, .inl (cI, 64, .inl sf))] H → va_D A [(mo, .inr (3, [.int nz, .ref la, .int sq, .ref sa])), (la, .inl (cI, 200, .inl lf)), (sa, .inl (cI, 64, .inl sf))] → va_S A s.heap H locs → W p l e ({ frames := 2, cells := 0, slots := 0, locals := 45 }) s m ([.ref mo, .int q] : List Value).toArray below meth c H locs 0 0 (MQ below (va_Qi (fun (a : Int32) (_ : Unit) => a = r.1) (fun (_ : Unit) (t : State) => va_P (dC, dI) tqCl [(mo, .inr (3, [.int nz, .ref la, .int sq, .ref sa])), (la, .inl (cI, 200, .inl r.2.1)), (sa, .inl (cI, 64, .inl r.2.2))] t.heap ∧ va_K (dC, dI) tqCl [(cI, .int)] t ∧ va_D (A) [(mo, .inr (3, [.int nz, .ref la, .int sq, .ref sa])), (la, .inl (cI, 200, .inl r.2.1)), (sa, .inl (cI, 64, .inl r.2.2))]) (A)) ([.ref mo, .int q] : List Value).toArray s 0 0 A) (F0 m 24 ls []) := by
    try clear hf
    intro ls H locs lf sf hf hl hP hD hS
    unfold m_merge_b24 at hf
    refine lv_aload_n hx hb dM_merge_24 rfl (lv_at hl 0 rfl) ?_
    refine lv_iload_n hx hb dM_merge_25 rfl (lv_at hl 1 rfl) ?_
    obtain ⟨r5, hu, hf⟩ := tq_bd_some hf
    have hPc := hP.sub (ws' := [(mo, .inr (3, [.int nz, .ref la, .int sq, .ref sa])), (sa, .inl (cI, 64, .inl sf))]) [0, 2] rfl
    have hDc := hD.sub (ws' := [(mo, .inr (3, [.int nz, .ref la, .int sq, .ref sa])), (sa, .inl (cI, 64, .inl sf))]) [0, 2] (by decide) rfl
    have hKc := hK.sub (tys' := [(cI, .int)]) [0] rfl
    have hFc := va_free (wc := [(mo, .inr (3, [.int nz, .ref la, .int sq, .ref sa])), (sa, .inl (cI, 64, .inl sf))]) hD hS hA [0, 2] rfl
    refine va_calli (va_runV (As := [.int q]) (rest := []) ⟨hx, hb, hml, hown, hww⟩ (c_m_lost l dC dI mo la sa cI H.size q nz sq sf r5 hu) (cwV 1 hww (tq_gV tqt_500 tqt_502 tqt_27 tqt_35 tqt_503) rfl rfl rfl (by decide +kernel) ⟨Nat.le_of_ble_eq_true rfl, Nat.le_of_ble_eq_true rfl⟩) ⟨fun a U g mk q => by obtain ⟨q0, q1, qP, qK, qD, qN⟩ := q; exact ⟨q0, q1, qP, va_K.moved (u := U) (U := U.calling g mk a) (Vm.Alike.refl U.vm) qK, qD, tqN_same (u := U) (U := U.calling g mk a) rfl qN⟩, va_recv hK hP (ci := 3) rfl (q0 := 0) rfl, fun U hU hW => ⟨rfl, by rw [hU], by rw [hU]; exact hPc, va_K.moved hW.alike hKc, hDc.weaken (fun _ _ _ _ => trivial), tqN_warm hW hN⟩⟩ rfl rfl hl.1 rfl (lv_room (Nat.le_of_ble_eq_true rfl)) dM_merge_26 ⟨Nat.zero_le _, Nat.zero_le _⟩) hS (fun q _ h => hFc q h) hFc (fun ra u0 t H1 locs ht hvm hpost hB hz1 hk1 hS => ?_)
    have hpost : r5 = ra := (show ra = r5 from hpost).symm
    subst hpost
    obtain ⟨hP1, hK1, hD1⟩ := hB
    rw [ht] at hP1
    obtain ⟨hP, hD⟩ := va_join (wr := [(la, .inl (cI, 200, .inl lf))]) (w1 := [(mo, .inr (3, [.int nz, .ref la, .int sq, .ref sa])), (sa, .inl (cI, 64, .inl sf))]) hP hD [0, 2] [1] rfl rfl (by decide) (by decide) hk1 hFc hP1 hD1
    generalize H1 = H at hP hS ⊢
    have hP := hP.sub (ws' := [(mo, .inr (3, [.int nz, .ref la, .int sq, .ref sa])), (la, .inl (cI, 200, .inl lf)), (sa, .inl (cI, 64, .inl sf))]) [1, 0, 2] rfl
    have hD := hD.sub (ws' := [(mo, .inr (3, [.int nz, .ref la, .int sq, .ref sa])), (la, .inl (cI, 200, .inl lf)), (sa, .inl (cI, 64, .inl sf))]) [1, 0, 2] (by decide) rfl
    refine lv_if_eq hx hb dM_merge_29 rfl (fun h6 => ?_) (fun h6 => ?_)
    · rw [if_pos h6] at hf
      refine lv_aload_n hx hb dM_merge_34 rfl (lv_at hl 0 rfl) ?_
      refine lv_iconst (v := 1) hx hb dM_merge_35 (by decide) ?_
      refine lv_iload_n hx hb dM_merge_36 rfl (lv_at hl 1 rfl) ?_
      refine lv_isub hx hb dM_merge_37 ?_
      refine lv_iconst (v := 0) hx hb dM_merge_38 (by decide) ?_
      obtain ⟨lf7, hu, hf⟩ := tq_bd_some hf
      have hPc := hP.sub (ws' := [(mo, .inr (3, [.int nz, .ref la, .int sq, .ref sa])), (la, .inl (cI, 200, .inl lf)), (sa, .inl (cI, 64, .inl sf))]) [0, 1, 2] rfl
      have hDc := hD.sub (ws' := [(mo, .inr (3, [.int nz, .ref la, .int sq, .ref sa])), (la, .inl (cI, 200, .inl lf)), (sa, .inl (cI, 64, .inl sf))]) [0, 1, 2] (by decide) rfl
      have hKc := hK.sub (tys' := [(cI, .int)]) [0] rfl
      have hFc := va_free (wc := [(mo, .inr (3, [.int nz, .ref la, .int sq, .ref sa])), (la, .inl (cI, 200, .inl lf)), (sa, .inl (cI, 64, .inl sf))]) hD hS hA [0, 1, 2] rfl
      refine va_callv (va_runV (As := [.int ((1 : Int32) - q), .int (0 : Int32)]) (rest := []) ⟨hx, hb, hml, hown, hww⟩ (c_m_draw l dC dI mo la sa cI H.size ((1 : Int32) - q) (0 : Int32) nz sq lf sf lf7 hu) (cwV 2 hww (tq_gV tqt_512 tqt_514 tqt_29 tqt_35 tqt_515) rfl rfl rfl (by decide +kernel) ⟨Nat.le_of_ble_eq_true rfl, Nat.le_of_ble_eq_true rfl⟩) ⟨fun a U g mk q => by obtain ⟨q0, q1, qP, qK, qD, qN⟩ := q; exact ⟨q0, q1, qP, va_K.moved (u := U) (U := U.calling g mk a) (Vm.Alike.refl U.vm) qK, qD, tqN_same (u := U) (U := U.calling g mk a) rfl qN⟩, va_recv hK hP (ci := 3) rfl (q0 := 0) rfl, fun U hU hW => ⟨rfl, by rw [hU], by rw [hU]; exact hPc, va_K.moved hW.alike hKc, hDc.weaken (fun _ _ _ _ => trivial), tqN_warm hW hN⟩⟩ rfl rfl hl.1 rfl (lv_room (Nat.le_of_ble_eq_true rfl)) dM_merge_39 ⟨Nat.zero_le _, Nat.zero_le _⟩) hS (fun q _ h => hFc q h) hFc (fun u0 t H1 locs ht hvm hpost hB hz1 hk1 hS => ?_)
      obtain ⟨hP1, hK1, hD1⟩ := hB
      rw [ht] at hP1
      obtain ⟨hP, hD⟩ := va_join (wr := []) (w1 := [(mo, .inr (3, [.int nz, .ref la, .int sq, .ref sa])), (la, .inl (cI, 200, .inl lf7)), (sa, .inl (cI, 64, .inl sf))]) hP hD [0, 1, 2] [] rfl rfl (by decide) (by decide) hk1 hFc hP1 hD1
      generalize H1 = H at hP hS ⊢
      have hP := hP.sub (ws' := [(mo, .inr (3, [.int nz, .ref la, .int sq, .ref sa])), (la, .inl (cI, 200, .inl lf7)), (sa, .inl (cI, 64, .inl sf))]) [0, 1, 2] rfl
      have hD := hD.sub (ws' := [(mo, .inr (3, [.int nz, .ref la, .int sq, .ref sa])), (la, .inl (cI, 200, .inl lf7)), (sa, .inl (cI, 64, .inl sf))]) [0, 1, 2] (by decide) rfl
      refine lv_aload_n hx hb dM_merge_42 rfl (lv_at hl 0 rfl) ?_
      refine lv_iload_n hx hb dM_merge_43 rfl (lv_at hl 1 rfl) ?_
      refine lv_iconst (v := 0) hx hb dM_merge_44 (by decide) ?_
      refine lv_iconst (v := 0) hx hb dM_merge_45 (by decide) ?_
      obtain ⟨sf8, hu, hf⟩ := tq_bd_some hf
      have hPc := hP.sub (ws' := [(mo, .inr (3, [.int nz, .ref la, .int sq, .ref sa])), (la, .inl (cI, 200, .inl lf7)), (sa, .inl (cI, 64, .inl sf))]) [0, 1, 2] rfl
      have hDc := hD.sub (ws' := [(mo, .inr (3, [.int nz, .ref la, .int sq, .ref sa])), (la, .inl (cI, 200, .inl lf7)), (sa, .inl (cI, 64, .inl sf))]) [0, 1, 2] (by decide) rfl
      have hKc := hK.sub (tys' := [(cI, .int)]) [0] rfl
      have hFc := va_free (wc := [(mo, .inr (3, [.int nz, .ref la, .int sq, .ref sa])), (la, .inl (cI, 200, .inl lf7)), (sa, .inl (cI, 64, .inl sf))]) hD hS hA [0, 1, 2] rfl
      refine va_callv (va_runV (As := [.int q, .int (0 : Int32), .int (0 : Int32)]) (rest := []) ⟨hx, hb, hml, hown, hww⟩ (c_m_pour l dC dI mo la sa cI H.size q (0 : Int32) (0 : Int32) nz sq lf7 sf sf8 hu) (cwV 3 hww (tq_gV tqt_504 tqt_506 tqt_28 tqt_35 tqt_507) rfl rfl rfl (by decide +kernel) ⟨Nat.le_of_ble_eq_true rfl, Nat.le_of_ble_eq_true rfl⟩) ⟨fun a U g mk q => by obtain ⟨q0, q1, qP, qK, qD, qN⟩ := q; exact ⟨q0, q1, qP, va_K.moved (u := U) (U := U.calling g mk a) (Vm.Alike.refl U.vm) qK, qD, tqN_same (u := U) (U := U.calling g mk a) rfl qN⟩, va_recv hK hP (ci := 3) rfl (q0 := 0) rfl, fun U hU hW => ⟨rfl, by rw [hU], by rw [hU]; exact hPc, va_K.moved hW.alike hKc, hDc.weaken (fun _ _ _ _ => trivial), tqN_warm hW hN⟩⟩ rfl rfl hl.1 rfl (lv_room (Nat.le_of_ble_eq_true rfl)) dM_merge_46 ⟨Nat.zero_le _, Nat.zero_le _⟩) hS (fun q _ h => hFc q h) hFc (fun u0 t H1 locs ht hvm hpost hB hz1 hk1 hS => ?_)
      obtain ⟨hP1, hK1, hD1⟩ := hB
      rw [ht] at hP1
      obtain ⟨hP, hD⟩ := va_join (wr := []) (w1 := [(mo, .inr (3, [.int nz, .ref la, .int sq, .ref sa])), (la, .inl (cI, 200, .inl lf7)), (sa, .inl (cI, 64, .inl sf8))]) hP hD [0, 1, 2] [] rfl rfl (by decide) (by decide) hk1 hFc hP1 hD1
      generalize H1 = H at hP hS ⊢
      have hP := hP.sub (ws' := [(mo, .inr (3, [.int nz, .ref la, .int sq, .ref sa])), (la, .inl (cI, 200, .inl lf7)), (sa, .inl (cI, 64, .inl sf8))]) [0, 1, 2] rfl
      have hD := hD.sub (ws' := [(mo, .inr (3, [.int nz, .ref la, .int sq, .ref sa])), (la, .inl (cI, 200, .inl lf7)), (sa, .inl (cI, 64, .inl sf8))]) [0, 1, 2] (by decide) rfl
      refine lv_iconst (v := 1) hx hb dM_merge_49 (by decide) ?_
      have hf := Option.some.inj hf
      subst hf
      exact W.zret (v := (1 : Int32)) hx hb hr (tq_nb_bool (by decide)) (fun t ht hW => ⟨⟨(1 : Int32), (), rfl, rfl, by rw [ht]; exact hP, va_K.moved hW.alike hK, hD⟩, hS.F ht⟩) hS.2.2 dM_merge_50
    · rw [if_neg h6] at hf
      refine lv_iconst (v := 1) hx hb dM_merge_32 (by decide) ?_
      have hf := Option.some.inj hf
      subst hf
      exact W.zret (v := (1 : Int32)) hx hb hr (tq_nb_bool (by decide)) (fun t ht hW => ⟨⟨(1 : Int32), (), rfl, rfl, by rw [ht]; exact hP, va_K.moved hW.alike hK, hD⟩, hS.F ht⟩) hS.2.2 dM_merge_33
  unfold m_merge at hf
  refine lv_iload_n hx hb dM_merge_0 rfl (lv_at hl 1 rfl) ?_
  have hPc := hP.sub (ws' := []) [] rfl
  have hDc := hD.sub (ws' := []) [] (by decide) rfl
  have hKc := hK.sub (tys' := []) [] rfl
  have hFc := va_free (wc := []) hD hS hA [] rfl
  refine va_calli (va_runS (As := [.int q]) (rest := []) ⟨hx, hb, hml, hown, hww⟩ (c_m_isSum l dC dI s.heap.size q (m_isSum q) rfl) (va_cwS 1 hww (tq_gS tqt_488 tqt_489 tqt_35 tqt_490) rfl rfl rfl (by decide +kernel) ⟨Nat.le_of_ble_eq_true rfl, Nat.le_of_ble_eq_true rfl⟩) ⟨fun a U g mk q => by obtain ⟨q0, q1, qP, qK, qD, qN⟩ := q; exact ⟨q0, q1, qP, va_K.moved (u := U) (U := U.calling g mk a) (Vm.Alike.refl U.vm) qK, qD, tqN_same (u := U) (U := U.calling g mk a) rfl qN⟩, fun U hU hW => ⟨rfl, by rw [hU], by rw [hU]; exact hPc, va_K.moved hW.alike hKc, hDc.weaken (fun _ _ _ _ => trivial), tqN_warm hW hN⟩⟩ rfl rfl hl.1 rfl (lv_room (Nat.le_of_ble_eq_true rfl)) dM_merge_1 ⟨Nat.zero_le _, Nat.zero_le _⟩) hS (fun q _ h => hFc q h) hFc (fun ra u0 t H1 locs ht hvm hpost hB hz1 hk1 hS => ?_)
  have hpost : (m_isSum q) = ra := (show ra = (m_isSum q) from hpost).symm
  subst hpost
  obtain ⟨hP1, hK1, hD1⟩ := hB
  rw [ht] at hP1
  obtain ⟨hP, hD⟩ := va_join (wr := [(mo, .inr (3, [.int nz, .ref la, .int sq, .ref sa])), (la, .inl (cI, 200, .inl lf)), (sa, .inl (cI, 64, .inl sf))]) (w1 := []) hP hD [] [0, 1, 2] rfl rfl (by decide) (by decide) hk1 hFc hP1 hD1
  generalize H1 = H at hP hS ⊢
  have hP := hP.sub (ws' := [(mo, .inr (3, [.int nz, .ref la, .int sq, .ref sa])), (la, .inl (cI, 200, .inl lf)), (sa, .inl (cI, 64, .inl sf))]) [0, 1, 2] rfl
  have hD := hD.sub (ws' := [(mo, .inr (3, [.int nz, .ref la, .int sq, .ref sa])), (la, .inl (cI, 200, .inl lf)), (sa, .inl (cI, 64, .inl sf))]) [0, 1, 2] (by decide) rfl
  refine lv_if_ne hx hb dM_merge_4 rfl (fun h2 => ?_) (fun h2 => ?_)
  · rw [if_pos h2] at hf
    refine lv_aload_n hx hb dM_merge_9 rfl (lv_at hl 0 rfl) ?_
    refine lv_iconst (v := 1) hx hb dM_merge_10 (by decide) ?_
    refine lv_iload_n hx hb dM_merge_11 rfl (lv_at hl 1 rfl) ?_
    refine lv_isub hx hb dM_merge_12 ?_
    obtain ⟨r3, hu, hf⟩ := tq_bd_some hf
    have hPc := hP.sub (ws' := [(mo, .inr (3, [.int nz, .ref la, .int sq, .ref sa])), (sa, .inl (cI, 64, .inl sf))]) [0, 2] rfl
    have hDc := hD.sub (ws' := [(mo, .inr (3, [.int nz, .ref la, .int sq, .ref sa])), (sa, .inl (cI, 64, .inl sf))]) [0, 2] (by decide) rfl
    have hKc := hK.sub (tys' := [(cI, .int)]) [0] rfl
    have hFc := va_free (wc := [(mo, .inr (3, [.int nz, .ref la, .int sq, .ref sa])), (sa, .inl (cI, 64, .inl sf))]) hD hS hA [0, 2] rfl
    refine va_calli (va_runV (As := [.int ((1 : Int32) - q)]) (rest := []) ⟨hx, hb, hml, hown, hww⟩ (c_m_lost l dC dI mo la sa cI H.size ((1 : Int32) - q) nz sq sf r3 hu) (cwV 1 hww (tq_gV tqt_500 tqt_502 tqt_27 tqt_35 tqt_503) rfl rfl rfl (by decide +kernel) ⟨Nat.le_of_ble_eq_true rfl, Nat.le_of_ble_eq_true rfl⟩) ⟨fun a U g mk q => by obtain ⟨q0, q1, qP, qK, qD, qN⟩ := q; exact ⟨q0, q1, qP, va_K.moved (u := U) (U := U.calling g mk a) (Vm.Alike.refl U.vm) qK, qD, tqN_same (u := U) (U := U.calling g mk a) rfl qN⟩, va_recv hK hP (ci := 3) rfl (q0 := 0) rfl, fun U hU hW => ⟨rfl, by rw [hU], by rw [hU]; exact hPc, va_K.moved hW.alike hKc, hDc.weaken (fun _ _ _ _ => trivial), tqN_warm hW hN⟩⟩ rfl rfl hl.1 rfl (lv_room (Nat.le_of_ble_eq_true rfl)) dM_merge_13 ⟨Nat.zero_le _, Nat.zero_le _⟩) hS (fun q _ h => hFc q h) hFc (fun ra u0 t H1 locs ht hvm hpost hB hz1 hk1 hS => ?_)
    have hpost : r3 = ra := (show ra = r3 from hpost).symm
    subst hpost
    obtain ⟨hP1, hK1, hD1⟩ := hB
    rw [ht] at hP1
    obtain ⟨hP, hD⟩ := va_join (wr := [(la, .inl (cI, 200, .inl lf))]) (w1 := [(mo, .inr (3, [.int nz, .ref la, .int sq, .ref sa])), (sa, .inl (cI, 64, .inl sf))]) hP hD [0, 2] [1] rfl rfl (by decide) (by decide) hk1 hFc hP1 hD1
    generalize H1 = H at hP hS ⊢
    have hP := hP.sub (ws' := [(mo, .inr (3, [.int nz, .ref la, .int sq, .ref sa])), (la, .inl (cI, 200, .inl lf)), (sa, .inl (cI, 64, .inl sf))]) [1, 0, 2] rfl
    have hD := hD.sub (ws' := [(mo, .inr (3, [.int nz, .ref la, .int sq, .ref sa])), (la, .inl (cI, 200, .inl lf)), (sa, .inl (cI, 64, .inl sf))]) [1, 0, 2] (by decide) rfl
    refine lv_if_eq hx hb dM_merge_16 rfl (fun h4 => ?_) (fun h4 => ?_)
    · rw [if_pos h4] at hf
      exact B24 ls _ _ lf sf hf (lv_sub hl [0, 1] rfl) hP hD hS
    · rw [if_neg h4] at hf
      refine lv_aload_n hx hb dM_merge_19 rfl (lv_at hl 0 rfl) ?_
      refine lv_iload_n hx hb dM_merge_20 rfl (lv_at hl 1 rfl) ?_
      obtain ⟨sf9, hu, hf⟩ := tq_bd_some hf
      have hPc := hP.sub (ws' := [(mo, .inr (3, [.int nz, .ref la, .int sq, .ref sa])), (sa, .inl (cI, 64, .inl sf))]) [0, 2] rfl
      have hDc := hD.sub (ws' := [(mo, .inr (3, [.int nz, .ref la, .int sq, .ref sa])), (sa, .inl (cI, 64, .inl sf))]) [0, 2] (by decide) rfl
      have hKc := hK.sub (tys' := [(cI, .int)]) [0] rfl
      have hFc := va_free (wc := [(mo, .inr (3, [.int nz, .ref la, .int sq, .ref sa])), (sa, .inl (cI, 64, .inl sf))]) hD hS hA [0, 2] rfl
      refine va_callv (va_runV (As := [.int q]) (rest := []) ⟨hx, hb, hml, hown, hww⟩ (c_m_lose l dC dI mo la sa cI H.size q nz sq sf sf9 hu) (cwV 1 hww (tq_gV tqt_495 tqt_497 tqt_26 tqt_35 tqt_498) rfl rfl rfl (by decide +kernel) ⟨Nat.le_of_ble_eq_true rfl, Nat.le_of_ble_eq_true rfl⟩) ⟨fun a U g mk q => by obtain ⟨q0, q1, qP, qK, qD, qN⟩ := q; exact ⟨q0, q1, qP, va_K.moved (u := U) (U := U.calling g mk a) (Vm.Alike.refl U.vm) qK, qD, tqN_same (u := U) (U := U.calling g mk a) rfl qN⟩, va_recv hK hP (ci := 3) rfl (q0 := 0) rfl, fun U hU hW => ⟨rfl, by rw [hU], by rw [hU]; exact hPc, va_K.moved hW.alike hKc, hDc.weaken (fun _ _ _ _ => trivial), tqN_warm hW hN⟩⟩ rfl rfl hl.1 rfl (lv_room (Nat.le_of_ble_eq_true rfl)) dM_merge_21 ⟨Nat.zero_le _, Nat.zero_le _⟩) hS (fun q _ h => hFc q h) hFc (fun u0 t H1 locs ht hvm hpost hB hz1 hk1 hS => ?_)
      obtain ⟨hP1, hK1, hD1⟩ := hB
      rw [ht] at hP1
      obtain ⟨hP, hD⟩ := va_join (wr := [(la, .inl (cI, 200, .inl lf))]) (w1 := [(mo, .inr (3, [.int nz, .ref la, .int sq, .ref sa])), (sa, .inl (cI, 64, .inl sf9))]) hP hD [0, 2] [1] rfl rfl (by decide) (by decide) hk1 hFc hP1 hD1
      generalize H1 = H at hP hS ⊢
      have hP := hP.sub (ws' := [(mo, .inr (3, [.int nz, .ref la, .int sq, .ref sa])), (la, .inl (cI, 200, .inl lf)), (sa, .inl (cI, 64, .inl sf9))]) [1, 0, 2] rfl
      have hD := hD.sub (ws' := [(mo, .inr (3, [.int nz, .ref la, .int sq, .ref sa])), (la, .inl (cI, 200, .inl lf)), (sa, .inl (cI, 64, .inl sf9))]) [1, 0, 2] (by decide) rfl
      exact B24 ls _ _ lf sf9 hf (lv_sub hl [0, 1] rfl) hP hD hS
  · rw [if_neg (fun q : ¬ (m_isSum q) = 0 => q h2)] at hf
    refine lv_iconst (v := 0) hx hb dM_merge_7 (by decide) ?_
    have hf := Option.some.inj hf
    subst hf
    exact W.zret (v := (0 : Int32)) hx hb hr (tq_nb_bool (by decide)) (fun t ht hW => ⟨⟨(0 : Int32), (), rfl, rfl, by rw [ht]; exact hP, va_K.moved hW.alike hK, hD⟩, hS.F ht⟩) hS.2.2 dM_merge_8
set_option maxHeartbeats 4000000 in
set_option maxRecDepth 100000 in
theorem c_m_negate (l : Launch) (dC : Nat → ClassId) (dI : Nat → Nat → Nat) (mo : Nat) (la : Nat) (sa : Nat) (cI : ClassId) (sz : Nat) (q : Int32) (nz : Int32) (sq : Int32) (lf : Nat → Int32) (sf : Nat → Int32) (r : Int32 × (Nat → Int32) × (Nat → Int32)) (hf : m_negate nz lf sf q = some r) : Met l yM_negate tqw_M_negate ({ frames := 2, cells := 0, slots := 0, locals := 45 }) (va_Pc [.ref mo, .int q] (fun U => U.heap.size = sz ∧ va_P (dC, dI) tqCl [(mo, .inr (3, [.int nz, .ref la, .int sq, .ref sa])), (la, .inl (cI, 200, .inl lf)), (sa, .inl (cI, 64, .inl sf))] U.heap ∧ va_K (dC, dI) tqCl [(cI, .int)] U ∧ va_D (fun _ => True) [(mo, .inr (3, [.int nz, .ref la, .int sq, .ref sa])), (la, .inl (cI, 200, .inl lf)), (sa, .inl (cI, 64, .inl sf))] ∧ tqN U)) (va_Qi (fun (a : Int32) (_ : Unit) => a = r.1) (fun (_ : Unit) (t : State) => va_P (dC, dI) tqCl [(mo, .inr (3, [.int nz, .ref la, .int sq, .ref sa])), (la, .inl (cI, 200, .inl r.2.1)), (sa, .inl (cI, 64, .inl r.2.2))] t.heap ∧ va_K (dC, dI) tqCl [(cI, .int)] t ∧ va_D (va_A [(mo, .inr (3, [.int nz, .ref la, .int sq, .ref sa])), (la, .inl (cI, 200, .inl lf)), (sa, .inl (cI, 64, .inl sf))] sz) [(mo, .inr (3, [.int nz, .ref la, .int sq, .ref sa])), (la, .inl (cI, 200, .inl r.2.1)), (sa, .inl (cI, 64, .inl r.2.2))]) (va_A [(mo, .inr (3, [.int nz, .ref la, .int sq, .ref sa])), (la, .inl (cI, 200, .inl lf)), (sa, .inl (cI, 64, .inl sf))] sz)) 0 0 (va_A [(mo, .inr (3, [.int nz, .ref la, .int sq, .ref sa])), (la, .inl (cI, 200, .inl lf)), (sa, .inl (cI, 64, .inl sf))] sz) := by
  refine Met.ofW (cc := cM_negate) (maxL := 2) (ret := (some .boolean)) (by decide) rfl ?_
  intro p e s m args below meth c s₁ B hml hv
  obtain ⟨rfl, hsz, hP, hK, hD0, hN⟩ := hv
  have hx := B.exec
  have hb := B.bytes
  have hr := B.returns
  have hts := atoms_spec (ws := tqw_M_negate) B.pre
  have hww : ∀ w ∈ tqW, w.before _ s = true := fun w h => hts w (List.mem_cons_of_mem _ h)
  have hown : s.vm.findClass RM = some m.cls := findClass_of_methodNamed B.named
  have hlocks := B.notSynchronized
  subst hsz
  have hD := hD0.self (sz := s.heap.size)
  generalize hAe : va_A [(mo, .inr (3, [.int nz, .ref la, .int sq, .ref sa])), (la, .inl (cI, 200, .inl lf)), (sa, .inl (cI, 64, .inl sf))] s.heap.size = A at hD ⊢
  have hA : ∀ q : Nat, s.heap.size ≤ q → A q := fun q h => by rw [← hAe]; exact Or.inr h
  have hS : va_S A s.heap s.heap [] := va_S.rf
  have hP : va_P (dC, dI) tqCl [(mo, .inr (3, [.int nz, .ref la, .int sq, .ref sa])), (la, .inl (cI, 200, .inl lf)), (sa, .inl (cI, 64, .inl sf))] s.heap := hP
  have hl := lv_entry ([.ref mo, .int q]) (n := 2) (Nat.le_of_ble_eq_true rfl)
  rw [lg_entry_eq]
  generalize (lg_sl ([.ref mo, .int q]) ++ List.replicate (2 - (lg_sl ([.ref mo, .int q])).length) Slot.unset).toArray = ls at hl ⊢
  have hl : lv_has ls 2 [(0, .ref mo), (1, .int q)] := hl
  unfold m_negate at hf
  refine lv_iload_n hx hb dM_negate_0 rfl (lv_at hl 1 rfl) ?_
  have hPc := hP.sub (ws' := []) [] rfl
  have hDc := hD.sub (ws' := []) [] (by decide) rfl
  have hKc := hK.sub (tys' := []) [] rfl
  have hFc := va_free (wc := []) hD hS hA [] rfl
  refine va_calli (va_runS (As := [.int q]) (rest := []) ⟨hx, hb, hml, hown, hww⟩ (c_m_isSum l dC dI s.heap.size q (m_isSum q) rfl) (va_cwS 1 hww (tq_gS tqt_488 tqt_489 tqt_35 tqt_490) rfl rfl rfl (by decide +kernel) ⟨Nat.le_of_ble_eq_true rfl, Nat.le_of_ble_eq_true rfl⟩) ⟨fun a U g mk q => by obtain ⟨q0, q1, qP, qK, qD, qN⟩ := q; exact ⟨q0, q1, qP, va_K.moved (u := U) (U := U.calling g mk a) (Vm.Alike.refl U.vm) qK, qD, tqN_same (u := U) (U := U.calling g mk a) rfl qN⟩, fun U hU hW => ⟨rfl, by rw [hU], by rw [hU]; exact hPc, va_K.moved hW.alike hKc, hDc.weaken (fun _ _ _ _ => trivial), tqN_warm hW hN⟩⟩ rfl rfl hl.1 rfl (lv_room (Nat.le_of_ble_eq_true rfl)) dM_negate_1 ⟨Nat.zero_le _, Nat.zero_le _⟩) hS (fun q _ h => hFc q h) hFc (fun ra u0 t H1 locs ht hvm hpost hB hz1 hk1 hS => ?_)
  have hpost : (m_isSum q) = ra := (show ra = (m_isSum q) from hpost).symm
  subst hpost
  obtain ⟨hP1, hK1, hD1⟩ := hB
  rw [ht] at hP1
  obtain ⟨hP, hD⟩ := va_join (wr := [(mo, .inr (3, [.int nz, .ref la, .int sq, .ref sa])), (la, .inl (cI, 200, .inl lf)), (sa, .inl (cI, 64, .inl sf))]) (w1 := []) hP hD [] [0, 1, 2] rfl rfl (by decide) (by decide) hk1 hFc hP1 hD1
  generalize H1 = H at hP hS ⊢
  have hP := hP.sub (ws' := [(mo, .inr (3, [.int nz, .ref la, .int sq, .ref sa])), (la, .inl (cI, 200, .inl lf)), (sa, .inl (cI, 64, .inl sf))]) [0, 1, 2] rfl
  have hD := hD.sub (ws' := [(mo, .inr (3, [.int nz, .ref la, .int sq, .ref sa])), (la, .inl (cI, 200, .inl lf)), (sa, .inl (cI, 64, .inl sf))]) [0, 1, 2] (by decide) rfl
  refine lv_if_ne hx hb dM_negate_4 rfl (fun h2 => ?_) (fun h2 => ?_)
  · rw [if_pos h2] at hf
    refine lv_aload_n hx hb dM_negate_9 rfl (lv_at hl 0 rfl) ?_
    refine lv_iload_n hx hb dM_negate_10 rfl (lv_at hl 1 rfl) ?_
    refine lv_iconst (v := 0) hx hb dM_negate_11 (by decide) ?_
    obtain ⟨lf3, hu, hf⟩ := tq_bd_some hf
    have hPc := hP.sub (ws' := [(mo, .inr (3, [.int nz, .ref la, .int sq, .ref sa])), (la, .inl (cI, 200, .inl lf)), (sa, .inl (cI, 64, .inl sf))]) [0, 1, 2] rfl
    have hDc := hD.sub (ws' := [(mo, .inr (3, [.int nz, .ref la, .int sq, .ref sa])), (la, .inl (cI, 200, .inl lf)), (sa, .inl (cI, 64, .inl sf))]) [0, 1, 2] (by decide) rfl
    have hKc := hK.sub (tys' := [(cI, .int)]) [0] rfl
    have hFc := va_free (wc := [(mo, .inr (3, [.int nz, .ref la, .int sq, .ref sa])), (la, .inl (cI, 200, .inl lf)), (sa, .inl (cI, 64, .inl sf))]) hD hS hA [0, 1, 2] rfl
    refine va_callv (va_runV (As := [.int q, .int (0 : Int32)]) (rest := []) ⟨hx, hb, hml, hown, hww⟩ (c_m_draw l dC dI mo la sa cI H.size q (0 : Int32) nz sq lf sf lf3 hu) (cwV 2 hww (tq_gV tqt_512 tqt_514 tqt_29 tqt_35 tqt_515) rfl rfl rfl (by decide +kernel) ⟨Nat.le_of_ble_eq_true rfl, Nat.le_of_ble_eq_true rfl⟩) ⟨fun a U g mk q => by obtain ⟨q0, q1, qP, qK, qD, qN⟩ := q; exact ⟨q0, q1, qP, va_K.moved (u := U) (U := U.calling g mk a) (Vm.Alike.refl U.vm) qK, qD, tqN_same (u := U) (U := U.calling g mk a) rfl qN⟩, va_recv hK hP (ci := 3) rfl (q0 := 0) rfl, fun U hU hW => ⟨rfl, by rw [hU], by rw [hU]; exact hPc, va_K.moved hW.alike hKc, hDc.weaken (fun _ _ _ _ => trivial), tqN_warm hW hN⟩⟩ rfl rfl hl.1 rfl (lv_room (Nat.le_of_ble_eq_true rfl)) dM_negate_12 ⟨Nat.zero_le _, Nat.zero_le _⟩) hS (fun q _ h => hFc q h) hFc (fun u0 t H1 locs ht hvm hpost hB hz1 hk1 hS => ?_)
    obtain ⟨hP1, hK1, hD1⟩ := hB
    rw [ht] at hP1
    obtain ⟨hP, hD⟩ := va_join (wr := []) (w1 := [(mo, .inr (3, [.int nz, .ref la, .int sq, .ref sa])), (la, .inl (cI, 200, .inl lf3)), (sa, .inl (cI, 64, .inl sf))]) hP hD [0, 1, 2] [] rfl rfl (by decide) (by decide) hk1 hFc hP1 hD1
    generalize H1 = H at hP hS ⊢
    have hP := hP.sub (ws' := [(mo, .inr (3, [.int nz, .ref la, .int sq, .ref sa])), (la, .inl (cI, 200, .inl lf3)), (sa, .inl (cI, 64, .inl sf))]) [0, 1, 2] rfl
    have hD := hD.sub (ws' := [(mo, .inr (3, [.int nz, .ref la, .int sq, .ref sa])), (la, .inl (cI, 200, .inl lf3)), (sa, .inl (cI, 64, .inl sf))]) [0, 1, 2] (by decide) rfl
    refine lv_aload_n hx hb dM_negate_15 rfl (lv_at hl 0 rfl) ?_
    refine lv_iload_n hx hb dM_negate_16 rfl (lv_at hl 1 rfl) ?_
    refine lv_iconst (v := 0) hx hb dM_negate_17 (by decide) ?_
    refine lv_iconst (v := 1) hx hb dM_negate_18 (by decide) ?_
    obtain ⟨sf4, hu, hf⟩ := tq_bd_some hf
    have hPc := hP.sub (ws' := [(mo, .inr (3, [.int nz, .ref la, .int sq, .ref sa])), (la, .inl (cI, 200, .inl lf3)), (sa, .inl (cI, 64, .inl sf))]) [0, 1, 2] rfl
    have hDc := hD.sub (ws' := [(mo, .inr (3, [.int nz, .ref la, .int sq, .ref sa])), (la, .inl (cI, 200, .inl lf3)), (sa, .inl (cI, 64, .inl sf))]) [0, 1, 2] (by decide) rfl
    have hKc := hK.sub (tys' := [(cI, .int)]) [0] rfl
    have hFc := va_free (wc := [(mo, .inr (3, [.int nz, .ref la, .int sq, .ref sa])), (la, .inl (cI, 200, .inl lf3)), (sa, .inl (cI, 64, .inl sf))]) hD hS hA [0, 1, 2] rfl
    refine va_callv (va_runV (As := [.int q, .int (0 : Int32), .int (1 : Int32)]) (rest := []) ⟨hx, hb, hml, hown, hww⟩ (c_m_pour l dC dI mo la sa cI H.size q (0 : Int32) (1 : Int32) nz sq lf3 sf sf4 hu) (cwV 3 hww (tq_gV tqt_504 tqt_506 tqt_28 tqt_35 tqt_507) rfl rfl rfl (by decide +kernel) ⟨Nat.le_of_ble_eq_true rfl, Nat.le_of_ble_eq_true rfl⟩) ⟨fun a U g mk q => by obtain ⟨q0, q1, qP, qK, qD, qN⟩ := q; exact ⟨q0, q1, qP, va_K.moved (u := U) (U := U.calling g mk a) (Vm.Alike.refl U.vm) qK, qD, tqN_same (u := U) (U := U.calling g mk a) rfl qN⟩, va_recv hK hP (ci := 3) rfl (q0 := 0) rfl, fun U hU hW => ⟨rfl, by rw [hU], by rw [hU]; exact hPc, va_K.moved hW.alike hKc, hDc.weaken (fun _ _ _ _ => trivial), tqN_warm hW hN⟩⟩ rfl rfl hl.1 rfl (lv_room (Nat.le_of_ble_eq_true rfl)) dM_negate_19 ⟨Nat.zero_le _, Nat.zero_le _⟩) hS (fun q _ h => hFc q h) hFc (fun u0 t H1 locs ht hvm hpost hB hz1 hk1 hS => ?_)
    obtain ⟨hP1, hK1, hD1⟩ := hB
    rw [ht] at hP1
    obtain ⟨hP, hD⟩ := va_join (wr := []) (w1 := [(mo, .inr (3, [.int nz, .ref la, .int sq, .ref sa])), (la, .inl (cI, 200, .inl lf3)), (sa, .inl (cI, 64, .inl sf4))]) hP hD [0, 1, 2] [] rfl rfl (by decide) (by decide) hk1 hFc hP1 hD1
    generalize H1 = H at hP hS ⊢
    have hP := hP.sub (ws' := [(mo, .inr (3, [.int nz, .ref la, .int sq, .ref sa])), (la, .inl (cI, 200, .inl lf3)), (sa, .inl (cI, 64, .inl sf4))]) [0, 1, 2] rfl
    have hD := hD.sub (ws' := [(mo, .inr (3, [.int nz, .ref la, .int sq, .ref sa])), (la, .inl (cI, 200, .inl lf3)), (sa, .inl (cI, 64, .inl sf4))]) [0, 1, 2] (by decide) rfl
    refine lv_aload_n hx hb dM_negate_22 rfl (lv_at hl 0 rfl) ?_
    refine lv_iload_n hx hb dM_negate_23 rfl (lv_at hl 1 rfl) ?_
    refine lv_iconst (v := 0) hx hb dM_negate_24 (by decide) ?_
    refine lv_iconst (v := 1) hx hb dM_negate_25 (by decide) ?_
    obtain ⟨sf5, hu, hf⟩ := tq_bd_some hf
    have hPc := hP.sub (ws' := [(mo, .inr (3, [.int nz, .ref la, .int sq, .ref sa])), (la, .inl (cI, 200, .inl lf3)), (sa, .inl (cI, 64, .inl sf4))]) [0, 1, 2] rfl
    have hDc := hD.sub (ws' := [(mo, .inr (3, [.int nz, .ref la, .int sq, .ref sa])), (la, .inl (cI, 200, .inl lf3)), (sa, .inl (cI, 64, .inl sf4))]) [0, 1, 2] (by decide) rfl
    have hKc := hK.sub (tys' := [(cI, .int)]) [0] rfl
    have hFc := va_free (wc := [(mo, .inr (3, [.int nz, .ref la, .int sq, .ref sa])), (la, .inl (cI, 200, .inl lf3)), (sa, .inl (cI, 64, .inl sf4))]) hD hS hA [0, 1, 2] rfl
    refine va_callv (va_runV (As := [.int q, .int (0 : Int32), .int (1 : Int32)]) (rest := []) ⟨hx, hb, hml, hown, hww⟩ (c_m_pour l dC dI mo la sa cI H.size q (0 : Int32) (1 : Int32) nz sq lf3 sf4 sf5 hu) (cwV 3 hww (tq_gV tqt_504 tqt_506 tqt_28 tqt_35 tqt_507) rfl rfl rfl (by decide +kernel) ⟨Nat.le_of_ble_eq_true rfl, Nat.le_of_ble_eq_true rfl⟩) ⟨fun a U g mk q => by obtain ⟨q0, q1, qP, qK, qD, qN⟩ := q; exact ⟨q0, q1, qP, va_K.moved (u := U) (U := U.calling g mk a) (Vm.Alike.refl U.vm) qK, qD, tqN_same (u := U) (U := U.calling g mk a) rfl qN⟩, va_recv hK hP (ci := 3) rfl (q0 := 0) rfl, fun U hU hW => ⟨rfl, by rw [hU], by rw [hU]; exact hPc, va_K.moved hW.alike hKc, hDc.weaken (fun _ _ _ _ => trivial), tqN_warm hW hN⟩⟩ rfl rfl hl.1 rfl (lv_room (Nat.le_of_ble_eq_true rfl)) dM_negate_26 ⟨Nat.zero_le _, Nat.zero_le _⟩) hS (fun q _ h => hFc q h) hFc (fun u0 t H1 locs ht hvm hpost hB hz1 hk1 hS => ?_)
    obtain ⟨hP1, hK1, hD1⟩ := hB
    rw [ht] at hP1
    obtain ⟨hP, hD⟩ := va_join (wr := []) (w1 := [(mo, .inr (3, [.int nz, .ref la, .int sq, .ref sa])), (la, .inl (cI, 200, .inl lf3)), (sa, .inl (cI, 64, .inl sf5))]) hP hD [0, 1, 2] [] rfl rfl (by decide) (by decide) hk1 hFc hP1 hD1
    generalize H1 = H at hP hS ⊢
    have hP := hP.sub (ws' := [(mo, .inr (3, [.int nz, .ref la, .int sq, .ref sa])), (la, .inl (cI, 200, .inl lf3)), (sa, .inl (cI, 64, .inl sf5))]) [0, 1, 2] rfl
    have hD := hD.sub (ws' := [(mo, .inr (3, [.int nz, .ref la, .int sq, .ref sa])), (la, .inl (cI, 200, .inl lf3)), (sa, .inl (cI, 64, .inl sf5))]) [0, 1, 2] (by decide) rfl
    refine lv_iconst (v := 1) hx hb dM_negate_29 (by decide) ?_
    have hf := Option.some.inj hf
    subst hf
    exact W.zret (v := (1 : Int32)) hx hb hr (tq_nb_bool (by decide)) (fun t ht hW => ⟨⟨(1 : Int32), (), rfl, rfl, by rw [ht]; exact hP, va_K.moved hW.alike hK, hD⟩, hS.F ht⟩) hS.2.2 dM_negate_30
  · rw [if_neg (fun q : ¬ (m_isSum q) = 0 => q h2)] at hf
    refine lv_iconst (v := 0) hx hb dM_negate_7 (by decide) ?_
    have hf := Option.some.inj hf
    subst hf
    exact W.zret (v := (0 : Int32)) hx hb hr (tq_nb_bool (by decide)) (fun t ht hW => ⟨⟨(0 : Int32), (), rfl, rfl, by rw [ht]; exact hP, va_K.moved hW.alike hK, hD⟩, hS.F ht⟩) hS.2.2 dM_negate_8
set_option maxHeartbeats 4000000 in
set_option maxRecDepth 100000 in
theorem c_m_total (l : Launch) (dC : Nat → ClassId) (dI : Nat → Nat → Nat) (mo : Nat) (la : Nat) (sa : Nat) (cI : ClassId) (sz : Nat) (q : Int32) (nz : Int32) (sq : Int32) (lf : Nat → Int32) (sf : Nat → Int32) (r : Int32 × Int32 × (Nat → Int32) × (Nat → Int32)) (hf : m_total nz sq lf sf q = some r) : Met l yM_total tqw_M_total ({ frames := 5, cells := 0, slots := 0, locals := 132 }) (va_Pc [.ref mo, .int q] (fun U => U.heap.size = sz ∧ va_P (dC, dI) tqCl [(mo, .inr (3, [.int nz, .ref la, .int sq, .ref sa])), (la, .inl (cI, 200, .inl lf)), (sa, .inl (cI, 64, .inl sf))] U.heap ∧ va_K (dC, dI) tqCl [(cI, .int)] U ∧ va_D (fun _ => True) [(mo, .inr (3, [.int nz, .ref la, .int sq, .ref sa])), (la, .inl (cI, 200, .inl lf)), (sa, .inl (cI, 64, .inl sf))] ∧ tqN U)) (va_Qi (fun (a : Int32) (_ : Unit) => a = r.1) (fun (_ : Unit) (t : State) => va_P (dC, dI) tqCl [(mo, .inr (3, [.int nz, .ref la, .int r.2.1, .ref sa])), (la, .inl (cI, 200, .inl r.2.2.1)), (sa, .inl (cI, 64, .inl r.2.2.2))] t.heap ∧ va_K (dC, dI) tqCl [(cI, .int)] t ∧ va_D (va_A [(mo, .inr (3, [.int nz, .ref la, .int sq, .ref sa])), (la, .inl (cI, 200, .inl lf)), (sa, .inl (cI, 64, .inl sf))] sz) [(mo, .inr (3, [.int nz, .ref la, .int r.2.1, .ref sa])), (la, .inl (cI, 200, .inl r.2.2.1)), (sa, .inl (cI, 64, .inl r.2.2.2))]) (va_A [(mo, .inr (3, [.int nz, .ref la, .int sq, .ref sa])), (la, .inl (cI, 200, .inl lf)), (sa, .inl (cI, 64, .inl sf))] sz)) 0 0 (va_A [(mo, .inr (3, [.int nz, .ref la, .int sq, .ref sa])), (la, .inl (cI, 200, .inl lf)), (sa, .inl (cI, 64, .inl sf))] sz) := by
  refine Met.ofW (cc := cM_total) (maxL := 3) (ret := (some .int)) (by decide) rfl ?_
  intro p e s m args below meth c s₁ B hml hv
  obtain ⟨rfl, hsz, hP, hK, hD0, hN⟩ := hv
  have hx := B.exec
  have hb := B.bytes
  have hr := B.returns
  have hts := atoms_spec (ws := tqw_M_total) B.pre
  have hww : ∀ w ∈ tqW, w.before _ s = true := fun w h => hts w (List.mem_cons_of_mem _ h)
  have hown : s.vm.findClass RM = some m.cls := findClass_of_methodNamed B.named
  have hlocks := B.notSynchronized
  subst hsz
  have hD := hD0.self (sz := s.heap.size)
  generalize hAe : va_A [(mo, .inr (3, [.int nz, .ref la, .int sq, .ref sa])), (la, .inl (cI, 200, .inl lf)), (sa, .inl (cI, 64, .inl sf))] s.heap.size = A at hD ⊢
  have hA : ∀ q : Nat, s.heap.size ≤ q → A q := fun q h => by rw [← hAe]; exact Or.inr h
  have hS : va_S A s.heap s.heap [] := va_S.rf
  have hP : va_P (dC, dI) tqCl [(mo, .inr (3, [.int nz, .ref la, .int sq, .ref sa])), (la, .inl (cI, 200, .inl lf)), (sa, .inl (cI, 64, .inl sf))] s.heap := hP
  have hl := lv_entry ([.ref mo, .int q]) (n := 3) (Nat.le_of_ble_eq_true rfl)
  rw [lg_entry_eq]
  generalize (lg_sl ([.ref mo, .int q]) ++ List.replicate (3 - (lg_sl ([.ref mo, .int q])).length) Slot.unset).toArray = ls at hl ⊢
  have hl : lv_has ls 3 [(0, .ref mo), (1, .int q)] := hl
  have B15 : ∀ (ls : Array Slot) (H : Heap) (locs : List Loc) (sq : Int32) (lf : Nat → Int32) (sf : Nat → Int32), m_total_b15 nz sq lf sf = some r → lv_has ls 3 [(0, .ref mo)] → va_P (dC, dI) tqCl [(mo, .inr (3, [.int nz, .ref la, .int sq, .ref sa])), (la, .inl (cI, 200, .inl lf)), (sa, .inl (cI, 64, .inl sf))] H → va_D A [(mo, .inr (3, [.int nz, .ref la, .int sq, .ref sa])), (la, .inl (cI, 200, .inl lf)), (sa, .inl (cI, 64, .inl sf))] → va_S A s.heap H locs → W p l e ({ frames := 5, cells := 0, slots := 0, locals := 132 }) s m ([.ref mo, .int q] : List Value).toArray below meth c H locs 0 0 (MQ below (va_Qi (fun (a : Int32) (_ : Unit) => a = r.1) (fun (_ : Unit) (t : State) => va_P (dC, dI) tqCl [(mo, .inr (3, [.int nz, .ref la, .int r.2.1, .ref sa])), (la, .inl (cI, 200, .inl r.2.2.1)), (sa, .inl (cI, 64, .inl r.2.2.2))] t.heap ∧ va_K (dC, dI) tqCl [(cI, .int)] t ∧ va_D (A) [(mo, .inr (3, [.int nz, .ref la, .int r.2.1, .ref sa])), (la, .inl (cI, 200, .inl r.2.2.1)), (sa, .inl (cI, 64, .inl r.2.2.2))]) (A)) ([.ref mo, .int q] : List Value).toArray s 0 0 A) (F0 m 15 ls []) := by
    try clear hf
    intro ls H locs sq lf sf hf hl hP hD hS
    unfold m_total_b15 at hf
    refine lv_aload_n hx hb dM_total_15 rfl (lv_at hl 0 rfl) ?_
    refine va_get (D := (dC, dI)) (ci := 3) (v := .int nz) (C := RM) (T := TM) (N := 4) hx hb hww tqinM hown hK hP 0 rfl rfl 0 (by decide) (hww _ tqt_330) (fun _ h9 => h9) rfl dM_total_16 ?_
    have hPc := hP.sub (ws' := []) [] rfl
    have hDc := hD.sub (ws' := []) [] (by decide) rfl
    have hKc := hK.sub (tys' := []) [] rfl
    have hFc := va_free (wc := []) hD hS hA [] rfl
    refine va_calli (va_runS (As := [.int nz]) (rest := []) ⟨hx, hb, hml, hown, hww⟩ (c_m_not l dC dI H.size nz (m_not nz) rfl) (va_cwS 1 hww (tq_gS tqt_364 tqt_365 tqt_35 tqt_366) rfl rfl rfl (by decide +kernel) ⟨Nat.le_of_ble_eq_true rfl, Nat.le_of_ble_eq_true rfl⟩) ⟨fun a U g mk q => by obtain ⟨q0, q1, qP, qK, qD, qN⟩ := q; exact ⟨q0, q1, qP, va_K.moved (u := U) (U := U.calling g mk a) (Vm.Alike.refl U.vm) qK, qD, tqN_same (u := U) (U := U.calling g mk a) rfl qN⟩, fun U hU hW => ⟨rfl, by rw [hU], by rw [hU]; exact hPc, va_K.moved hW.alike hKc, hDc.weaken (fun _ _ _ _ => trivial), tqN_warm hW hN⟩⟩ rfl rfl hl.1 rfl (lv_room (Nat.le_of_ble_eq_true rfl)) dM_total_19 ⟨Nat.zero_le _, Nat.zero_le _⟩) hS (fun q _ h => hFc q h) hFc (fun ra u0 t H1 locs ht hvm hpost hB hz1 hk1 hS => ?_)
    have hpost : (m_not nz) = ra := (show ra = (m_not nz) from hpost).symm
    subst hpost
    obtain ⟨hP1, hK1, hD1⟩ := hB
    rw [ht] at hP1
    obtain ⟨hP, hD⟩ := va_join (wr := [(mo, .inr (3, [.int nz, .ref la, .int sq, .ref sa])), (la, .inl (cI, 200, .inl lf)), (sa, .inl (cI, 64, .inl sf))]) (w1 := []) hP hD [] [0, 1, 2] rfl rfl (by decide) (by decide) hk1 hFc hP1 hD1
    generalize H1 = H at hP hS ⊢
    have hP := hP.sub (ws' := [(mo, .inr (3, [.int nz, .ref la, .int sq, .ref sa])), (la, .inl (cI, 200, .inl lf)), (sa, .inl (cI, 64, .inl sf))]) [0, 1, 2] rfl
    have hD := hD.sub (ws' := [(mo, .inr (3, [.int nz, .ref la, .int sq, .ref sa])), (la, .inl (cI, 200, .inl lf)), (sa, .inl (cI, 64, .inl sf))]) [0, 1, 2] (by decide) rfl
    have hf := Option.some.inj hf
    subst hf
    exact W.iret (v := m_not nz) hx hb hr (fun t ht hW => ⟨⟨m_not nz, (), rfl, rfl, by rw [ht]; exact hP, va_K.moved hW.alike hK, hD⟩, hS.F ht⟩) hS.2.2 dM_total_22
  have B76 : ∀ (ls : Array Slot) (H : Heap) (locs : List Loc) (v2 : Int32) (sq : Int32) (lf : Nat → Int32) (sf : Nat → Int32), m_total_b76 nz v2 sq lf sf = some r → lv_has ls 3 [(0, .ref mo), (2, .int v2)] → va_P (dC, dI) tqCl [(mo, .inr (3, [.int nz, .ref la, .int sq, .ref sa])), (la, .inl (cI, 200, .inl lf)), (sa, .inl (cI, 64, .inl sf))] H → va_D A [(mo, .inr (3, [.int nz, .ref la, .int sq, .ref sa])), (la, .inl (cI, 200, .inl lf)), (sa, .inl (cI, 64, .inl sf))] → va_S A s.heap H locs → W p l e ({ frames := 5, cells := 0, slots := 0, locals := 132 }) s m ([.ref mo, .int q] : List Value).toArray below meth c H locs 0 0 (MQ below (va_Qi (fun (a : Int32) (_ : Unit) => a = r.1) (fun (_ : Unit) (t : State) => va_P (dC, dI) tqCl [(mo, .inr (3, [.int nz, .ref la, .int r.2.1, .ref sa])), (la, .inl (cI, 200, .inl r.2.2.1)), (sa, .inl (cI, 64, .inl r.2.2.2))] t.heap ∧ va_K (dC, dI) tqCl [(cI, .int)] t ∧ va_D (A) [(mo, .inr (3, [.int nz, .ref la, .int r.2.1, .ref sa])), (la, .inl (cI, 200, .inl r.2.2.1)), (sa, .inl (cI, 64, .inl r.2.2.2))]) (A)) ([.ref mo, .int q] : List Value).toArray s 0 0 A) (F0 m 76 ls []) := by
    try clear hf
    intro ls H locs v2 sq lf sf hf hl hP hD hS
    unfold m_total_b76 at hf
    refine lv_aload_n hx hb dM_total_76 rfl (lv_at hl 0 rfl) ?_
    refine lv_iconst (v := 1) hx hb dM_total_77 (by decide) ?_
    refine lv_iconst (v := 0) hx hb dM_total_78 (by decide) ?_
    obtain ⟨lf11, hu, hf⟩ := tq_bd_some hf
    have hPc := hP.sub (ws' := [(mo, .inr (3, [.int nz, .ref la, .int sq, .ref sa])), (la, .inl (cI, 200, .inl lf))]) [0, 1] rfl
    have hDc := hD.sub (ws' := [(mo, .inr (3, [.int nz, .ref la, .int sq, .ref sa])), (la, .inl (cI, 200, .inl lf))]) [0, 1] (by decide) rfl
    have hKc := hK.sub (tys' := [(cI, .int)]) [0] rfl
    have hFc := va_free (wc := [(mo, .inr (3, [.int nz, .ref la, .int sq, .ref sa])), (la, .inl (cI, 200, .inl lf))]) hD hS hA [0, 1] rfl
    refine va_callv (va_runV (As := [.int (1 : Int32), .int (0 : Int32)]) (rest := []) ⟨hx, hb, hml, hown, hww⟩ (c_m_move l dC dI mo la sa cI H.size (1 : Int32) (0 : Int32) nz sq lf lf11 hu) (cwV 2 hww (tq_gV tqt_525 tqt_527 tqt_30 tqt_35 tqt_528) rfl rfl rfl (by decide +kernel) ⟨Nat.le_of_ble_eq_true rfl, Nat.le_of_ble_eq_true rfl⟩) ⟨fun a U g mk q => by obtain ⟨q0, q1, qP, qK, qD, qN⟩ := q; exact ⟨q0, q1, qP, va_K.moved (u := U) (U := U.calling g mk a) (Vm.Alike.refl U.vm) qK, qD, tqN_same (u := U) (U := U.calling g mk a) rfl qN⟩, va_recv hK hP (ci := 3) rfl (q0 := 0) rfl, fun U hU hW => ⟨rfl, by rw [hU], by rw [hU]; exact hPc, va_K.moved hW.alike hKc, hDc.weaken (fun _ _ _ _ => trivial), tqN_warm hW hN⟩⟩ rfl rfl hl.1 rfl (lv_room (Nat.le_of_ble_eq_true rfl)) dM_total_79 ⟨Nat.zero_le _, Nat.zero_le _⟩) hS (fun q _ h => hFc q h) hFc (fun u0 t H1 locs ht hvm hpost hB hz1 hk1 hS => ?_)
    obtain ⟨hP1, hK1, hD1⟩ := hB
    rw [ht] at hP1
    obtain ⟨hP, hD⟩ := va_join (wr := [(sa, .inl (cI, 64, .inl sf))]) (w1 := [(mo, .inr (3, [.int nz, .ref la, .int sq, .ref sa])), (la, .inl (cI, 200, .inl lf11))]) hP hD [0, 1] [2] rfl rfl (by decide) (by decide) hk1 hFc hP1 hD1
    generalize H1 = H at hP hS ⊢
    have hP := hP.sub (ws' := [(mo, .inr (3, [.int nz, .ref la, .int sq, .ref sa])), (la, .inl (cI, 200, .inl lf11)), (sa, .inl (cI, 64, .inl sf))]) [1, 2, 0] rfl
    have hD := hD.sub (ws' := [(mo, .inr (3, [.int nz, .ref la, .int sq, .ref sa])), (la, .inl (cI, 200, .inl lf11)), (sa, .inl (cI, 64, .inl sf))]) [1, 2, 0] (by decide) rfl
    refine lv_aload_n hx hb dM_total_82 rfl (lv_at hl 0 rfl) ?_
    refine lv_iconst (v := 0) hx hb dM_total_83 (by decide) ?_
    refine lv_sipush (v := 264) hx hb dM_total_84 (by decide) ?_
    refine lv_bipush (v := 8) hx hb dM_total_87 (by decide) ?_
    refine lv_aload_n hx hb dM_total_89 rfl (lv_at hl 0 rfl) ?_
    refine va_get (D := (dC, dI)) (ci := 3) (v := .int nz) (C := RM) (T := TM) (N := 4) hx hb hww tqinM hown hK hP 0 rfl rfl 0 (by decide) (hww _ tqt_330) (fun _ h9 => h9) rfl dM_total_90 ?_
    refine lv_imul hx hb dM_total_93 ?_
    refine lv_isub hx hb dM_total_94 ?_
    obtain ⟨lf12, hu, hf⟩ := tq_bd_some hf
    have hPc := hP.sub (ws' := [(mo, .inr (3, [.int nz, .ref la, .int sq, .ref sa])), (la, .inl (cI, 200, .inl lf11))]) [0, 1] rfl
    have hDc := hD.sub (ws' := [(mo, .inr (3, [.int nz, .ref la, .int sq, .ref sa])), (la, .inl (cI, 200, .inl lf11))]) [0, 1] (by decide) rfl
    have hKc := hK.sub (tys' := [(cI, .int)]) [0] rfl
    have hFc := va_free (wc := [(mo, .inr (3, [.int nz, .ref la, .int sq, .ref sa])), (la, .inl (cI, 200, .inl lf11))]) hD hS hA [0, 1] rfl
    refine va_callv (va_runV (As := [.int (0 : Int32), .int ((264 : Int32) - ((8 : Int32) * nz))]) (rest := []) ⟨hx, hb, hml, hown, hww⟩ (c_m_raise l dC dI mo la sa cI H.size (0 : Int32) ((264 : Int32) - ((8 : Int32) * nz)) nz sq lf11 lf12 hu) (cwV 2 hww (tq_gV tqt_384 tqt_386 tqt_12 tqt_35 tqt_387) rfl rfl rfl (by decide +kernel) ⟨Nat.le_of_ble_eq_true rfl, Nat.le_of_ble_eq_true rfl⟩) ⟨fun a U g mk q => by obtain ⟨q0, q1, qP, qK, qD, qN⟩ := q; exact ⟨q0, q1, qP, va_K.moved (u := U) (U := U.calling g mk a) (Vm.Alike.refl U.vm) qK, qD, tqN_same (u := U) (U := U.calling g mk a) rfl qN⟩, va_recv hK hP (ci := 3) rfl (q0 := 0) rfl, fun U hU hW => ⟨rfl, by rw [hU], by rw [hU]; exact hPc, va_K.moved hW.alike hKc, hDc.weaken (fun _ _ _ _ => trivial), tqN_warm hW hN⟩⟩ rfl rfl hl.1 rfl (lv_room (Nat.le_of_ble_eq_true rfl)) dM_total_95 ⟨Nat.zero_le _, Nat.zero_le _⟩) hS (fun q _ h => hFc q h) hFc (fun u0 t H1 locs ht hvm hpost hB hz1 hk1 hS => ?_)
    obtain ⟨hP1, hK1, hD1⟩ := hB
    rw [ht] at hP1
    obtain ⟨hP, hD⟩ := va_join (wr := [(sa, .inl (cI, 64, .inl sf))]) (w1 := [(mo, .inr (3, [.int nz, .ref la, .int sq, .ref sa])), (la, .inl (cI, 200, .inl lf12))]) hP hD [0, 1] [2] rfl rfl (by decide) (by decide) hk1 hFc hP1 hD1
    generalize H1 = H at hP hS ⊢
    have hP := hP.sub (ws' := [(mo, .inr (3, [.int nz, .ref la, .int sq, .ref sa])), (la, .inl (cI, 200, .inl lf12)), (sa, .inl (cI, 64, .inl sf))]) [1, 2, 0] rfl
    have hD := hD.sub (ws' := [(mo, .inr (3, [.int nz, .ref la, .int sq, .ref sa])), (la, .inl (cI, 200, .inl lf12)), (sa, .inl (cI, 64, .inl sf))]) [1, 2, 0] (by decide) rfl
    refine lv_aload_n hx hb dM_total_98 rfl (lv_at hl 0 rfl) ?_
    refine lv_bipush (v := 124) hx hb dM_total_99 (by decide) ?_
    obtain ⟨u, hu, hf⟩ := tq_bd_some hf
    obtain ⟨sq13, lf14⟩ := u
    have hf := tq_nm_at (z := sq13) rfl hf
    have hf := tq_nm_at (z := lf14) rfl hf
    have hPc := hP.sub (ws' := [(mo, .inr (3, [.int nz, .ref la, .int sq, .ref sa])), (la, .inl (cI, 200, .inl lf12))]) [0, 1] rfl
    have hDc := hD.sub (ws' := [(mo, .inr (3, [.int nz, .ref la, .int sq, .ref sa])), (la, .inl (cI, 200, .inl lf12))]) [0, 1] (by decide) rfl
    have hKc := hK.sub (tys' := [(cI, .int)]) [0] rfl
    have hFc := va_free (wc := [(mo, .inr (3, [.int nz, .ref la, .int sq, .ref sa])), (la, .inl (cI, 200, .inl lf12))]) hD hS hA [0, 1] rfl
    refine va_callv (va_runV (As := [.int (124 : Int32)]) (rest := []) ⟨hx, hb, hml, hown, hww⟩ (c_m_factor l dC dI mo la sa cI H.size (124 : Int32) nz sq lf12 (sq13, lf14) hu) (cwV 1 hww (tq_gV tqt_413 tqt_415 tqt_19 tqt_35 tqt_416) rfl rfl rfl (by decide +kernel) ⟨Nat.le_of_ble_eq_true rfl, Nat.le_of_ble_eq_true rfl⟩) ⟨fun a U g mk q => by obtain ⟨q0, q1, qP, qK, qD, qN⟩ := q; exact ⟨q0, q1, qP, va_K.moved (u := U) (U := U.calling g mk a) (Vm.Alike.refl U.vm) qK, qD, tqN_same (u := U) (U := U.calling g mk a) rfl qN⟩, va_recv hK hP (ci := 3) rfl (q0 := 0) rfl, fun U hU hW => ⟨rfl, by rw [hU], by rw [hU]; exact hPc, va_K.moved hW.alike hKc, hDc.weaken (fun _ _ _ _ => trivial), tqN_warm hW hN⟩⟩ rfl rfl hl.1 rfl (lv_room (Nat.le_of_ble_eq_true rfl)) dM_total_101 ⟨Nat.zero_le _, Nat.zero_le _⟩) hS (fun q _ h => hFc q h) hFc (fun u0 t H1 locs ht hvm hpost hB hz1 hk1 hS => ?_)
    obtain ⟨hP1, hK1, hD1⟩ := hB
    rw [ht] at hP1
    obtain ⟨hP, hD⟩ := va_join (wr := [(sa, .inl (cI, 64, .inl sf))]) (w1 := [(mo, .inr (3, [.int nz, .ref la, .int sq13, .ref sa])), (la, .inl (cI, 200, .inl lf14))]) hP hD [0, 1] [2] rfl rfl (by decide) (by decide) hk1 hFc hP1 hD1
    generalize H1 = H at hP hS ⊢
    have hP := hP.sub (ws' := [(mo, .inr (3, [.int nz, .ref la, .int sq13, .ref sa])), (la, .inl (cI, 200, .inl lf14)), (sa, .inl (cI, 64, .inl sf))]) [1, 2, 0] rfl
    have hD := hD.sub (ws' := [(mo, .inr (3, [.int nz, .ref la, .int sq13, .ref sa])), (la, .inl (cI, 200, .inl lf14)), (sa, .inl (cI, 64, .inl sf))]) [1, 2, 0] (by decide) rfl
    refine lv_aload_n hx hb dM_total_104 rfl (lv_at hl 0 rfl) ?_
    refine lv_iload_n hx hb dM_total_105 rfl (lv_at hl 1 rfl) ?_
    refine lv_aload_n hx hb dM_total_106 rfl (lv_at hl 0 rfl) ?_
    refine va_get (D := (dC, dI)) (ci := 3) (v := .int nz) (C := RM) (T := TM) (N := 4) hx hb hww tqinM hown hK hP 0 rfl rfl 0 (by decide) (hww _ tqt_330) (fun _ h9 => h9) rfl dM_total_107 ?_
    obtain ⟨u, hu, hf⟩ := tq_bd_some hf
    obtain ⟨r15, lf16⟩ := u
    have hf := tq_nm_at (z := r15) rfl hf
    have hf := tq_nm_at (z := lf16) rfl hf
    have hPc := hP.sub (ws' := [(mo, .inr (3, [.int nz, .ref la, .int sq13, .ref sa])), (la, .inl (cI, 200, .inl lf14))]) [0, 1] rfl
    have hDc := hD.sub (ws' := [(mo, .inr (3, [.int nz, .ref la, .int sq13, .ref sa])), (la, .inl (cI, 200, .inl lf14))]) [0, 1] (by decide) rfl
    have hKc := hK.sub (tys' := [(cI, .int)]) [0] rfl
    have hFc := va_free (wc := [(mo, .inr (3, [.int nz, .ref la, .int sq13, .ref sa])), (la, .inl (cI, 200, .inl lf14))]) hD hS hA [0, 1] rfl
    refine va_calli (va_runV (As := [.int v2, .int nz]) (rest := []) ⟨hx, hb, hml, hown, hww⟩ (c_m_rounded l dC dI mo la sa cI H.size v2 nz nz sq13 lf14 (r15, lf16) hu) (cwV 2 hww (tq_gV tqt_417 tqt_419 tqt_20 tqt_35 tqt_420) rfl rfl rfl (by decide +kernel) ⟨Nat.le_of_ble_eq_true rfl, Nat.le_of_ble_eq_true rfl⟩) ⟨fun a U g mk q => by obtain ⟨q0, q1, qP, qK, qD, qN⟩ := q; exact ⟨q0, q1, qP, va_K.moved (u := U) (U := U.calling g mk a) (Vm.Alike.refl U.vm) qK, qD, tqN_same (u := U) (U := U.calling g mk a) rfl qN⟩, va_recv hK hP (ci := 3) rfl (q0 := 0) rfl, fun U hU hW => ⟨rfl, by rw [hU], by rw [hU]; exact hPc, va_K.moved hW.alike hKc, hDc.weaken (fun _ _ _ _ => trivial), tqN_warm hW hN⟩⟩ rfl rfl hl.1 rfl (lv_room (Nat.le_of_ble_eq_true rfl)) dM_total_110 ⟨Nat.zero_le _, Nat.zero_le _⟩) hS (fun q _ h => hFc q h) hFc (fun ra u0 t H1 locs ht hvm hpost hB hz1 hk1 hS => ?_)
    have hpost : r15 = ra := (show ra = r15 from hpost).symm
    subst hpost
    obtain ⟨hP1, hK1, hD1⟩ := hB
    rw [ht] at hP1
    obtain ⟨hP, hD⟩ := va_join (wr := [(sa, .inl (cI, 64, .inl sf))]) (w1 := [(mo, .inr (3, [.int nz, .ref la, .int sq13, .ref sa])), (la, .inl (cI, 200, .inl lf16))]) hP hD [0, 1] [2] rfl rfl (by decide) (by decide) hk1 hFc hP1 hD1
    generalize H1 = H at hP hS ⊢
    have hP := hP.sub (ws' := [(mo, .inr (3, [.int nz, .ref la, .int sq13, .ref sa])), (la, .inl (cI, 200, .inl lf16)), (sa, .inl (cI, 64, .inl sf))]) [1, 2, 0] rfl
    have hD := hD.sub (ws' := [(mo, .inr (3, [.int nz, .ref la, .int sq13, .ref sa])), (la, .inl (cI, 200, .inl lf16)), (sa, .inl (cI, 64, .inl sf))]) [1, 2, 0] (by decide) rfl
    have hf := Option.some.inj hf
    subst hf
    exact W.iret (v := r15) hx hb hr (fun t ht hW => ⟨⟨r15, (), rfl, rfl, by rw [ht]; exact hP, va_K.moved hW.alike hK, hD⟩, hS.F ht⟩) hS.2.2 dM_total_113
  have B60 : ∀ (ls : Array Slot) (H : Heap) (locs : List Loc) (v2 : Int32) (sq : Int32) (lf : Nat → Int32) (sf : Nat → Int32), m_total_b60 nz q v2 sq lf sf = some r → lv_has ls 3 [(0, .ref mo), (1, .int q), (2, .int v2)] → va_P (dC, dI) tqCl [(mo, .inr (3, [.int nz, .ref la, .int sq, .ref sa])), (la, .inl (cI, 200, .inl lf)), (sa, .inl (cI, 64, .inl sf))] H → va_D A [(mo, .inr (3, [.int nz, .ref la, .int sq, .ref sa])), (la, .inl (cI, 200, .inl lf)), (sa, .inl (cI, 64, .inl sf))] → va_S A s.heap H locs → W p l e ({ frames := 5, cells := 0, slots := 0, locals := 132 }) s m ([.ref mo, .int q] : List Value).toArray below meth c H locs 0 0 (MQ below (va_Qi (fun (a : Int32) (_ : Unit) => a = r.1) (fun (_ : Unit) (t : State) => va_P (dC, dI) tqCl [(mo, .inr (3, [.int nz, .ref la, .int r.2.1, .ref sa])), (la, .inl (cI, 200, .inl r.2.2.1)), (sa, .inl (cI, 64, .inl r.2.2.2))] t.heap ∧ va_K (dC, dI) tqCl [(cI, .int)] t ∧ va_D (A) [(mo, .inr (3, [.int nz, .ref la, .int r.2.1, .ref sa])), (la, .inl (cI, 200, .inl r.2.2.1)), (sa, .inl (cI, 64, .inl r.2.2.2))]) (A)) ([.ref mo, .int q] : List Value).toArray s 0 0 A) (F0 m 60 ls []) := by
    try clear hf
    intro ls H locs v2 sq lf sf hf hl hP hD hS
    unfold m_total_b60 at hf
    refine lv_aload_n hx hb dM_total_60 rfl (lv_at hl 0 rfl) ?_
    refine lv_iload_n hx hb dM_total_61 rfl (lv_at hl 1 rfl) ?_
    refine lv_iconst (v := 1) hx hb dM_total_62 (by decide) ?_
    obtain ⟨lf9, hu, hf⟩ := tq_bd_some hf
    have hPc := hP.sub (ws' := [(mo, .inr (3, [.int nz, .ref la, .int sq, .ref sa])), (la, .inl (cI, 200, .inl lf)), (sa, .inl (cI, 64, .inl sf))]) [0, 1, 2] rfl
    have hDc := hD.sub (ws' := [(mo, .inr (3, [.int nz, .ref la, .int sq, .ref sa])), (la, .inl (cI, 200, .inl lf)), (sa, .inl (cI, 64, .inl sf))]) [0, 1, 2] (by decide) rfl
    have hKc := hK.sub (tys' := [(cI, .int)]) [0] rfl
    have hFc := va_free (wc := [(mo, .inr (3, [.int nz, .ref la, .int sq, .ref sa])), (la, .inl (cI, 200, .inl lf)), (sa, .inl (cI, 64, .inl sf))]) hD hS hA [0, 1, 2] rfl
    refine va_callv (va_runV (As := [.int q, .int (1 : Int32)]) (rest := []) ⟨hx, hb, hml, hown, hww⟩ (c_m_draw l dC dI mo la sa cI H.size q (1 : Int32) nz sq lf sf lf9 hu) (cwV 2 hww (tq_gV tqt_512 tqt_514 tqt_29 tqt_35 tqt_515) rfl rfl rfl (by decide +kernel) ⟨Nat.le_of_ble_eq_true rfl, Nat.le_of_ble_eq_true rfl⟩) ⟨fun a U g mk q => by obtain ⟨q0, q1, qP, qK, qD, qN⟩ := q; exact ⟨q0, q1, qP, va_K.moved (u := U) (U := U.calling g mk a) (Vm.Alike.refl U.vm) qK, qD, tqN_same (u := U) (U := U.calling g mk a) rfl qN⟩, va_recv hK hP (ci := 3) rfl (q0 := 0) rfl, fun U hU hW => ⟨rfl, by rw [hU], by rw [hU]; exact hPc, va_K.moved hW.alike hKc, hDc.weaken (fun _ _ _ _ => trivial), tqN_warm hW hN⟩⟩ rfl rfl hl.1 rfl (lv_room (Nat.le_of_ble_eq_true rfl)) dM_total_63 ⟨Nat.zero_le _, Nat.zero_le _⟩) hS (fun q _ h => hFc q h) hFc (fun u0 t H1 locs ht hvm hpost hB hz1 hk1 hS => ?_)
    obtain ⟨hP1, hK1, hD1⟩ := hB
    rw [ht] at hP1
    obtain ⟨hP, hD⟩ := va_join (wr := []) (w1 := [(mo, .inr (3, [.int nz, .ref la, .int sq, .ref sa])), (la, .inl (cI, 200, .inl lf9)), (sa, .inl (cI, 64, .inl sf))]) hP hD [0, 1, 2] [] rfl rfl (by decide) (by decide) hk1 hFc hP1 hD1
    generalize H1 = H at hP hS ⊢
    have hP := hP.sub (ws' := [(mo, .inr (3, [.int nz, .ref la, .int sq, .ref sa])), (la, .inl (cI, 200, .inl lf9)), (sa, .inl (cI, 64, .inl sf))]) [0, 1, 2] rfl
    have hD := hD.sub (ws' := [(mo, .inr (3, [.int nz, .ref la, .int sq, .ref sa])), (la, .inl (cI, 200, .inl lf9)), (sa, .inl (cI, 64, .inl sf))]) [0, 1, 2] (by decide) rfl
    refine lv_iload_n hx hb dM_total_66 rfl (lv_at hl 2 rfl) ?_
    refine lv_if_eq hx hb dM_total_67 rfl (fun h10 => ?_) (fun h10 => ?_)
    · rw [if_pos h10] at hf
      exact B76 ls _ _ v2 sq lf9 sf hf (lv_sub hl [0, 2] rfl) hP hD hS
    · rw [if_neg h10] at hf
      refine lv_aload_n hx hb dM_total_70 rfl (lv_at hl 0 rfl) ?_
      refine lv_iload_n hx hb dM_total_71 rfl (lv_at hl 1 rfl) ?_
      obtain ⟨u, hu, hf⟩ := tq_bd_some hf
      obtain ⟨r17, lf18, sf19⟩ := u
      have hf := tq_nm_at (z := r17) rfl hf
      have hf := tq_nm_at (z := lf18) rfl hf
      have hf := tq_nm_at (z := sf19) rfl hf
      have hPc := hP.sub (ws' := [(mo, .inr (3, [.int nz, .ref la, .int sq, .ref sa])), (la, .inl (cI, 200, .inl lf9)), (sa, .inl (cI, 64, .inl sf))]) [0, 1, 2] rfl
      have hDc := hD.sub (ws' := [(mo, .inr (3, [.int nz, .ref la, .int sq, .ref sa])), (la, .inl (cI, 200, .inl lf9)), (sa, .inl (cI, 64, .inl sf))]) [0, 1, 2] (by decide) rfl
      have hKc := hK.sub (tys' := [(cI, .int)]) [0] rfl
      have hFc := va_free (wc := [(mo, .inr (3, [.int nz, .ref la, .int sq, .ref sa])), (la, .inl (cI, 200, .inl lf9)), (sa, .inl (cI, 64, .inl sf))]) hD hS hA [0, 1, 2] rfl
      refine va_calli (va_runV (As := [.int q]) (rest := []) ⟨hx, hb, hml, hown, hww⟩ (c_m_negate l dC dI mo la sa cI H.size q nz sq lf9 sf (r17, lf18, sf19) hu) (cwV 1 hww (tq_gV tqt_524 tqt_517 tqt_518 tqt_35 tqt_519) rfl rfl rfl (by decide +kernel) ⟨Nat.le_of_ble_eq_true rfl, Nat.le_of_ble_eq_true rfl⟩) ⟨fun a U g mk q => by obtain ⟨q0, q1, qP, qK, qD, qN⟩ := q; exact ⟨q0, q1, qP, va_K.moved (u := U) (U := U.calling g mk a) (Vm.Alike.refl U.vm) qK, qD, tqN_same (u := U) (U := U.calling g mk a) rfl qN⟩, va_recv hK hP (ci := 3) rfl (q0 := 0) rfl, fun U hU hW => ⟨rfl, by rw [hU], by rw [hU]; exact hPc, va_K.moved hW.alike hKc, hDc.weaken (fun _ _ _ _ => trivial), tqN_warm hW hN⟩⟩ rfl rfl hl.1 rfl (lv_room (Nat.le_of_ble_eq_true rfl)) dM_total_72 ⟨Nat.zero_le _, Nat.zero_le _⟩) hS (fun q _ h => hFc q h) hFc (fun ra u0 t H1 locs ht hvm hpost hB hz1 hk1 hS => ?_)
      have hpost : r17 = ra := (show ra = r17 from hpost).symm
      subst hpost
      obtain ⟨hP1, hK1, hD1⟩ := hB
      rw [ht] at hP1
      obtain ⟨hP, hD⟩ := va_join (wr := []) (w1 := [(mo, .inr (3, [.int nz, .ref la, .int sq, .ref sa])), (la, .inl (cI, 200, .inl lf18)), (sa, .inl (cI, 64, .inl sf19))]) hP hD [0, 1, 2] [] rfl rfl (by decide) (by decide) hk1 hFc hP1 hD1
      generalize H1 = H at hP hS ⊢
      have hP := hP.sub (ws' := [(mo, .inr (3, [.int nz, .ref la, .int sq, .ref sa])), (la, .inl (cI, 200, .inl lf18)), (sa, .inl (cI, 64, .inl sf19))]) [0, 1, 2] rfl
      have hD := hD.sub (ws' := [(mo, .inr (3, [.int nz, .ref la, .int sq, .ref sa])), (la, .inl (cI, 200, .inl lf18)), (sa, .inl (cI, 64, .inl sf19))]) [0, 1, 2] (by decide) rfl
      refine lv_pop hx hb dM_total_75 rfl ?_
      exact B76 ls _ _ v2 sq lf18 sf19 hf (lv_sub hl [0, 2] rfl) hP hD hS
  have B49 : ∀ (ls : Array Slot) (H : Heap) (locs : List Loc) (t0 : Int32) (sq : Int32) (lf : Nat → Int32) (sf : Nat → Int32), m_total_b49 nz q t0 sq lf sf = some r → lv_has ls 3 [(0, .ref mo), (1, .int q)] → va_P (dC, dI) tqCl [(mo, .inr (3, [.int nz, .ref la, .int sq, .ref sa])), (la, .inl (cI, 200, .inl lf)), (sa, .inl (cI, 64, .inl sf))] H → va_D A [(mo, .inr (3, [.int nz, .ref la, .int sq, .ref sa])), (la, .inl (cI, 200, .inl lf)), (sa, .inl (cI, 64, .inl sf))] → va_S A s.heap H locs → W p l e ({ frames := 5, cells := 0, slots := 0, locals := 132 }) s m ([.ref mo, .int q] : List Value).toArray below meth c H locs 0 0 (MQ below (va_Qi (fun (a : Int32) (_ : Unit) => a = r.1) (fun (_ : Unit) (t : State) => va_P (dC, dI) tqCl [(mo, .inr (3, [.int nz, .ref la, .int r.2.1, .ref sa])), (la, .inl (cI, 200, .inl r.2.2.1)), (sa, .inl (cI, 64, .inl r.2.2.2))] t.heap ∧ va_K (dC, dI) tqCl [(cI, .int)] t ∧ va_D (A) [(mo, .inr (3, [.int nz, .ref la, .int r.2.1, .ref sa])), (la, .inl (cI, 200, .inl r.2.2.1)), (sa, .inl (cI, 64, .inl r.2.2.2))]) (A)) ([.ref mo, .int q] : List Value).toArray s 0 0 A) (F0 m 49 ls [.int t0]) := by
    try clear hf
    intro ls H locs t0 sq lf sf hf hl hP hD hS
    unfold m_total_b49 at hf
    refine lv_istore_n (lv' := [(2, .int t0), (0, .ref mo), (1, .int q)]) hx hb dM_total_49 rfl hl (by decide) rfl (fun ls hl => ?_)
    refine lv_iload_n hx hb dM_total_50 rfl (lv_at hl 0 rfl) ?_
    refine lv_if_eq hx hb dM_total_51 rfl (fun h8 => ?_) (fun h8 => ?_)
    · rw [if_pos h8] at hf
      exact B60 ls _ _ t0 sq lf sf hf (lv_sub hl [1, 2, 0] rfl) hP hD hS
    · rw [if_neg h8] at hf
      refine lv_aload_n hx hb dM_total_54 rfl (lv_at hl 1 rfl) ?_
      refine lv_iload_n hx hb dM_total_55 rfl (lv_at hl 2 rfl) ?_
      obtain ⟨u, hu, hf⟩ := tq_bd_some hf
      obtain ⟨r20, lf21, sf22⟩ := u
      have hf := tq_nm_at (z := r20) rfl hf
      have hf := tq_nm_at (z := lf21) rfl hf
      have hf := tq_nm_at (z := sf22) rfl hf
      have hPc := hP.sub (ws' := [(mo, .inr (3, [.int nz, .ref la, .int sq, .ref sa])), (la, .inl (cI, 200, .inl lf)), (sa, .inl (cI, 64, .inl sf))]) [0, 1, 2] rfl
      have hDc := hD.sub (ws' := [(mo, .inr (3, [.int nz, .ref la, .int sq, .ref sa])), (la, .inl (cI, 200, .inl lf)), (sa, .inl (cI, 64, .inl sf))]) [0, 1, 2] (by decide) rfl
      have hKc := hK.sub (tys' := [(cI, .int)]) [0] rfl
      have hFc := va_free (wc := [(mo, .inr (3, [.int nz, .ref la, .int sq, .ref sa])), (la, .inl (cI, 200, .inl lf)), (sa, .inl (cI, 64, .inl sf))]) hD hS hA [0, 1, 2] rfl
      refine va_calli (va_runV (As := [.int q]) (rest := []) ⟨hx, hb, hml, hown, hww⟩ (c_m_negate l dC dI mo la sa cI H.size q nz sq lf sf (r20, lf21, sf22) hu) (cwV 1 hww (tq_gV tqt_524 tqt_517 tqt_518 tqt_35 tqt_519) rfl rfl rfl (by decide +kernel) ⟨Nat.le_of_ble_eq_true rfl, Nat.le_of_ble_eq_true rfl⟩) ⟨fun a U g mk q => by obtain ⟨q0, q1, qP, qK, qD, qN⟩ := q; exact ⟨q0, q1, qP, va_K.moved (u := U) (U := U.calling g mk a) (Vm.Alike.refl U.vm) qK, qD, tqN_same (u := U) (U := U.calling g mk a) rfl qN⟩, va_recv hK hP (ci := 3) rfl (q0 := 0) rfl, fun U hU hW => ⟨rfl, by rw [hU], by rw [hU]; exact hPc, va_K.moved hW.alike hKc, hDc.weaken (fun _ _ _ _ => trivial), tqN_warm hW hN⟩⟩ rfl rfl hl.1 rfl (lv_room (Nat.le_of_ble_eq_true rfl)) dM_total_56 ⟨Nat.zero_le _, Nat.zero_le _⟩) hS (fun q _ h => hFc q h) hFc (fun ra u0 t H1 locs ht hvm hpost hB hz1 hk1 hS => ?_)
      have hpost : r20 = ra := (show ra = r20 from hpost).symm
      subst hpost
      obtain ⟨hP1, hK1, hD1⟩ := hB
      rw [ht] at hP1
      obtain ⟨hP, hD⟩ := va_join (wr := []) (w1 := [(mo, .inr (3, [.int nz, .ref la, .int sq, .ref sa])), (la, .inl (cI, 200, .inl lf21)), (sa, .inl (cI, 64, .inl sf22))]) hP hD [0, 1, 2] [] rfl rfl (by decide) (by decide) hk1 hFc hP1 hD1
      generalize H1 = H at hP hS ⊢
      have hP := hP.sub (ws' := [(mo, .inr (3, [.int nz, .ref la, .int sq, .ref sa])), (la, .inl (cI, 200, .inl lf21)), (sa, .inl (cI, 64, .inl sf22))]) [0, 1, 2] rfl
      have hD := hD.sub (ws' := [(mo, .inr (3, [.int nz, .ref la, .int sq, .ref sa])), (la, .inl (cI, 200, .inl lf21)), (sa, .inl (cI, 64, .inl sf22))]) [0, 1, 2] (by decide) rfl
      refine lv_pop hx hb dM_total_59 rfl ?_
      exact B60 ls _ _ t0 sq lf21 sf22 hf (lv_sub hl [1, 2, 0] rfl) hP hD hS
  unfold m_total at hf
  refine lv_iload_n hx hb dM_total_0 rfl (lv_at hl 1 rfl) ?_
  have hPc := hP.sub (ws' := []) [] rfl
  have hDc := hD.sub (ws' := []) [] (by decide) rfl
  have hKc := hK.sub (tys' := []) [] rfl
  have hFc := va_free (wc := []) hD hS hA [] rfl
  refine va_calli (va_runS (As := [.int q]) (rest := []) ⟨hx, hb, hml, hown, hww⟩ (c_m_isSum l dC dI s.heap.size q (m_isSum q) rfl) (va_cwS 1 hww (tq_gS tqt_488 tqt_489 tqt_35 tqt_490) rfl rfl rfl (by decide +kernel) ⟨Nat.le_of_ble_eq_true rfl, Nat.le_of_ble_eq_true rfl⟩) ⟨fun a U g mk q => by obtain ⟨q0, q1, qP, qK, qD, qN⟩ := q; exact ⟨q0, q1, qP, va_K.moved (u := U) (U := U.calling g mk a) (Vm.Alike.refl U.vm) qK, qD, tqN_same (u := U) (U := U.calling g mk a) rfl qN⟩, fun U hU hW => ⟨rfl, by rw [hU], by rw [hU]; exact hPc, va_K.moved hW.alike hKc, hDc.weaken (fun _ _ _ _ => trivial), tqN_warm hW hN⟩⟩ rfl rfl hl.1 rfl (lv_room (Nat.le_of_ble_eq_true rfl)) dM_total_1 ⟨Nat.zero_le _, Nat.zero_le _⟩) hS (fun q _ h => hFc q h) hFc (fun ra u0 t H1 locs ht hvm hpost hB hz1 hk1 hS => ?_)
  have hpost : (m_isSum q) = ra := (show ra = (m_isSum q) from hpost).symm
  subst hpost
  obtain ⟨hP1, hK1, hD1⟩ := hB
  rw [ht] at hP1
  obtain ⟨hP, hD⟩ := va_join (wr := [(mo, .inr (3, [.int nz, .ref la, .int sq, .ref sa])), (la, .inl (cI, 200, .inl lf)), (sa, .inl (cI, 64, .inl sf))]) (w1 := []) hP hD [] [0, 1, 2] rfl rfl (by decide) (by decide) hk1 hFc hP1 hD1
  generalize H1 = H at hP hS ⊢
  have hP := hP.sub (ws' := [(mo, .inr (3, [.int nz, .ref la, .int sq, .ref sa])), (la, .inl (cI, 200, .inl lf)), (sa, .inl (cI, 64, .inl sf))]) [0, 1, 2] rfl
  have hD := hD.sub (ws' := [(mo, .inr (3, [.int nz, .ref la, .int sq, .ref sa])), (la, .inl (cI, 200, .inl lf)), (sa, .inl (cI, 64, .inl sf))]) [0, 1, 2] (by decide) rfl
  refine lv_if_eq hx hb dM_total_4 rfl (fun h2 => ?_) (fun h2 => ?_)
  · rw [if_pos h2] at hf
    exact B15 ls _ _ sq lf sf hf (lv_sub hl [0] rfl) hP hD hS
  · rw [if_neg h2] at hf
    refine lv_aload_n hx hb dM_total_7 rfl (lv_at hl 0 rfl) ?_
    refine lv_iload_n hx hb dM_total_8 rfl (lv_at hl 1 rfl) ?_
    obtain ⟨r4, hu, hf⟩ := tq_bd_some hf
    have hPc := hP.sub (ws' := [(mo, .inr (3, [.int nz, .ref la, .int sq, .ref sa])), (sa, .inl (cI, 64, .inl sf))]) [0, 2] rfl
    have hDc := hD.sub (ws' := [(mo, .inr (3, [.int nz, .ref la, .int sq, .ref sa])), (sa, .inl (cI, 64, .inl sf))]) [0, 2] (by decide) rfl
    have hKc := hK.sub (tys' := [(cI, .int)]) [0] rfl
    have hFc := va_free (wc := [(mo, .inr (3, [.int nz, .ref la, .int sq, .ref sa])), (sa, .inl (cI, 64, .inl sf))]) hD hS hA [0, 2] rfl
    refine va_calli (va_runV (As := [.int q]) (rest := []) ⟨hx, hb, hml, hown, hww⟩ (c_m_lost l dC dI mo la sa cI H.size q nz sq sf r4 hu) (cwV 1 hww (tq_gV tqt_500 tqt_502 tqt_27 tqt_35 tqt_503) rfl rfl rfl (by decide +kernel) ⟨Nat.le_of_ble_eq_true rfl, Nat.le_of_ble_eq_true rfl⟩) ⟨fun a U g mk q => by obtain ⟨q0, q1, qP, qK, qD, qN⟩ := q; exact ⟨q0, q1, qP, va_K.moved (u := U) (U := U.calling g mk a) (Vm.Alike.refl U.vm) qK, qD, tqN_same (u := U) (U := U.calling g mk a) rfl qN⟩, va_recv hK hP (ci := 3) rfl (q0 := 0) rfl, fun U hU hW => ⟨rfl, by rw [hU], by rw [hU]; exact hPc, va_K.moved hW.alike hKc, hDc.weaken (fun _ _ _ _ => trivial), tqN_warm hW hN⟩⟩ rfl rfl hl.1 rfl (lv_room (Nat.le_of_ble_eq_true rfl)) dM_total_9 ⟨Nat.zero_le _, Nat.zero_le _⟩) hS (fun q _ h => hFc q h) hFc (fun ra u0 t H1 locs ht hvm hpost hB hz1 hk1 hS => ?_)
    have hpost : r4 = ra := (show ra = r4 from hpost).symm
    subst hpost
    obtain ⟨hP1, hK1, hD1⟩ := hB
    rw [ht] at hP1
    obtain ⟨hP, hD⟩ := va_join (wr := [(la, .inl (cI, 200, .inl lf))]) (w1 := [(mo, .inr (3, [.int nz, .ref la, .int sq, .ref sa])), (sa, .inl (cI, 64, .inl sf))]) hP hD [0, 2] [1] rfl rfl (by decide) (by decide) hk1 hFc hP1 hD1
    generalize H1 = H at hP hS ⊢
    have hP := hP.sub (ws' := [(mo, .inr (3, [.int nz, .ref la, .int sq, .ref sa])), (la, .inl (cI, 200, .inl lf)), (sa, .inl (cI, 64, .inl sf))]) [1, 0, 2] rfl
    have hD := hD.sub (ws' := [(mo, .inr (3, [.int nz, .ref la, .int sq, .ref sa])), (la, .inl (cI, 200, .inl lf)), (sa, .inl (cI, 64, .inl sf))]) [1, 0, 2] (by decide) rfl
    refine lv_if_eq hx hb dM_total_12 rfl (fun h5 => ?_) (fun h5 => ?_)
    · rw [if_pos h5] at hf
      refine lv_aload_n hx hb dM_total_23 rfl (lv_at hl 0 rfl) ?_
      refine va_get (D := (dC, dI)) (ci := 3) (v := .ref sa) (C := RM) (T := TM) (N := 4) hx hb hww tqinM hown hK hP 0 rfl rfl 3 (by decide) (hww _ tqt_333) (fun _ h9 => h9) rfl dM_total_24 ?_
      refine lv_bipush (v := 32) hx hb dM_total_27 (by decide) ?_
      refine lv_iload_n hx hb dM_total_29 rfl (lv_at hl 1 rfl) ?_
      refine lv_imul hx hb dM_total_30 ?_
      refine lv_aload_n hx hb dM_total_31 rfl (lv_at hl 0 rfl) ?_
      refine va_get (D := (dC, dI)) (ci := 3) (v := .int nz) (C := RM) (T := TM) (N := 4) hx hb hww tqinM hown hK hP 0 rfl rfl 0 (by decide) (hww _ tqt_330) (fun _ h9 => h9) rfl dM_total_32 ?_
      refine lv_iadd hx hb dM_total_35 ?_
      refine lv_iconst (v := 1) hx hb dM_total_36 (by decide) ?_
      refine lv_isub hx hb dM_total_37 ?_
      by_cases h6 : (((((32 : Int32) * q) + nz) - (1 : Int32)) < 0 ∨ 64 ≤ ((((32 : Int32) * q) + nz) - (1 : Int32)).toNatClampNeg)
      · rw [if_pos h6] at hf
        cases hf
      · rw [if_neg h6] at hf
        refine va_iald hx hb hK hP 2 0 rfl rfl h6 dM_total_38 ?_
        refine lv_ldc (v := 32768) hx hb hown (hww _ tqt_499) dM_total_39 ?_
        refine lv_icmp_lt hx hb dM_total_41 rfl (fun h7 => ?_) (fun h7 => ?_)
        · rw [if_pos h7] at hf
          refine lv_iconst (v := 0) hx hb dM_total_48 (by decide) ?_
          exact B49 ls _ _ (0 : Int32) sq lf sf hf (lv_sub hl [0, 1] rfl) hP hD hS
        · rw [if_neg h7] at hf
          refine lv_iconst (v := 1) hx hb dM_total_44 (by decide) ?_
          refine lv_goto hx hb dM_total_45 rfl ?_
          exact B49 ls _ _ (1 : Int32) sq lf sf hf (lv_sub hl [0, 1] rfl) hP hD hS
    · rw [if_neg h5] at hf
      exact B15 ls _ _ sq lf sf hf (lv_sub hl [0] rfl) hP hD hS
set_option maxHeartbeats 4000000 in
set_option maxRecDepth 100000 in
theorem c_m_word (l : Launch) (dC : Nat → ClassId) (dI : Nat → Nat → Nat) (mo : Nat) (la : Nat) (sa : Nat) (cI : ClassId) (sz : Nat) (q : Int32) (kx : Int32) (nz : Int32) (sq : Int32) (sf : Nat → Int32) (r : Int64) (hf : m_word nz sf q kx = some r) : Met l yM_word tqw_M_word ({ frames := 1, cells := 0, slots := 0, locals := 20 }) (va_Pc [.ref mo, .int q, .int kx] (fun U => U.heap.size = sz ∧ va_P (dC, dI) tqCl [(mo, .inr (3, [.int nz, .ref la, .int sq, .ref sa])), (sa, .inl (cI, 64, .inl sf))] U.heap ∧ va_K (dC, dI) tqCl [(cI, .int)] U ∧ va_D (fun _ => True) [(mo, .inr (3, [.int nz, .ref la, .int sq, .ref sa])), (sa, .inl (cI, 64, .inl sf))] ∧ tqN U)) (va_Ql (fun (a : Int64) (_ : Unit) => a = r) (fun (_ : Unit) (t : State) => va_P (dC, dI) tqCl [(mo, .inr (3, [.int nz, .ref la, .int sq, .ref sa])), (sa, .inl (cI, 64, .inl sf))] t.heap ∧ va_K (dC, dI) tqCl [(cI, .int)] t ∧ va_D (va_A [(mo, .inr (3, [.int nz, .ref la, .int sq, .ref sa])), (sa, .inl (cI, 64, .inl sf))] sz) [(mo, .inr (3, [.int nz, .ref la, .int sq, .ref sa])), (sa, .inl (cI, 64, .inl sf))]) (va_A [(mo, .inr (3, [.int nz, .ref la, .int sq, .ref sa])), (sa, .inl (cI, 64, .inl sf))] sz)) 0 0 (va_A [(mo, .inr (3, [.int nz, .ref la, .int sq, .ref sa])), (sa, .inl (cI, 64, .inl sf))] sz) := by
  refine Met.ofW (cc := cM_word) (maxL := 6) (ret := (some .long)) (by decide) rfl ?_
  intro p e s m args below meth c s₁ B hml hv
  obtain ⟨rfl, hsz, hP, hK, hD0, hN⟩ := hv
  have hx := B.exec
  have hb := B.bytes
  have hr := B.returns
  have hts := atoms_spec (ws := tqw_M_word) B.pre
  have hww : ∀ w ∈ tqW, w.before _ s = true := fun w h => hts w (List.mem_cons_of_mem _ h)
  have hown : s.vm.findClass RM = some m.cls := findClass_of_methodNamed B.named
  have hlocks := B.notSynchronized
  subst hsz
  have hD := hD0.self (sz := s.heap.size)
  generalize hAe : va_A [(mo, .inr (3, [.int nz, .ref la, .int sq, .ref sa])), (sa, .inl (cI, 64, .inl sf))] s.heap.size = A at hD ⊢
  have hA : ∀ q : Nat, s.heap.size ≤ q → A q := fun q h => by rw [← hAe]; exact Or.inr h
  have hS : va_S A s.heap s.heap [] := va_S.rf
  have hP : va_P (dC, dI) tqCl [(mo, .inr (3, [.int nz, .ref la, .int sq, .ref sa])), (sa, .inl (cI, 64, .inl sf))] s.heap := hP
  have hl := lv_entry ([.ref mo, .int q, .int kx]) (n := 6) (Nat.le_of_ble_eq_true rfl)
  rw [lg_entry_eq]
  generalize (lg_sl ([.ref mo, .int q, .int kx]) ++ List.replicate (6 - (lg_sl ([.ref mo, .int q, .int kx])).length) Slot.unset).toArray = ls at hl ⊢
  have hl : lv_has ls 6 [(0, .ref mo), (1, .int q), (2, .int kx)] := hl
  have B28 : ∀ (n28 : Nat) (ls : Array Slot) (H : Heap) (locs : List Loc) (v3 : Int64) (v5 : Int32), m_word_b28 sf q kx n28 v3 v5 = some r → lv_has ls 6 [(0, .ref mo), (1, .int q), (2, .int kx), (3, .long v3), (5, .int v5)] → va_P (dC, dI) tqCl [(mo, .inr (3, [.int nz, .ref la, .int sq, .ref sa])), (sa, .inl (cI, 64, .inl sf))] H → va_D A [(mo, .inr (3, [.int nz, .ref la, .int sq, .ref sa])), (sa, .inl (cI, 64, .inl sf))] → va_S A s.heap H locs → W p l e ({ frames := 1, cells := 0, slots := 0, locals := 20 }) s m ([.ref mo, .int q, .int kx] : List Value).toArray below meth c H locs 0 0 (MQ below (va_Ql (fun (a : Int64) (_ : Unit) => a = r) (fun (_ : Unit) (t : State) => va_P (dC, dI) tqCl [(mo, .inr (3, [.int nz, .ref la, .int sq, .ref sa])), (sa, .inl (cI, 64, .inl sf))] t.heap ∧ va_K (dC, dI) tqCl [(cI, .int)] t ∧ va_D (A) [(mo, .inr (3, [.int nz, .ref la, .int sq, .ref sa])), (sa, .inl (cI, 64, .inl sf))]) (A)) ([.ref mo, .int q, .int kx] : List Value).toArray s 0 0 A) (F0 m 28 ls []) := by
    try clear hf
    intro n28
    induction n28 with
    | zero =>
      intro ls H locs v3 v5 hf hl hP hD hS
      have hf : (none : Option (Int64)) = some r := hf
      cases hf
    | succ n28 ih28 =>
      intro ls H locs v3 v5 hf hl hP hD hS
      unfold m_word_b28 at hf
      refine lv_iload hx hb dM_word_28 (lv_at hl 4 rfl) ?_
      refine lv_if_lt hx hb dM_word_30 rfl (fun h5 => ?_) (fun h5 => ?_)
      · rw [if_pos h5] at hf
        refine lv_lload_n hx hb dM_word_62 rfl (lv_at hl 3 rfl) ?_
        have hf := Option.some.inj hf
        subst hf
        exact W.lret (v := v3) hx hb hr (fun t ht hW => ⟨⟨v3, (), rfl, rfl, by rw [ht]; exact hP, va_K.moved hW.alike hK, hD⟩, hS.F ht⟩) hS.2.2 dM_word_63
      · rw [if_neg h5] at hf
        refine lv_lload_n hx hb dM_word_33 rfl (lv_at hl 3 rfl) ?_
        refine lv_bipush (v := 16) hx hb dM_word_34 (by decide) ?_
        refine lv_lshl hx hb dM_word_36 rfl ?_
        refine lv_aload_n hx hb dM_word_37 rfl (lv_at hl 0 rfl) ?_
        refine va_get (D := (dC, dI)) (ci := 3) (v := .ref sa) (C := RM) (T := TM) (N := 4) hx hb hww tqinM hown hK hP 0 rfl rfl 3 (by decide) (hww _ tqt_333) (fun _ h9 => h9) rfl dM_word_38 ?_
        refine lv_bipush (v := 32) hx hb dM_word_41 (by decide) ?_
        refine lv_iload_n hx hb dM_word_43 rfl (lv_at hl 1 rfl) ?_
        refine lv_imul hx hb dM_word_44 ?_
        refine lv_iconst (v := 4) hx hb dM_word_45 (by decide) ?_
        refine lv_iload_n hx hb dM_word_46 rfl (lv_at hl 2 rfl) ?_
        refine lv_imul hx hb dM_word_47 ?_
        refine lv_iadd hx hb dM_word_48 ?_
        refine lv_iload hx hb dM_word_49 (lv_at hl 4 rfl) ?_
        refine lv_iadd hx hb dM_word_51 ?_
        by_cases h6 : (((((32 : Int32) * q) + ((4 : Int32) * kx)) + v5) < 0 ∨ 64 ≤ ((((32 : Int32) * q) + ((4 : Int32) * kx)) + v5).toNatClampNeg)
        · rw [if_pos h6] at hf
          cases hf
        · rw [if_neg h6] at hf
          refine va_iald hx hb hK hP 1 0 rfl rfl h6 dM_word_52 ?_
          refine lv_i2l hx hb dM_word_53 rfl ?_
          refine lv_lor hx hb dM_word_54 ?_
          refine lv_topl (fun x7 e7 => ?_)
          have hf := tq_nm_at e7 hf
          refine lv_lstore_n (lv' := [(3, .long x7), (0, .ref mo), (1, .int q), (2, .int kx), (5, .int v5)]) hx hb dM_word_55 rfl hl (by decide) rfl (fun ls hl => ?_)
          refine lv_iinc (v := v5 + (-1 : Int32)) (lv' := [(5, .int (v5 + (-1 : Int32))), (3, .long x7), (0, .ref mo), (1, .int q), (2, .int kx)]) hx hb dM_word_56 hl (k := 4) rfl rfl (by decide) rfl (fun ls hl => ?_)
          refine lv_goto hx hb dM_word_59 rfl ?_
          exact ih28 ls _ _ x7 (v5 + (-1 : Int32)) hf (lv_sub hl [2, 3, 4, 1, 0] rfl) hP hD hS
  unfold m_word at hf
  refine lv_iload_n hx hb dM_word_0 rfl (lv_at hl 1 rfl) ?_
  have hPc := hP.sub (ws' := []) [] rfl
  have hDc := hD.sub (ws' := []) [] (by decide) rfl
  have hKc := hK.sub (tys' := []) [] rfl
  have hFc := va_free (wc := []) hD hS hA [] rfl
  refine va_calli (va_runS (As := [.int q]) (rest := []) ⟨hx, hb, hml, hown, hww⟩ (c_m_isSum l dC dI s.heap.size q (m_isSum q) rfl) (va_cwS 1 hww (tq_gS tqt_488 tqt_489 tqt_35 tqt_490) rfl rfl rfl (by decide +kernel) ⟨Nat.le_of_ble_eq_true rfl, Nat.le_of_ble_eq_true rfl⟩) ⟨fun a U g mk q => by obtain ⟨q0, q1, qP, qK, qD, qN⟩ := q; exact ⟨q0, q1, qP, va_K.moved (u := U) (U := U.calling g mk a) (Vm.Alike.refl U.vm) qK, qD, tqN_same (u := U) (U := U.calling g mk a) rfl qN⟩, fun U hU hW => ⟨rfl, by rw [hU], by rw [hU]; exact hPc, va_K.moved hW.alike hKc, hDc.weaken (fun _ _ _ _ => trivial), tqN_warm hW hN⟩⟩ rfl rfl hl.1 rfl (lv_room (Nat.le_of_ble_eq_true rfl)) dM_word_1 ⟨Nat.zero_le _, Nat.zero_le _⟩) hS (fun q _ h => hFc q h) hFc (fun ra u0 t H1 locs ht hvm hpost hB hz1 hk1 hS => ?_)
  have hpost : (m_isSum q) = ra := (show ra = (m_isSum q) from hpost).symm
  subst hpost
  obtain ⟨hP1, hK1, hD1⟩ := hB
  rw [ht] at hP1
  obtain ⟨hP, hD⟩ := va_join (wr := [(mo, .inr (3, [.int nz, .ref la, .int sq, .ref sa])), (sa, .inl (cI, 64, .inl sf))]) (w1 := []) hP hD [] [0, 1] rfl rfl (by decide) (by decide) hk1 hFc hP1 hD1
  generalize H1 = H at hP hS ⊢
  have hP := hP.sub (ws' := [(mo, .inr (3, [.int nz, .ref la, .int sq, .ref sa])), (sa, .inl (cI, 64, .inl sf))]) [0, 1] rfl
  have hD := hD.sub (ws' := [(mo, .inr (3, [.int nz, .ref la, .int sq, .ref sa])), (sa, .inl (cI, 64, .inl sf))]) [0, 1] (by decide) rfl
  refine lv_if_eq hx hb dM_word_4 rfl (fun h2 => ?_) (fun h2 => ?_)
  · rw [if_pos h2] at hf
    refine lv_lconst (v := 0) hx hb dM_word_21 (by decide) ?_
    have hf := Option.some.inj hf
    subst hf
    exact W.lret (v := (0 : Int64)) hx hb hr (fun t ht hW => ⟨⟨(0 : Int64), (), rfl, rfl, by rw [ht]; exact hP, va_K.moved hW.alike hK, hD⟩, hS.F ht⟩) hS.2.2 dM_word_22
  · rw [if_neg h2] at hf
    refine lv_iload_n hx hb dM_word_7 rfl (lv_at hl 2 rfl) ?_
    refine lv_if_lt hx hb dM_word_8 rfl (fun h3 => ?_) (fun h3 => ?_)
    · rw [if_pos h3] at hf
      refine lv_lconst (v := 0) hx hb dM_word_21 (by decide) ?_
      have hf := Option.some.inj hf
      subst hf
      exact W.lret (v := (0 : Int64)) hx hb hr (fun t ht hW => ⟨⟨(0 : Int64), (), rfl, rfl, by rw [ht]; exact hP, va_K.moved hW.alike hK, hD⟩, hS.F ht⟩) hS.2.2 dM_word_22
    · rw [if_neg h3] at hf
      refine lv_iload_n hx hb dM_word_11 rfl (lv_at hl 2 rfl) ?_
      refine lv_aload_n hx hb dM_word_12 rfl (lv_at hl 0 rfl) ?_
      refine va_get (D := (dC, dI)) (ci := 3) (v := .int nz) (C := RM) (T := TM) (N := 4) hx hb hww tqinM hown hK hP 0 rfl rfl 0 (by decide) (hww _ tqt_330) (fun _ h9 => h9) rfl dM_word_13 ?_
      refine lv_iconst (v := 4) hx hb dM_word_16 (by decide) ?_
      refine lv_idiv hx hb dM_word_17 (by decide) ?_
      refine lv_icmp_lt hx hb dM_word_18 rfl (fun h4 => ?_) (fun h4 => ?_)
      · rw [if_pos h4] at hf
        refine lv_lconst (v := 0) hx hb dM_word_23 (by decide) ?_
        refine lv_lstore_n (lv' := [(3, .long (0 : Int64)), (0, .ref mo), (1, .int q), (2, .int kx)]) hx hb dM_word_24 rfl hl (by decide) rfl (fun ls hl => ?_)
        refine lv_iconst (v := 3) hx hb dM_word_25 (by decide) ?_
        refine lv_istore (lv' := [(5, .int (3 : Int32)), (3, .long (0 : Int64)), (0, .ref mo), (1, .int q), (2, .int kx)]) hx hb dM_word_26 hl (by decide) rfl (fun ls hl => ?_)
        exact B28 41 ls _ _ (0 : Int64) (3 : Int32) hf (lv_sub hl [2, 3, 4, 1, 0] rfl) hP hD hS
      · rw [if_neg h4] at hf
        refine lv_lconst (v := 0) hx hb dM_word_21 (by decide) ?_
        have hf := Option.some.inj hf
        subst hf
        exact W.lret (v := (0 : Int64)) hx hb hr (fun t ht hW => ⟨⟨(0 : Int64), (), rfl, rfl, by rw [ht]; exact hP, va_K.moved hW.alike hK, hD⟩, hS.F ht⟩) hS.2.2 dM_word_22
set_option maxHeartbeats 4000000 in
set_option maxRecDepth 100000 in
theorem c_m_compare (l : Launch) (dC : Nat → ClassId) (dI : Nat → Nat → Nat) (mo : Nat) (la : Nat) (sa : Nat) (sz : Nat) (x : Int32) (y : Int32) (nz : Int32) (sq : Int32) (r : Int32) (hf : m_compare nz x y = r) : Met l yM_compare tqw_M_compare ({ frames := 1, cells := 0, slots := 0, locals := 21 }) (va_Pc [.ref mo, .int x, .int y] (fun U => U.heap.size = sz ∧ va_P (dC, dI) tqCl [(mo, .inr (3, [.int nz, .ref la, .int sq, .ref sa]))] U.heap ∧ va_K (dC, dI) tqCl [] U ∧ va_D (fun _ => True) [(mo, .inr (3, [.int nz, .ref la, .int sq, .ref sa]))] ∧ tqN U)) (va_Qi (fun (a : Int32) (_ : Unit) => a = r) (fun (_ : Unit) (t : State) => va_P (dC, dI) tqCl [(mo, .inr (3, [.int nz, .ref la, .int sq, .ref sa]))] t.heap ∧ va_K (dC, dI) tqCl [] t ∧ va_D (va_A [(mo, .inr (3, [.int nz, .ref la, .int sq, .ref sa]))] sz) [(mo, .inr (3, [.int nz, .ref la, .int sq, .ref sa]))]) (va_A [(mo, .inr (3, [.int nz, .ref la, .int sq, .ref sa]))] sz)) 0 0 (va_A [(mo, .inr (3, [.int nz, .ref la, .int sq, .ref sa]))] sz) := by
  refine Met.ofW (cc := cM_compare) (maxL := 5) (ret := (some .int)) (by decide) rfl ?_
  intro p e s m args below meth c s₁ B hml hv
  obtain ⟨rfl, hsz, hP, hK, hD0, hN⟩ := hv
  have hx := B.exec
  have hb := B.bytes
  have hr := B.returns
  have hts := atoms_spec (ws := tqw_M_compare) B.pre
  have hww : ∀ w ∈ tqW, w.before _ s = true := fun w h => hts w (List.mem_cons_of_mem _ h)
  have hown : s.vm.findClass RM = some m.cls := findClass_of_methodNamed B.named
  have hlocks := B.notSynchronized
  subst hsz
  have hD := hD0.self (sz := s.heap.size)
  generalize hAe : va_A [(mo, .inr (3, [.int nz, .ref la, .int sq, .ref sa]))] s.heap.size = A at hD ⊢
  have hA : ∀ q : Nat, s.heap.size ≤ q → A q := fun q h => by rw [← hAe]; exact Or.inr h
  have hS : va_S A s.heap s.heap [] := va_S.rf
  have hP : va_P (dC, dI) tqCl [(mo, .inr (3, [.int nz, .ref la, .int sq, .ref sa]))] s.heap := hP
  have hl := lv_entry ([.ref mo, .int x, .int y]) (n := 5) (Nat.le_of_ble_eq_true rfl)
  rw [lg_entry_eq]
  generalize (lg_sl ([.ref mo, .int x, .int y]) ++ List.replicate (5 - (lg_sl ([.ref mo, .int x, .int y])).length) Slot.unset).toArray = ls at hl ⊢
  have hl : lv_has ls 5 [(0, .ref mo), (1, .int x), (2, .int y)] := hl
  unfold m_compare at hf
  refine lv_aload_n hx hb dM_compare_0 rfl (lv_at hl 0 rfl) ?_
  refine lv_iload_n hx hb dM_compare_1 rfl (lv_at hl 1 rfl) ?_
  have hPc := hP.sub (ws' := [(mo, .inr (3, [.int nz, .ref la, .int sq, .ref sa]))]) [0] rfl
  have hDc := hD.sub (ws' := [(mo, .inr (3, [.int nz, .ref la, .int sq, .ref sa]))]) [0] (by decide) rfl
  have hKc := hK.sub (tys' := []) [] rfl
  have hFc := va_free (wc := [(mo, .inr (3, [.int nz, .ref la, .int sq, .ref sa]))]) hD hS hA [0] rfl
  refine va_calli (va_runV (As := [.int x]) (rest := []) ⟨hx, hb, hml, hown, hww⟩ (c_m_pattern l dC dI mo la sa s.heap.size x nz sq (m_pattern nz x) rfl) (cwV 1 hww (tq_gV tqt_360 tqt_362 tqt_7 tqt_35 tqt_363) rfl rfl rfl (by decide +kernel) ⟨Nat.le_of_ble_eq_true rfl, Nat.le_of_ble_eq_true rfl⟩) ⟨fun a U g mk q => by obtain ⟨q0, q1, qP, qK, qD, qN⟩ := q; exact ⟨q0, q1, qP, va_K.moved (u := U) (U := U.calling g mk a) (Vm.Alike.refl U.vm) qK, qD, tqN_same (u := U) (U := U.calling g mk a) rfl qN⟩, va_recv hK hP (ci := 3) rfl (q0 := 0) rfl, fun U hU hW => ⟨rfl, by rw [hU], by rw [hU]; exact hPc, va_K.moved hW.alike hKc, hDc.weaken (fun _ _ _ _ => trivial), tqN_warm hW hN⟩⟩ rfl rfl hl.1 rfl (lv_room (Nat.le_of_ble_eq_true rfl)) dM_compare_2 ⟨Nat.zero_le _, Nat.zero_le _⟩) hS (fun q _ h => hFc q h) hFc (fun ra u0 t H1 locs ht hvm hpost hB hz1 hk1 hS => ?_)
  have hpost : (m_pattern nz x) = ra := (show ra = (m_pattern nz x) from hpost).symm
  subst hpost
  obtain ⟨hP1, hK1, hD1⟩ := hB
  rw [ht] at hP1
  obtain ⟨hP, hD⟩ := va_join (wr := []) (w1 := [(mo, .inr (3, [.int nz, .ref la, .int sq, .ref sa]))]) hP hD [0] [] rfl rfl (by decide) (by decide) hk1 hFc hP1 hD1
  generalize H1 = H at hP hS ⊢
  have hP := hP.sub (ws' := [(mo, .inr (3, [.int nz, .ref la, .int sq, .ref sa]))]) [0] rfl
  have hD := hD.sub (ws' := [(mo, .inr (3, [.int nz, .ref la, .int sq, .ref sa]))]) [0] (by decide) rfl
  refine lv_topi (fun x2 e2 => ?_)
  have hf := tq_nm_at e2 hf
  refine lv_istore_n (lv' := [(3, .int x2), (0, .ref mo), (1, .int x), (2, .int y)]) hx hb dM_compare_5 rfl hl (by decide) rfl (fun ls hl => ?_)
  refine lv_aload_n hx hb dM_compare_6 rfl (lv_at hl 1 rfl) ?_
  refine lv_iload_n hx hb dM_compare_7 rfl (lv_at hl 3 rfl) ?_
  have hPc := hP.sub (ws' := [(mo, .inr (3, [.int nz, .ref la, .int sq, .ref sa]))]) [0] rfl
  have hDc := hD.sub (ws' := [(mo, .inr (3, [.int nz, .ref la, .int sq, .ref sa]))]) [0] (by decide) rfl
  have hKc := hK.sub (tys' := []) [] rfl
  have hFc := va_free (wc := [(mo, .inr (3, [.int nz, .ref la, .int sq, .ref sa]))]) hD hS hA [0] rfl
  refine va_calli (va_runV (As := [.int y]) (rest := []) ⟨hx, hb, hml, hown, hww⟩ (c_m_pattern l dC dI mo la sa H.size y nz sq (m_pattern nz y) rfl) (cwV 1 hww (tq_gV tqt_360 tqt_362 tqt_7 tqt_35 tqt_363) rfl rfl rfl (by decide +kernel) ⟨Nat.le_of_ble_eq_true rfl, Nat.le_of_ble_eq_true rfl⟩) ⟨fun a U g mk q => by obtain ⟨q0, q1, qP, qK, qD, qN⟩ := q; exact ⟨q0, q1, qP, va_K.moved (u := U) (U := U.calling g mk a) (Vm.Alike.refl U.vm) qK, qD, tqN_same (u := U) (U := U.calling g mk a) rfl qN⟩, va_recv hK hP (ci := 3) rfl (q0 := 0) rfl, fun U hU hW => ⟨rfl, by rw [hU], by rw [hU]; exact hPc, va_K.moved hW.alike hKc, hDc.weaken (fun _ _ _ _ => trivial), tqN_warm hW hN⟩⟩ rfl rfl hl.1 rfl (lv_room (Nat.le_of_ble_eq_true rfl)) dM_compare_8 ⟨Nat.zero_le _, Nat.zero_le _⟩) hS (fun q _ h => hFc q h) hFc (fun ra u0 t H1 locs ht hvm hpost hB hz1 hk1 hS => ?_)
  have hpost : (m_pattern nz y) = ra := (show ra = (m_pattern nz y) from hpost).symm
  subst hpost
  obtain ⟨hP1, hK1, hD1⟩ := hB
  rw [ht] at hP1
  obtain ⟨hP, hD⟩ := va_join (wr := []) (w1 := [(mo, .inr (3, [.int nz, .ref la, .int sq, .ref sa]))]) hP hD [0] [] rfl rfl (by decide) (by decide) hk1 hFc hP1 hD1
  generalize H1 = H at hP hS ⊢
  have hP := hP.sub (ws' := [(mo, .inr (3, [.int nz, .ref la, .int sq, .ref sa]))]) [0] rfl
  have hD := hD.sub (ws' := [(mo, .inr (3, [.int nz, .ref la, .int sq, .ref sa]))]) [0] (by decide) rfl
  refine lv_topi (fun x4 e4 => ?_)
  have hf := tq_nm_at e4 hf
  refine lv_istore (lv' := [(4, .int x4), (3, .int x2), (0, .ref mo), (1, .int x), (2, .int y)]) hx hb dM_compare_11 hl (by decide) rfl (fun ls hl => ?_)
  refine lv_iload_n hx hb dM_compare_13 rfl (lv_at hl 1 rfl) ?_
  refine lv_iload hx hb dM_compare_14 (lv_at hl 0 rfl) ?_
  refine lv_icmp_ne hx hb dM_compare_16 rfl (fun h5 => ?_) (fun h5 => ?_)
  · rw [if_pos h5] at hf
    refine lv_iload_n hx hb dM_compare_23 rfl (lv_at hl 1 rfl) ?_
    refine lv_iload hx hb dM_compare_24 (lv_at hl 0 rfl) ?_
    refine lv_icmp_ge hx hb dM_compare_26 rfl (fun h6 => ?_) (fun h6 => ?_)
    · rw [if_pos h6] at hf
      refine lv_iconst (v := 1) hx hb dM_compare_33 (by decide) ?_
      subst hf
      exact W.iret (v := (1 : Int32)) hx hb hr (fun t ht hW => ⟨⟨(1 : Int32), (), rfl, rfl, by rw [ht]; exact hP, va_K.moved hW.alike hK, hD⟩, hS.F ht⟩) hS.2.2 dM_compare_34
    · rw [if_neg h6] at hf
      refine lv_iconst (v := -1) hx hb dM_compare_29 (by decide) ?_
      refine lv_goto hx hb dM_compare_30 rfl ?_
      subst hf
      exact W.iret (v := (-1 : Int32)) hx hb hr (fun t ht hW => ⟨⟨(-1 : Int32), (), rfl, rfl, by rw [ht]; exact hP, va_K.moved hW.alike hK, hD⟩, hS.F ht⟩) hS.2.2 dM_compare_34
  · rw [if_neg (fun q : ¬ x2 = x4 => q h5)] at hf
    refine lv_iconst (v := 0) hx hb dM_compare_19 (by decide) ?_
    refine lv_goto hx hb dM_compare_20 rfl ?_
    subst hf
    exact W.iret (v := (0 : Int32)) hx hb hr (fun t ht hW => ⟨⟨(0 : Int32), (), rfl, rfl, by rw [ht]; exact hP, va_K.moved hW.alike hK, hD⟩, hS.F ht⟩) hS.2.2 dM_compare_34
