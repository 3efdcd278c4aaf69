set_option maxHeartbeats 4000000 in
set_option maxRecDepth 100000 in
theorem c_m_nearest (l : Launch) (dC : Nat → ClassId) (dI : Nat → Nat → Nat) (mo : Nat) (la : Nat) (sa : Nat) (cI : ClassId) (sz : Nat) (x : Int32) (nz : Int32) (sq : Int32) (lf : Nat → Int32) (r : (Nat → Int32)) (hf : m_nearest nz lf x = some r) : Met l yM_nearest tqw_M_nearest ({ frames := 4, cells := 0, slots := 0, locals := 104 }) (va_Pc [.ref mo, .int x] (fun U => U.heap.size = sz ∧ va_P (dC, dI) tqCl [(mo, .inr (3, [.int nz, .ref la, .int sq, .ref sa])), (la, .inl (cI, 200, .inl lf))] U.heap ∧ va_K (dC, dI) tqCl [(cI, .int)] U ∧ va_D (fun _ => True) [(mo, .inr (3, [.int nz, .ref la, .int sq, .ref sa])), (la, .inl (cI, 200, .inl lf))] ∧ tqN U)) (va_Qv (fun (_ : Unit) => True) (fun (_ : Unit) (t : State) => va_P (dC, dI) tqCl [(mo, .inr (3, [.int nz, .ref la, .int sq, .ref sa])), (la, .inl (cI, 200, .inl r))] t.heap ∧ va_K (dC, dI) tqCl [(cI, .int)] t ∧ va_D (va_A [(mo, .inr (3, [.int nz, .ref la, .int sq, .ref sa])), (la, .inl (cI, 200, .inl lf))] sz) [(mo, .inr (3, [.int nz, .ref la, .int sq, .ref sa])), (la, .inl (cI, 200, .inl r))]) (va_A [(mo, .inr (3, [.int nz, .ref la, .int sq, .ref sa])), (la, .inl (cI, 200, .inl lf))] sz)) 0 0 (va_A [(mo, .inr (3, [.int nz, .ref la, .int sq, .ref sa])), (la, .inl (cI, 200, .inl lf))] sz) := by
  refine Met.ofW (cc := cM_nearest) (maxL := 5) (ret := none) (by decide) rfl ?_
  intro p e s m args below meth c s₁ B hml hv
  obtain ⟨rfl, hsz, hP, hK, hD0, hN⟩ := hv
  have hx := B.exec
  have hb := B.bytes
  have hr := B.returns
  have hts := atoms_spec (ws := tqw_M_nearest) B.pre
  have hww : ∀ w ∈ tqW, w.before _ s = true := fun w h => hts w (List.mem_cons_of_mem _ h)
  have hown : s.vm.findClass RM = some m.cls := findClass_of_methodNamed B.named
  have hlocks := B.notSynchronized
  subst hsz
  have hD := hD0.self (sz := s.heap.size)
  generalize hAe : va_A [(mo, .inr (3, [.int nz, .ref la, .int sq, .ref sa])), (la, .inl (cI, 200, .inl lf))] s.heap.size = A at hD ⊢
  have hA : ∀ q : Nat, s.heap.size ≤ q → A q := fun q h => by rw [← hAe]; exact Or.inr h
  have hS : va_S A s.heap s.heap [] := va_S.rf
  have hP : va_P (dC, dI) tqCl [(mo, .inr (3, [.int nz, .ref la, .int sq, .ref sa])), (la, .inl (cI, 200, .inl lf))] s.heap := hP
  have hl := lv_entry ([.ref mo, .int x]) (n := 5) (Nat.le_of_ble_eq_true rfl)
  rw [lg_entry_eq]
  generalize (lg_sl ([.ref mo, .int x]) ++ List.replicate (5 - (lg_sl ([.ref mo, .int x])).length) Slot.unset).toArray = ls at hl ⊢
  have hl : lv_has ls 5 [(0, .ref mo), (1, .int x)] := hl
  have B89 : ∀ (ls : Array Slot) (H : Heap) (locs : List Loc) (lf : Nat → Int32), m_nearest_b89 lf = some r → lv_has ls 5 [(0, .ref mo)] → va_P (dC, dI) tqCl [(mo, .inr (3, [.int nz, .ref la, .int sq, .ref sa])), (la, .inl (cI, 200, .inl lf))] H → va_D A [(mo, .inr (3, [.int nz, .ref la, .int sq, .ref sa])), (la, .inl (cI, 200, .inl lf))] → va_S A s.heap H locs → W p l e ({ frames := 4, cells := 0, slots := 0, locals := 104 }) s m ([.ref mo, .int x] : List Value).toArray below meth c H locs 0 0 (MQ below (va_Qv (fun (_ : Unit) => True) (fun (_ : Unit) (t : State) => va_P (dC, dI) tqCl [(mo, .inr (3, [.int nz, .ref la, .int sq, .ref sa])), (la, .inl (cI, 200, .inl r))] t.heap ∧ va_K (dC, dI) tqCl [(cI, .int)] t ∧ va_D (A) [(mo, .inr (3, [.int nz, .ref la, .int sq, .ref sa])), (la, .inl (cI, 200, .inl r))]) (A)) ([.ref mo, .int x] : List Value).toArray s 0 0 A) (F0 m 89 ls []) := by
    try clear hf
    intro ls H locs lf hf hl hP hD hS
    unfold m_nearest_b89 at hf
    refine lv_aload_n hx hb dM_nearest_89 rfl (lv_at hl 0 rfl) ?_
    refine lv_iconst (v := 1) hx hb dM_nearest_90 (by decide) ?_
    refine lv_lconst (v := 1) hx hb dM_nearest_91 (by decide) ?_
    obtain ⟨lf8, hu, hf⟩ := tq_bd_some hf
    have hPc := hP.sub (ws' := [(mo, .inr (3, [.int nz, .ref la, .int sq, .ref sa])), (la, .inl (cI, 200, .inl lf))]) [0, 1] rfl
    have hDc := hD.sub (ws' := [(mo, .inr (3, [.int nz, .ref la, .int sq, .ref sa])), (la, .inl (cI, 200, .inl lf))]) [0, 1] (by decide) rfl
    have hKc := hK.sub (tys' := [(cI, .int)]) [0] rfl
    have hFc := va_free (wc := [(mo, .inr (3, [.int nz, .ref la, .int sq, .ref sa])), (la, .inl (cI, 200, .inl lf))]) hD hS hA [0, 1] rfl
    refine va_callv (va_runV (As := [.int (1 : Int32), .long (1 : Int64)]) (rest := []) ⟨hx, hb, hml, hown, hww⟩ (c_m_setLong l dC dI mo la sa cI H.size (1 : Int32) (1 : Int64) nz sq lf lf8 hu) (cwV 2 hww (tq_gV tqt_379 tqt_381 tqt_11 tqt_35 tqt_382) rfl rfl rfl (by decide +kernel) ⟨Nat.le_of_ble_eq_true rfl, Nat.le_of_ble_eq_true rfl⟩) ⟨fun a U g mk q => by obtain ⟨q0, q1, qP, qK, qD, qN⟩ := q; exact ⟨q0, q1, qP, va_K.moved (u := U) (U := U.calling g mk a) (Vm.Alike.refl U.vm) qK, qD, tqN_same (u := U) (U := U.calling g mk a) rfl qN⟩, va_recv hK hP (ci := 3) rfl (q0 := 0) rfl, fun U hU hW => ⟨rfl, by rw [hU], by rw [hU]; exact hPc, va_K.moved hW.alike hKc, hDc.weaken (fun _ _ _ _ => trivial), tqN_warm hW hN⟩⟩ rfl rfl hl.1 rfl (lv_room (Nat.le_of_ble_eq_true rfl)) dM_nearest_92 ⟨Nat.zero_le _, Nat.zero_le _⟩) hS (fun q _ h => hFc q h) hFc (fun u0 t H1 locs ht hvm hpost hB hz1 hk1 hS => ?_)
    obtain ⟨hP1, hK1, hD1⟩ := hB
    rw [ht] at hP1
    obtain ⟨hP, hD⟩ := va_join (wr := []) (w1 := [(mo, .inr (3, [.int nz, .ref la, .int sq, .ref sa])), (la, .inl (cI, 200, .inl lf8))]) hP hD [0, 1] [] rfl rfl (by decide) (by decide) hk1 hFc hP1 hD1
    generalize H1 = H at hP hS ⊢
    have hP := hP.sub (ws' := [(mo, .inr (3, [.int nz, .ref la, .int sq, .ref sa])), (la, .inl (cI, 200, .inl lf8))]) [0, 1] rfl
    have hD := hD.sub (ws' := [(mo, .inr (3, [.int nz, .ref la, .int sq, .ref sa])), (la, .inl (cI, 200, .inl lf8))]) [0, 1] (by decide) rfl
    refine lv_aload_n hx hb dM_nearest_95 rfl (lv_at hl 0 rfl) ?_
    refine lv_iconst (v := 0) hx hb dM_nearest_96 (by decide) ?_
    refine lv_iconst (v := 1) hx hb dM_nearest_97 (by decide) ?_
    obtain ⟨lf9, hu, hf⟩ := tq_bd_some hf
    have hPc := hP.sub (ws' := [(mo, .inr (3, [.int nz, .ref la, .int sq, .ref sa])), (la, .inl (cI, 200, .inl lf8))]) [0, 1] rfl
    have hDc := hD.sub (ws' := [(mo, .inr (3, [.int nz, .ref la, .int sq, .ref sa])), (la, .inl (cI, 200, .inl lf8))]) [0, 1] (by decide) rfl
    have hKc := hK.sub (tys' := [(cI, .int)]) [0] rfl
    have hFc := va_free (wc := [(mo, .inr (3, [.int nz, .ref la, .int sq, .ref sa])), (la, .inl (cI, 200, .inl lf8))]) hD hS hA [0, 1] rfl
    refine va_callv (va_runV (As := [.int (0 : Int32), .int (1 : Int32)]) (rest := []) ⟨hx, hb, hml, hown, hww⟩ (c_m_plus l dC dI mo la sa cI H.size (0 : Int32) (1 : Int32) nz sq lf8 lf9 hu) (cwV 2 hww (tq_gV tqt_401 tqt_403 tqt_16 tqt_35 tqt_404) rfl rfl rfl (by decide +kernel) ⟨Nat.le_of_ble_eq_true rfl, Nat.le_of_ble_eq_true rfl⟩) ⟨fun a U g mk q => by obtain ⟨q0, q1, qP, qK, qD, qN⟩ := q; exact ⟨q0, q1, qP, va_K.moved (u := U) (U := U.calling g mk a) (Vm.Alike.refl U.vm) qK, qD, tqN_same (u := U) (U := U.calling g mk a) rfl qN⟩, va_recv hK hP (ci := 3) rfl (q0 := 0) rfl, fun U hU hW => ⟨rfl, by rw [hU], by rw [hU]; exact hPc, va_K.moved hW.alike hKc, hDc.weaken (fun _ _ _ _ => trivial), tqN_warm hW hN⟩⟩ rfl rfl hl.1 rfl (lv_room (Nat.le_of_ble_eq_true rfl)) dM_nearest_98 ⟨Nat.zero_le _, Nat.zero_le _⟩) hS (fun q _ h => hFc q h) hFc (fun u0 t H1 locs ht hvm hpost hB hz1 hk1 hS => ?_)
    obtain ⟨hP1, hK1, hD1⟩ := hB
    rw [ht] at hP1
    obtain ⟨hP, hD⟩ := va_join (wr := []) (w1 := [(mo, .inr (3, [.int nz, .ref la, .int sq, .ref sa])), (la, .inl (cI, 200, .inl lf9))]) hP hD [0, 1] [] rfl rfl (by decide) (by decide) hk1 hFc hP1 hD1
    generalize H1 = H at hP hS ⊢
    have hP := hP.sub (ws' := [(mo, .inr (3, [.int nz, .ref la, .int sq, .ref sa])), (la, .inl (cI, 200, .inl lf9))]) [0, 1] rfl
    have hD := hD.sub (ws' := [(mo, .inr (3, [.int nz, .ref la, .int sq, .ref sa])), (la, .inl (cI, 200, .inl lf9))]) [0, 1] (by decide) rfl
    have hf := Option.some.inj hf
    subst hf
    exact W.vret hx hb hr (fun t ht hW => ⟨⟨(), rfl, trivial, by rw [ht]; exact hP, va_K.moved hW.alike hK, hD⟩, hS.F ht⟩) hS.2.2 dM_nearest_101
  have B30 : ∀ (n30 : Nat) (ls : Array Slot) (H : Heap) (locs : List Loc) (v2 : Int32) (v3 : Int32) (v4 : Int32) (lf : Nat → Int32), m_nearest_b30 n30 v2 v3 v4 lf = some r → lv_has ls 5 [(0, .ref mo), (2, .int v2), (3, .int v3), (4, .int v4)] → va_P (dC, dI) tqCl [(mo, .inr (3, [.int nz, .ref la, .int sq, .ref sa])), (la, .inl (cI, 200, .inl lf))] H → va_D A [(mo, .inr (3, [.int nz, .ref la, .int sq, .ref sa])), (la, .inl (cI, 200, .inl lf))] → va_S A s.heap H locs → W p l e ({ frames := 4, cells := 0, slots := 0, locals := 104 }) s m ([.ref mo, .int x] : List Value).toArray below meth c H locs 0 0 (MQ below (va_Qv (fun (_ : Unit) => True) (fun (_ : Unit) (t : State) => va_P (dC, dI) tqCl [(mo, .inr (3, [.int nz, .ref la, .int sq, .ref sa])), (la, .inl (cI, 200, .inl r))] t.heap ∧ va_K (dC, dI) tqCl [(cI, .int)] t ∧ va_D (A) [(mo, .inr (3, [.int nz, .ref la, .int sq, .ref sa])), (la, .inl (cI, 200, .inl r))]) (A)) ([.ref mo, .int x] : List Value).toArray s 0 0 A) (F0 m 30 ls []) := by
    try clear hf
    intro n30
    induction n30 with
    | zero =>
      intro ls H locs v2 v3 v4 lf hf hl hP hD hS
      have hf : (none : Option ((Nat → Int32))) = some r := hf
      cases hf
    | succ n30 ih30 =>
      have B57 : ∀ (ls : Array Slot) (H : Heap) (locs : List Loc) (v2 : Int32) (v4 : Int32) (t0 : Int32) (lf : Nat → Int32), m_nearest_b57 (m_nearest_b30 n30) v2 v4 t0 lf = some r → lv_has ls 5 [(0, .ref mo), (2, .int v2), (4, .int v4)] → va_P (dC, dI) tqCl [(mo, .inr (3, [.int nz, .ref la, .int sq, .ref sa])), (la, .inl (cI, 200, .inl lf))] H → va_D A [(mo, .inr (3, [.int nz, .ref la, .int sq, .ref sa])), (la, .inl (cI, 200, .inl lf))] → va_S A s.heap H locs → W p l e ({ frames := 4, cells := 0, slots := 0, locals := 104 }) s m ([.ref mo, .int x] : List Value).toArray below meth c H locs 0 0 (MQ below (va_Qv (fun (_ : Unit) => True) (fun (_ : Unit) (t : State) => va_P (dC, dI) tqCl [(mo, .inr (3, [.int nz, .ref la, .int sq, .ref sa])), (la, .inl (cI, 200, .inl r))] t.heap ∧ va_K (dC, dI) tqCl [(cI, .int)] t ∧ va_D (A) [(mo, .inr (3, [.int nz, .ref la, .int sq, .ref sa])), (la, .inl (cI, 200, .inl r))]) (A)) ([.ref mo, .int x] : List Value).toArray s 0 0 A) (F0 m 57 ls [.int t0]) := by
        try clear hf
        intro ls H locs v2 v4 t0 lf hf hl hP hD hS
        unfold m_nearest_b57 at hf
        refine lv_istore_n (lv' := [(3, .int t0), (0, .ref mo), (2, .int v2), (4, .int v4)]) hx hb dM_nearest_57 rfl hl (by decide) rfl (fun ls hl => ?_)
        refine lv_iinc (v := v4 + (1 : Int32)) (lv' := [(4, .int (v4 + (1 : Int32))), (3, .int t0), (0, .ref mo), (2, .int v2)]) hx hb dM_nearest_58 hl (k := 3) rfl rfl (by decide) rfl (fun ls hl => ?_)
        refine lv_goto hx hb dM_nearest_61 rfl ?_
        exact ih30 ls _ _ v2 t0 (v4 + (1 : Int32)) lf hf (lv_sub hl [2, 3, 1, 0] rfl) hP hD hS
      intro ls H locs v2 v3 v4 lf hf hl hP hD hS
      unfold m_nearest_b30 at hf
      refine lv_iload hx hb dM_nearest_30 (lv_at hl 3 rfl) ?_
      refine lv_bipush (v := 123) hx hb dM_nearest_32 (by decide) ?_
      refine lv_icmp_ge hx hb dM_nearest_34 rfl (fun h4 => ?_) (fun h4 => ?_)
      · rw [if_pos h4] at hf
        refine lv_aload_n hx hb dM_nearest_64 rfl (lv_at hl 0 rfl) ?_
        refine lv_iconst (v := 0) hx hb dM_nearest_65 (by decide) ?_
        refine lv_bipush (v := 124) hx hb dM_nearest_66 (by decide) ?_
        obtain ⟨lf5, hu, hf⟩ := tq_bd_some hf
        have hPc := hP.sub (ws' := [(mo, .inr (3, [.int nz, .ref la, .int sq, .ref sa])), (la, .inl (cI, 200, .inl lf))]) [0, 1] rfl
        have hDc := hD.sub (ws' := [(mo, .inr (3, [.int nz, .ref la, .int sq, .ref sa])), (la, .inl (cI, 200, .inl lf))]) [0, 1] (by decide) rfl
        have hKc := hK.sub (tys' := [(cI, .int)]) [0] rfl
        have hFc := va_free (wc := [(mo, .inr (3, [.int nz, .ref la, .int sq, .ref sa])), (la, .inl (cI, 200, .inl lf))]) hD hS hA [0, 1] rfl
        refine va_callv (va_runV (As := [.int (0 : Int32), .int (124 : Int32)]) (rest := []) ⟨hx, hb, hml, hown, hww⟩ (c_m_lower l dC dI mo la sa cI H.size (0 : Int32) (124 : Int32) nz sq lf lf5 hu) (cwV 2 hww (tq_gV tqt_389 tqt_391 tqt_13 tqt_35 tqt_392) rfl rfl rfl (by decide +kernel) ⟨Nat.le_of_ble_eq_true rfl, Nat.le_of_ble_eq_true rfl⟩) ⟨fun a U g mk q => by obtain ⟨q0, q1, qP, qK, qD, qN⟩ := q; exact ⟨q0, q1, qP, va_K.moved (u := U) (U := U.calling g mk a) (Vm.Alike.refl U.vm) qK, qD, tqN_same (u := U) (U := U.calling g mk a) rfl qN⟩, va_recv hK hP (ci := 3) rfl (q0 := 0) rfl, fun U hU hW => ⟨rfl, by rw [hU], by rw [hU]; exact hPc, va_K.moved hW.alike hKc, hDc.weaken (fun _ _ _ _ => trivial), tqN_warm hW hN⟩⟩ rfl rfl hl.1 rfl (lv_room (Nat.le_of_ble_eq_true rfl)) dM_nearest_68 ⟨Nat.zero_le _, Nat.zero_le _⟩) hS (fun q _ h => hFc q h) hFc (fun u0 t H1 locs ht hvm hpost hB hz1 hk1 hS => ?_)
        obtain ⟨hP1, hK1, hD1⟩ := hB
        rw [ht] at hP1
        obtain ⟨hP, hD⟩ := va_join (wr := []) (w1 := [(mo, .inr (3, [.int nz, .ref la, .int sq, .ref sa])), (la, .inl (cI, 200, .inl lf5))]) hP hD [0, 1] [] rfl rfl (by decide) (by decide) hk1 hFc hP1 hD1
        generalize H1 = H at hP hS ⊢
        have hP := hP.sub (ws' := [(mo, .inr (3, [.int nz, .ref la, .int sq, .ref sa])), (la, .inl (cI, 200, .inl lf5))]) [0, 1] rfl
        have hD := hD.sub (ws' := [(mo, .inr (3, [.int nz, .ref la, .int sq, .ref sa])), (la, .inl (cI, 200, .inl lf5))]) [0, 1] (by decide) rfl
        refine lv_iload_n hx hb dM_nearest_71 rfl (lv_at hl 1 rfl) ?_
        refine lv_if_eq hx hb dM_nearest_72 rfl (fun h6 => ?_) (fun h6 => ?_)
        · rw [if_pos h6] at hf
          have hf := Option.some.inj hf
          subst hf
          exact W.vret hx hb hr (fun t ht hW => ⟨⟨(), rfl, trivial, by rw [ht]; exact hP, va_K.moved hW.alike hK, hD⟩, hS.F ht⟩) hS.2.2 dM_nearest_101
        · rw [if_neg h6] at hf
          refine lv_iload_n hx hb dM_nearest_75 rfl (lv_at hl 2 rfl) ?_
          refine lv_if_ne hx hb dM_nearest_76 rfl (fun h7 => ?_) (fun h7 => ?_)
          · rw [if_pos h7] at hf
            exact B89 ls _ _ lf5 hf (lv_sub hl [0] rfl) hP hD hS
          · rw [if_neg (fun q : ¬ v3 = 0 => q h7)] at hf
            refine lv_aload_n hx hb dM_nearest_79 rfl (lv_at hl 0 rfl) ?_
            refine lv_iconst (v := 0) hx hb dM_nearest_80 (by decide) ?_
            refine lv_iconst (v := 0) hx hb dM_nearest_81 (by decide) ?_
            obtain ⟨r10, hu, hf⟩ := tq_bd_some hf
            have hPc := hP.sub (ws' := [(mo, .inr (3, [.int nz, .ref la, .int sq, .ref sa])), (la, .inl (cI, 200, .inl lf5))]) [0, 1] rfl
            have hDc := hD.sub (ws' := [(mo, .inr (3, [.int nz, .ref la, .int sq, .ref sa])), (la, .inl (cI, 200, .inl lf5))]) [0, 1] (by decide) rfl
            have hKc := hK.sub (tys' := [(cI, .int)]) [0] rfl
            have hFc := va_free (wc := [(mo, .inr (3, [.int nz, .ref la, .int sq, .ref sa])), (la, .inl (cI, 200, .inl lf5))]) hD hS hA [0, 1] rfl
            refine va_calli (va_runV (As := [.int (0 : Int32), .int (0 : Int32)]) (rest := []) ⟨hx, hb, hml, hown, hww⟩ (c_m_bit l dC dI mo la sa cI H.size (0 : Int32) (0 : Int32) nz sq lf5 r10 hu) (cwV 2 hww (tq_gV tqt_463 tqt_465 tqt_25 tqt_35 tqt_466) rfl rfl rfl (by decide +kernel) ⟨Nat.le_of_ble_eq_true rfl, Nat.le_of_ble_eq_true rfl⟩) ⟨fun a U g mk q => by obtain ⟨q0, q1, qP, qK, qD, qN⟩ := q; exact ⟨q0, q1, qP, va_K.moved (u := U) (U := U.calling g mk a) (Vm.Alike.refl U.vm) qK, qD, tqN_same (u := U) (U := U.calling g mk a) rfl qN⟩, va_recv hK hP (ci := 3) rfl (q0 := 0) rfl, fun U hU hW => ⟨rfl, by rw [hU], by rw [hU]; exact hPc, va_K.moved hW.alike hKc, hDc.weaken (fun _ _ _ _ => trivial), tqN_warm hW hN⟩⟩ rfl rfl hl.1 rfl (lv_room (Nat.le_of_ble_eq_true rfl)) dM_nearest_82 ⟨Nat.zero_le _, Nat.zero_le _⟩) hS (fun q _ h => hFc q h) hFc (fun ra u0 t H1 locs ht hvm hpost hB hz1 hk1 hS => ?_)
            have hpost : r10 = ra := (show ra = r10 from hpost).symm
            subst hpost
            obtain ⟨hP1, hK1, hD1⟩ := hB
            rw [ht] at hP1
            obtain ⟨hP, hD⟩ := va_join (wr := []) (w1 := [(mo, .inr (3, [.int nz, .ref la, .int sq, .ref sa])), (la, .inl (cI, 200, .inl lf5))]) hP hD [0, 1] [] rfl rfl (by decide) (by decide) hk1 hFc hP1 hD1
            generalize H1 = H at hP hS ⊢
            have hP := hP.sub (ws' := [(mo, .inr (3, [.int nz, .ref la, .int sq, .ref sa])), (la, .inl (cI, 200, .inl lf5))]) [0, 1] rfl
            have hD := hD.sub (ws' := [(mo, .inr (3, [.int nz, .ref la, .int sq, .ref sa])), (la, .inl (cI, 200, .inl lf5))]) [0, 1] (by decide) rfl
            refine lv_iconst (v := 1) hx hb dM_nearest_85 (by decide) ?_
            refine lv_icmp_ne hx hb dM_nearest_86 rfl (fun h11 => ?_) (fun h11 => ?_)
            · rw [if_pos h11] at hf
              have hf := Option.some.inj hf
              subst hf
              exact W.vret hx hb hr (fun t ht hW => ⟨⟨(), rfl, trivial, by rw [ht]; exact hP, va_K.moved hW.alike hK, hD⟩, hS.F ht⟩) hS.2.2 dM_nearest_101
            · rw [if_neg (fun q : ¬ r10 = (1 : Int32) => q h11)] at hf
              exact B89 ls _ _ lf5 hf (lv_sub hl [0] rfl) hP hD hS
      · rw [if_neg h4] at hf
        refine lv_iload_n hx hb dM_nearest_37 rfl (lv_at hl 2 rfl) ?_
        refine lv_if_ne hx hb dM_nearest_38 rfl (fun h12 => ?_) (fun h12 => ?_)
        · rw [if_pos h12] at hf
          refine lv_iconst (v := 1) hx hb dM_nearest_52 (by decide) ?_
          refine lv_goto hx hb dM_nearest_53 rfl ?_
          exact B57 ls _ _ v2 v4 (1 : Int32) lf hf (lv_sub hl [0, 1, 3] rfl) hP hD hS
        · rw [if_neg (fun q : ¬ v3 = 0 => q h12)] at hf
          refine lv_aload_n hx hb dM_nearest_41 rfl (lv_at hl 0 rfl) ?_
          refine lv_iconst (v := 0) hx hb dM_nearest_42 (by decide) ?_
          refine lv_iload hx hb dM_nearest_43 (lv_at hl 3 rfl) ?_
          obtain ⟨r13, hu, hf⟩ := tq_bd_some hf
          have hPc := hP.sub (ws' := [(mo, .inr (3, [.int nz, .ref la, .int sq, .ref sa])), (la, .inl (cI, 200, .inl lf))]) [0, 1] rfl
          have hDc := hD.sub (ws' := [(mo, .inr (3, [.int nz, .ref la, .int sq, .ref sa])), (la, .inl (cI, 200, .inl lf))]) [0, 1] (by decide) rfl
          have hKc := hK.sub (tys' := [(cI, .int)]) [0] rfl
          have hFc := va_free (wc := [(mo, .inr (3, [.int nz, .ref la, .int sq, .ref sa])), (la, .inl (cI, 200, .inl lf))]) hD hS hA [0, 1] rfl
          refine va_calli (va_runV (As := [.int (0 : Int32), .int v4]) (rest := []) ⟨hx, hb, hml, hown, hww⟩ (c_m_bit l dC dI mo la sa cI H.size (0 : Int32) v4 nz sq lf r13 hu) (cwV 2 hww (tq_gV tqt_463 tqt_465 tqt_25 tqt_35 tqt_466) rfl rfl rfl (by decide +kernel) ⟨Nat.le_of_ble_eq_true rfl, Nat.le_of_ble_eq_true rfl⟩) ⟨fun a U g mk q => by obtain ⟨q0, q1, qP, qK, qD, qN⟩ := q; exact ⟨q0, q1, qP, va_K.moved (u := U) (U := U.calling g mk a) (Vm.Alike.refl U.vm) qK, qD, tqN_same (u := U) (U := U.calling g mk a) rfl qN⟩, va_recv hK hP (ci := 3) rfl (q0 := 0) rfl, fun U hU hW => ⟨rfl, by rw [hU], by rw [hU]; exact hPc, va_K.moved hW.alike hKc, hDc.weaken (fun _ _ _ _ => trivial), tqN_warm hW hN⟩⟩ rfl rfl hl.1 rfl (lv_room (Nat.le_of_ble_eq_true rfl)) dM_nearest_45 ⟨Nat.zero_le _, Nat.zero_le _⟩) hS (fun q _ h => hFc q h) hFc (fun ra u0 t H1 locs ht hvm hpost hB hz1 hk1 hS => ?_)
          have hpost : r13 = ra := (show ra = r13 from hpost).symm
          subst hpost
          obtain ⟨hP1, hK1, hD1⟩ := hB
          rw [ht] at hP1
          obtain ⟨hP, hD⟩ := va_join (wr := []) (w1 := [(mo, .inr (3, [.int nz, .ref la, .int sq, .ref sa])), (la, .inl (cI, 200, .inl lf))]) hP hD [0, 1] [] rfl rfl (by decide) (by decide) hk1 hFc hP1 hD1
          generalize H1 = H at hP hS ⊢
          have hP := hP.sub (ws' := [(mo, .inr (3, [.int nz, .ref la, .int sq, .ref sa])), (la, .inl (cI, 200, .inl lf))]) [0, 1] rfl
          have hD := hD.sub (ws' := [(mo, .inr (3, [.int nz, .ref la, .int sq, .ref sa])), (la, .inl (cI, 200, .inl lf))]) [0, 1] (by decide) rfl
          refine lv_iconst (v := 1) hx hb dM_nearest_48 (by decide) ?_
          refine lv_icmp_ne hx hb dM_nearest_49 rfl (fun h14 => ?_) (fun h14 => ?_)
          · rw [if_pos h14] at hf
            refine lv_iconst (v := 0) hx hb dM_nearest_56 (by decide) ?_
            exact B57 ls _ _ v2 v4 (0 : Int32) lf hf (lv_sub hl [0, 1, 3] rfl) hP hD hS
          · rw [if_neg (fun q : ¬ r13 = (1 : Int32) => q h14)] at hf
            refine lv_iconst (v := 1) hx hb dM_nearest_52 (by decide) ?_
            refine lv_goto hx hb dM_nearest_53 rfl ?_
            exact B57 ls _ _ v2 v4 (1 : Int32) lf hf (lv_sub hl [0, 1, 3] rfl) hP hD hS
  have B24 : ∀ (ls : Array Slot) (H : Heap) (locs : List Loc) (t0 : Int32) (lf : Nat → Int32), m_nearest_b24 t0 lf = some r → lv_has ls 5 [(0, .ref mo)] → va_P (dC, dI) tqCl [(mo, .inr (3, [.int nz, .ref la, .int sq, .ref sa])), (la, .inl (cI, 200, .inl lf))] H → va_D A [(mo, .inr (3, [.int nz, .ref la, .int sq, .ref sa])), (la, .inl (cI, 200, .inl lf))] → va_S A s.heap H locs → W p l e ({ frames := 4, cells := 0, slots := 0, locals := 104 }) s m ([.ref mo, .int x] : List Value).toArray below meth c H locs 0 0 (MQ below (va_Qv (fun (_ : Unit) => True) (fun (_ : Unit) (t : State) => va_P (dC, dI) tqCl [(mo, .inr (3, [.int nz, .ref la, .int sq, .ref sa])), (la, .inl (cI, 200, .inl r))] t.heap ∧ va_K (dC, dI) tqCl [(cI, .int)] t ∧ va_D (A) [(mo, .inr (3, [.int nz, .ref la, .int sq, .ref sa])), (la, .inl (cI, 200, .inl r))]) (A)) ([.ref mo, .int x] : List Value).toArray s 0 0 A) (F0 m 24 ls [.int t0]) := by
    try clear hf
    intro ls H locs t0 lf hf hl hP hD hS
    unfold m_nearest_b24 at hf
    refine lv_istore_n (lv' := [(2, .int t0), (0, .ref mo)]) hx hb dM_nearest_24 rfl hl (by decide) rfl (fun ls hl => ?_)
    refine lv_iconst (v := 0) hx hb dM_nearest_25 (by decide) ?_
    refine lv_istore_n (lv' := [(3, .int (0 : Int32)), (2, .int t0), (0, .ref mo)]) hx hb dM_nearest_26 rfl hl (by decide) rfl (fun ls hl => ?_)
    refine lv_iconst (v := 0) hx hb dM_nearest_27 (by decide) ?_
    refine lv_istore (lv' := [(4, .int (0 : Int32)), (3, .int (0 : Int32)), (2, .int t0), (0, .ref mo)]) hx hb dM_nearest_28 hl (by decide) rfl (fun ls hl => ?_)
    exact B30 124 ls _ _ t0 (0 : Int32) (0 : Int32) lf hf (lv_sub hl [3, 2, 1, 0] rfl) hP hD hS
  unfold m_nearest at hf
  refine lv_aload_n hx hb dM_nearest_0 rfl (lv_at hl 0 rfl) ?_
  refine lv_iconst (v := 0) hx hb dM_nearest_1 (by decide) ?_
  refine lv_iload_n hx hb dM_nearest_2 rfl (lv_at hl 1 rfl) ?_
  refine lv_bipush (v := 124) hx hb dM_nearest_3 (by decide) ?_
  obtain ⟨lf1, hu, hf⟩ := tq_bd_some hf
  have hPc := hP.sub (ws' := [(mo, .inr (3, [.int nz, .ref la, .int sq, .ref sa])), (la, .inl (cI, 200, .inl lf))]) [0, 1] rfl
  have hDc := hD.sub (ws' := [(mo, .inr (3, [.int nz, .ref la, .int sq, .ref sa])), (la, .inl (cI, 200, .inl lf))]) [0, 1] (by decide) rfl
  have hKc := hK.sub (tys' := [(cI, .int)]) [0] rfl
  have hFc := va_free (wc := [(mo, .inr (3, [.int nz, .ref la, .int sq, .ref sa])), (la, .inl (cI, 200, .inl lf))]) hD hS hA [0, 1] rfl
  refine va_callv (va_runV (As := [.int (0 : Int32), .int x, .int (124 : Int32)]) (rest := []) ⟨hx, hb, hml, hown, hww⟩ (c_m_load l dC dI mo la sa cI s.heap.size (0 : Int32) x (124 : Int32) nz sq lf lf1 hu) (cwV 3 hww (tq_gV tqt_367 tqt_369 tqt_8 tqt_35 tqt_370) rfl rfl rfl (by decide +kernel) ⟨Nat.le_of_ble_eq_true rfl, Nat.le_of_ble_eq_true rfl⟩) ⟨fun a U g mk q => by obtain ⟨q0, q1, qP, qK, qD, qN⟩ := q; exact ⟨q0, q1, qP, va_K.moved (u := U) (U := U.calling g mk a) (Vm.Alike.refl U.vm) qK, qD, tqN_same (u := U) (U := U.calling g mk a) rfl qN⟩, va_recv hK hP (ci := 3) rfl (q0 := 0) rfl, fun U hU hW => ⟨rfl, by rw [hU], by rw [hU]; exact hPc, va_K.moved hW.alike hKc, hDc.weaken (fun _ _ _ _ => trivial), tqN_warm hW hN⟩⟩ rfl rfl hl.1 rfl (lv_room (Nat.le_of_ble_eq_true rfl)) dM_nearest_5 ⟨Nat.zero_le _, Nat.zero_le _⟩) hS (fun q _ h => hFc q h) hFc (fun u0 t H1 locs ht hvm hpost hB hz1 hk1 hS => ?_)
  obtain ⟨hP1, hK1, hD1⟩ := hB
  rw [ht] at hP1
  obtain ⟨hP, hD⟩ := va_join (wr := []) (w1 := [(mo, .inr (3, [.int nz, .ref la, .int sq, .ref sa])), (la, .inl (cI, 200, .inl lf1))]) hP hD [0, 1] [] rfl rfl (by decide) (by decide) hk1 hFc hP1 hD1
  generalize H1 = H at hP hS ⊢
  have hP := hP.sub (ws' := [(mo, .inr (3, [.int nz, .ref la, .int sq, .ref sa])), (la, .inl (cI, 200, .inl lf1))]) [0, 1] rfl
  have hD := hD.sub (ws' := [(mo, .inr (3, [.int nz, .ref la, .int sq, .ref sa])), (la, .inl (cI, 200, .inl lf1))]) [0, 1] (by decide) rfl
  refine lv_aload_n hx hb dM_nearest_8 rfl (lv_at hl 0 rfl) ?_
  refine lv_iconst (v := 0) hx hb dM_nearest_9 (by decide) ?_
  refine lv_bipush (v := 123) hx hb dM_nearest_10 (by decide) ?_
  obtain ⟨r2, hu, hf⟩ := tq_bd_some hf
  have hPc := hP.sub (ws' := [(mo, .inr (3, [.int nz, .ref la, .int sq, .ref sa])), (la, .inl (cI, 200, .inl lf1))]) [0, 1] rfl
  have hDc := hD.sub (ws' := [(mo, .inr (3, [.int nz, .ref la, .int sq, .ref sa])), (la, .inl (cI, 200, .inl lf1))]) [0, 1] (by decide) rfl
  have hKc := hK.sub (tys' := [(cI, .int)]) [0] rfl
  have hFc := va_free (wc := [(mo, .inr (3, [.int nz, .ref la, .int sq, .ref sa])), (la, .inl (cI, 200, .inl lf1))]) hD hS hA [0, 1] rfl
  refine va_calli (va_runV (As := [.int (0 : Int32), .int (123 : Int32)]) (rest := []) ⟨hx, hb, hml, hown, hww⟩ (c_m_bit l dC dI mo la sa cI H.size (0 : Int32) (123 : Int32) nz sq lf1 r2 hu) (cwV 2 hww (tq_gV tqt_463 tqt_465 tqt_25 tqt_35 tqt_466) rfl rfl rfl (by decide +kernel) ⟨Nat.le_of_ble_eq_true rfl, Nat.le_of_ble_eq_true rfl⟩) ⟨fun a U g mk q => by obtain ⟨q0, q1, qP, qK, qD, qN⟩ := q; exact ⟨q0, q1, qP, va_K.moved (u := U) (U := U.calling g mk a) (Vm.Alike.refl U.vm) qK, qD, tqN_same (u := U) (U := U.calling g mk a) rfl qN⟩, va_recv hK hP (ci := 3) rfl (q0 := 0) rfl, fun U hU hW => ⟨rfl, by rw [hU], by rw [hU]; exact hPc, va_K.moved hW.alike hKc, hDc.weaken (fun _ _ _ _ => trivial), tqN_warm hW hN⟩⟩ rfl rfl hl.1 rfl (lv_room (Nat.le_of_ble_eq_true rfl)) dM_nearest_12 ⟨Nat.zero_le _, Nat.zero_le _⟩) hS (fun q _ h => hFc q h) hFc (fun ra u0 t H1 locs ht hvm hpost hB hz1 hk1 hS => ?_)
  have hpost : r2 = ra := (show ra = r2 from hpost).symm
  subst hpost
  obtain ⟨hP1, hK1, hD1⟩ := hB
  rw [ht] at hP1
  obtain ⟨hP, hD⟩ := va_join (wr := []) (w1 := [(mo, .inr (3, [.int nz, .ref la, .int sq, .ref sa])), (la, .inl (cI, 200, .inl lf1))]) hP hD [0, 1] [] rfl rfl (by decide) (by decide) hk1 hFc hP1 hD1
  generalize H1 = H at hP hS ⊢
  have hP := hP.sub (ws' := [(mo, .inr (3, [.int nz, .ref la, .int sq, .ref sa])), (la, .inl (cI, 200, .inl lf1))]) [0, 1] rfl
  have hD := hD.sub (ws' := [(mo, .inr (3, [.int nz, .ref la, .int sq, .ref sa])), (la, .inl (cI, 200, .inl lf1))]) [0, 1] (by decide) rfl
  refine lv_iconst (v := 1) hx hb dM_nearest_15 (by decide) ?_
  refine lv_icmp_ne hx hb dM_nearest_16 rfl (fun h3 => ?_) (fun h3 => ?_)
  · rw [if_pos h3] at hf
    refine lv_iconst (v := 0) hx hb dM_nearest_23 (by decide) ?_
    exact B24 ls _ _ (0 : Int32) lf1 hf (lv_sub hl [0] rfl) hP hD hS
  · rw [if_neg (fun q : ¬ r2 = (1 : Int32) => q h3)] at hf
    refine lv_iconst (v := 1) hx hb dM_nearest_19 (by decide) ?_
    refine lv_goto hx hb dM_nearest_20 rfl ?_
    exact B24 ls _ _ (1 : Int32) lf1 hf (lv_sub hl [0] rfl) hP hD hS
set_option maxHeartbeats 4000000 in
set_option maxRecDepth 100000 in
theorem c_m_whole (l : Launch) (dC : Nat → ClassId) (dI : Nat → Nat → Nat) (mo : Nat) (la : Nat) (sa : Nat) (cI : ClassId) (sz : Nat) (x : Int32) (nz : Int32) (sq : Int32) (lf : Nat → Int32) (r : Int32 × Int32 × (Nat → Int32)) (hf : m_whole nz sq lf x = some r) : Met l yM_whole tqw_M_whole ({ frames := 5, cells := 0, slots := 0, locals := 132 }) (va_Pc [.ref mo, .int x] (fun U => U.heap.size = sz ∧ va_P (dC, dI) tqCl [(mo, .inr (3, [.int nz, .ref la, .int sq, .ref sa])), (la, .inl (cI, 200, .inl lf))] U.heap ∧ va_K (dC, dI) tqCl [(cI, .int)] U ∧ va_D (fun _ => True) [(mo, .inr (3, [.int nz, .ref la, .int sq, .ref sa])), (la, .inl (cI, 200, .inl lf))] ∧ tqN U)) (va_Qi (fun (a : Int32) (_ : Unit) => a = r.1) (fun (_ : Unit) (t : State) => va_P (dC, dI) tqCl [(mo, .inr (3, [.int nz, .ref la, .int r.2.1, .ref sa])), (la, .inl (cI, 200, .inl r.2.2))] t.heap ∧ va_K (dC, dI) tqCl [(cI, .int)] t ∧ va_D (va_A [(mo, .inr (3, [.int nz, .ref la, .int sq, .ref sa])), (la, .inl (cI, 200, .inl lf))] sz) [(mo, .inr (3, [.int nz, .ref la, .int r.2.1, .ref sa])), (la, .inl (cI, 200, .inl r.2.2))]) (va_A [(mo, .inr (3, [.int nz, .ref la, .int sq, .ref sa])), (la, .inl (cI, 200, .inl lf))] sz)) 0 0 (va_A [(mo, .inr (3, [.int nz, .ref la, .int sq, .ref sa])), (la, .inl (cI, 200, .inl lf))] sz) := by
  refine Met.ofW (cc := cM_whole) (maxL := 2) (ret := (some .int)) (by decide) rfl ?_
  intro p e s m args below meth c s₁ B hml hv
  obtain ⟨rfl, hsz, hP, hK, hD0, hN⟩ := hv
  have hx := B.exec
  have hb := B.bytes
  have hr := B.returns
  have hts := atoms_spec (ws := tqw_M_whole) B.pre
  have hww : ∀ w ∈ tqW, w.before _ s = true := fun w h => hts w (List.mem_cons_of_mem _ h)
  have hown : s.vm.findClass RM = some m.cls := findClass_of_methodNamed B.named
  have hlocks := B.notSynchronized
  subst hsz
  have hD := hD0.self (sz := s.heap.size)
  generalize hAe : va_A [(mo, .inr (3, [.int nz, .ref la, .int sq, .ref sa])), (la, .inl (cI, 200, .inl lf))] s.heap.size = A at hD ⊢
  have hA : ∀ q : Nat, s.heap.size ≤ q → A q := fun q h => by rw [← hAe]; exact Or.inr h
  have hS : va_S A s.heap s.heap [] := va_S.rf
  have hP : va_P (dC, dI) tqCl [(mo, .inr (3, [.int nz, .ref la, .int sq, .ref sa])), (la, .inl (cI, 200, .inl lf))] s.heap := hP
  have hl := lv_entry ([.ref mo, .int x]) (n := 2) (Nat.le_of_ble_eq_true rfl)
  rw [lg_entry_eq]
  generalize (lg_sl ([.ref mo, .int x]) ++ List.replicate (2 - (lg_sl ([.ref mo, .int x])).length) Slot.unset).toArray = ls at hl ⊢
  have hl : lv_has ls 2 [(0, .ref mo), (1, .int x)] := hl
  unfold m_whole at hf
  refine lv_aload_n hx hb dM_whole_0 rfl (lv_at hl 0 rfl) ?_
  refine lv_iload_n hx hb dM_whole_1 rfl (lv_at hl 1 rfl) ?_
  have hPc := hP.sub (ws' := [(mo, .inr (3, [.int nz, .ref la, .int sq, .ref sa]))]) [0] rfl
  have hDc := hD.sub (ws' := [(mo, .inr (3, [.int nz, .ref la, .int sq, .ref sa]))]) [0] (by decide) rfl
  have hKc := hK.sub (tys' := []) [] rfl
  have hFc := va_free (wc := [(mo, .inr (3, [.int nz, .ref la, .int sq, .ref sa]))]) hD hS hA [0] rfl
  refine va_calli (va_runV (As := [.int x]) (rest := []) ⟨hx, hb, hml, hown, hww⟩ (c_m_isNot l dC dI mo la sa s.heap.size x nz sq (m_isNot nz x) rfl) (cwV 1 hww (tq_gV tqt_356 tqt_358 tqt_6 tqt_35 tqt_359) rfl rfl rfl (by decide +kernel) ⟨Nat.le_of_ble_eq_true rfl, Nat.le_of_ble_eq_true rfl⟩) ⟨fun a U g mk q => by obtain ⟨q0, q1, qP, qK, qD, qN⟩ := q; exact ⟨q0, q1, qP, va_K.moved (u := U) (U := U.calling g mk a) (Vm.Alike.refl U.vm) qK, qD, tqN_same (u := U) (U := U.calling g mk a) rfl qN⟩, va_recv hK hP (ci := 3) rfl (q0 := 0) rfl, fun U hU hW => ⟨rfl, by rw [hU], by rw [hU]; exact hPc, va_K.moved hW.alike hKc, hDc.weaken (fun _ _ _ _ => trivial), tqN_warm hW hN⟩⟩ rfl rfl hl.1 rfl (lv_room (Nat.le_of_ble_eq_true rfl)) dM_whole_2 ⟨Nat.zero_le _, Nat.zero_le _⟩) hS (fun q _ h => hFc q h) hFc (fun ra u0 t H1 locs ht hvm hpost hB hz1 hk1 hS => ?_)
  have hpost : (m_isNot nz x) = ra := (show ra = (m_isNot nz x) from hpost).symm
  subst hpost
  obtain ⟨hP1, hK1, hD1⟩ := hB
  rw [ht] at hP1
  obtain ⟨hP, hD⟩ := va_join (wr := [(la, .inl (cI, 200, .inl lf))]) (w1 := [(mo, .inr (3, [.int nz, .ref la, .int sq, .ref sa]))]) hP hD [0] [1] rfl rfl (by decide) (by decide) hk1 hFc hP1 hD1
  generalize H1 = H at hP hS ⊢
  have hP := hP.sub (ws' := [(mo, .inr (3, [.int nz, .ref la, .int sq, .ref sa])), (la, .inl (cI, 200, .inl lf))]) [1, 0] rfl
  have hD := hD.sub (ws' := [(mo, .inr (3, [.int nz, .ref la, .int sq, .ref sa])), (la, .inl (cI, 200, .inl lf))]) [1, 0] (by decide) rfl
  refine lv_if_eq hx hb dM_whole_5 rfl (fun h2 => ?_) (fun h2 => ?_)
  · rw [if_pos h2] at hf
    refine lv_aload_n hx hb dM_whole_16 rfl (lv_at hl 0 rfl) ?_
    refine lv_iload_n hx hb dM_whole_17 rfl (lv_at hl 1 rfl) ?_
    obtain ⟨lf3, hu, hf⟩ := tq_bd_some hf
    have hPc := hP.sub (ws' := [(mo, .inr (3, [.int nz, .ref la, .int sq, .ref sa])), (la, .inl (cI, 200, .inl lf))]) [0, 1] rfl
    have hDc := hD.sub (ws' := [(mo, .inr (3, [.int nz, .ref la, .int sq, .ref sa])), (la, .inl (cI, 200, .inl lf))]) [0, 1] (by decide) rfl
    have hKc := hK.sub (tys' := [(cI, .int)]) [0] rfl
    have hFc := va_free (wc := [(mo, .inr (3, [.int nz, .ref la, .int sq, .ref sa])), (la, .inl (cI, 200, .inl lf))]) hD hS hA [0, 1] rfl
    refine va_callv (va_runV (As := [.int x]) (rest := []) ⟨hx, hb, hml, hown, hww⟩ (c_m_nearest l dC dI mo la sa cI H.size x nz sq lf lf3 hu) (cwV 1 hww (tq_gV tqt_459 tqt_461 tqt_24 tqt_35 tqt_462) rfl rfl rfl (by decide +kernel) ⟨Nat.le_of_ble_eq_true rfl, Nat.le_of_ble_eq_true rfl⟩) ⟨fun a U g mk q => by obtain ⟨q0, q1, qP, qK, qD, qN⟩ := q; exact ⟨q0, q1, qP, va_K.moved (u := U) (U := U.calling g mk a) (Vm.Alike.refl U.vm) qK, qD, tqN_same (u := U) (U := U.calling g mk a) rfl qN⟩, va_recv hK hP (ci := 3) rfl (q0 := 0) rfl, fun U hU hW => ⟨rfl, by rw [hU], by rw [hU]; exact hPc, va_K.moved hW.alike hKc, hDc.weaken (fun _ _ _ _ => trivial), tqN_warm hW hN⟩⟩ rfl rfl hl.1 rfl (lv_room (Nat.le_of_ble_eq_true rfl)) dM_whole_18 ⟨Nat.zero_le _, Nat.zero_le _⟩) hS (fun q _ h => hFc q h) hFc (fun u0 t H1 locs ht hvm hpost hB hz1 hk1 hS => ?_)
    obtain ⟨hP1, hK1, hD1⟩ := hB
    rw [ht] at hP1
    obtain ⟨hP, hD⟩ := va_join (wr := []) (w1 := [(mo, .inr (3, [.int nz, .ref la, .int sq, .ref sa])), (la, .inl (cI, 200, .inl lf3))]) hP hD [0, 1] [] rfl rfl (by decide) (by decide) hk1 hFc hP1 hD1
    generalize H1 = H at hP hS ⊢
    have hP := hP.sub (ws' := [(mo, .inr (3, [.int nz, .ref la, .int sq, .ref sa])), (la, .inl (cI, 200, .inl lf3))]) [0, 1] rfl
    have hD := hD.sub (ws' := [(mo, .inr (3, [.int nz, .ref la, .int sq, .ref sa])), (la, .inl (cI, 200, .inl lf3))]) [0, 1] (by decide) rfl
    refine lv_aload_n hx hb dM_whole_21 rfl (lv_at hl 0 rfl) ?_
    refine lv_iconst (v := 0) hx hb dM_whole_22 (by decide) ?_
    refine lv_bipush (v := 124) hx hb dM_whole_23 (by decide) ?_
    obtain ⟨lf4, hu, hf⟩ := tq_bd_some hf
    have hPc := hP.sub (ws' := [(mo, .inr (3, [.int nz, .ref la, .int sq, .ref sa])), (la, .inl (cI, 200, .inl lf3))]) [0, 1] rfl
    have hDc := hD.sub (ws' := [(mo, .inr (3, [.int nz, .ref la, .int sq, .ref sa])), (la, .inl (cI, 200, .inl lf3))]) [0, 1] (by decide) rfl
    have hKc := hK.sub (tys' := [(cI, .int)]) [0] rfl
    have hFc := va_free (wc := [(mo, .inr (3, [.int nz, .ref la, .int sq, .ref sa])), (la, .inl (cI, 200, .inl lf3))]) hD hS hA [0, 1] rfl
    refine va_callv (va_runV (As := [.int (0 : Int32), .int (124 : Int32)]) (rest := []) ⟨hx, hb, hml, hown, hww⟩ (c_m_raise l dC dI mo la sa cI H.size (0 : Int32) (124 : Int32) nz sq lf3 lf4 hu) (cwV 2 hww (tq_gV tqt_384 tqt_386 tqt_12 tqt_35 tqt_387) rfl rfl rfl (by decide +kernel) ⟨Nat.le_of_ble_eq_true rfl, Nat.le_of_ble_eq_true rfl⟩) ⟨fun a U g mk q => by obtain ⟨q0, q1, qP, qK, qD, qN⟩ := q; exact ⟨q0, q1, qP, va_K.moved (u := U) (U := U.calling g mk a) (Vm.Alike.refl U.vm) qK, qD, tqN_same (u := U) (U := U.calling g mk a) rfl qN⟩, va_recv hK hP (ci := 3) rfl (q0 := 0) rfl, fun U hU hW => ⟨rfl, by rw [hU], by rw [hU]; exact hPc, va_K.moved hW.alike hKc, hDc.weaken (fun _ _ _ _ => trivial), tqN_warm hW hN⟩⟩ rfl rfl hl.1 rfl (lv_room (Nat.le_of_ble_eq_true rfl)) dM_whole_25 ⟨Nat.zero_le _, Nat.zero_le _⟩) hS (fun q _ h => hFc q h) hFc (fun u0 t H1 locs ht hvm hpost hB hz1 hk1 hS => ?_)
    obtain ⟨hP1, hK1, hD1⟩ := hB
    rw [ht] at hP1
    obtain ⟨hP, hD⟩ := va_join (wr := []) (w1 := [(mo, .inr (3, [.int nz, .ref la, .int sq, .ref sa])), (la, .inl (cI, 200, .inl lf4))]) hP hD [0, 1] [] rfl rfl (by decide) (by decide) hk1 hFc hP1 hD1
    generalize H1 = H at hP hS ⊢
    have hP := hP.sub (ws' := [(mo, .inr (3, [.int nz, .ref la, .int sq, .ref sa])), (la, .inl (cI, 200, .inl lf4))]) [0, 1] rfl
    have hD := hD.sub (ws' := [(mo, .inr (3, [.int nz, .ref la, .int sq, .ref sa])), (la, .inl (cI, 200, .inl lf4))]) [0, 1] (by decide) rfl
    refine lv_aload_n hx hb dM_whole_28 rfl (lv_at hl 0 rfl) ?_
    refine lv_iconst (v := 0) hx hb dM_whole_29 (by decide) ?_
    obtain ⟨u, hu, hf⟩ := tq_bd_some hf
    obtain ⟨sq5, lf6⟩ := u
    have hf := tq_nm_at (z := sq5) rfl hf
    have hf := tq_nm_at (z := lf6) rfl hf
    have hPc := hP.sub (ws' := [(mo, .inr (3, [.int nz, .ref la, .int sq, .ref sa])), (la, .inl (cI, 200, .inl lf4))]) [0, 1] rfl
    have hDc := hD.sub (ws' := [(mo, .inr (3, [.int nz, .ref la, .int sq, .ref sa])), (la, .inl (cI, 200, .inl lf4))]) [0, 1] (by decide) rfl
    have hKc := hK.sub (tys' := [(cI, .int)]) [0] rfl
    have hFc := va_free (wc := [(mo, .inr (3, [.int nz, .ref la, .int sq, .ref sa])), (la, .inl (cI, 200, .inl lf4))]) hD hS hA [0, 1] rfl
    refine va_callv (va_runV (As := [.int (0 : Int32)]) (rest := []) ⟨hx, hb, hml, hown, hww⟩ (c_m_factor l dC dI mo la sa cI H.size (0 : Int32) nz sq lf4 (sq5, lf6) hu) (cwV 1 hww (tq_gV tqt_413 tqt_415 tqt_19 tqt_35 tqt_416) rfl rfl rfl (by decide +kernel) ⟨Nat.le_of_ble_eq_true rfl, Nat.le_of_ble_eq_true rfl⟩) ⟨fun a U g mk q => by obtain ⟨q0, q1, qP, qK, qD, qN⟩ := q; exact ⟨q0, q1, qP, va_K.moved (u := U) (U := U.calling g mk a) (Vm.Alike.refl U.vm) qK, qD, tqN_same (u := U) (U := U.calling g mk a) rfl qN⟩, va_recv hK hP (ci := 3) rfl (q0 := 0) rfl, fun U hU hW => ⟨rfl, by rw [hU], by rw [hU]; exact hPc, va_K.moved hW.alike hKc, hDc.weaken (fun _ _ _ _ => trivial), tqN_warm hW hN⟩⟩ rfl rfl hl.1 rfl (lv_room (Nat.le_of_ble_eq_true rfl)) dM_whole_30 ⟨Nat.zero_le _, Nat.zero_le _⟩) hS (fun q _ h => hFc q h) hFc (fun u0 t H1 locs ht hvm hpost hB hz1 hk1 hS => ?_)
    obtain ⟨hP1, hK1, hD1⟩ := hB
    rw [ht] at hP1
    obtain ⟨hP, hD⟩ := va_join (wr := []) (w1 := [(mo, .inr (3, [.int nz, .ref la, .int sq5, .ref sa])), (la, .inl (cI, 200, .inl lf6))]) hP hD [0, 1] [] rfl rfl (by decide) (by decide) hk1 hFc hP1 hD1
    generalize H1 = H at hP hS ⊢
    have hP := hP.sub (ws' := [(mo, .inr (3, [.int nz, .ref la, .int sq5, .ref sa])), (la, .inl (cI, 200, .inl lf6))]) [0, 1] rfl
    have hD := hD.sub (ws' := [(mo, .inr (3, [.int nz, .ref la, .int sq5, .ref sa])), (la, .inl (cI, 200, .inl lf6))]) [0, 1] (by decide) rfl
    refine lv_aload_n hx hb dM_whole_33 rfl (lv_at hl 0 rfl) ?_
    refine lv_aload_n hx hb dM_whole_34 rfl (lv_at hl 0 rfl) ?_
    refine lv_iload_n hx hb dM_whole_35 rfl (lv_at hl 1 rfl) ?_
    have hPc := hP.sub (ws' := [(mo, .inr (3, [.int nz, .ref la, .int sq5, .ref sa]))]) [0] rfl
    have hDc := hD.sub (ws' := [(mo, .inr (3, [.int nz, .ref la, .int sq5, .ref sa]))]) [0] (by decide) rfl
    have hKc := hK.sub (tys' := []) [] rfl
    have hFc := va_free (wc := [(mo, .inr (3, [.int nz, .ref la, .int sq5, .ref sa]))]) hD hS hA [0] rfl
    refine va_calli (va_runV (As := [.int x]) (rest := [.ref mo]) ⟨hx, hb, hml, hown, hww⟩ (c_m_negative l dC dI mo la sa H.size x nz sq5 (m_negative nz x) rfl) (cwV 1 hww (tq_gV tqt_393 tqt_395 tqt_14 tqt_35 tqt_396) rfl rfl rfl (by decide +kernel) ⟨Nat.le_of_ble_eq_true rfl, Nat.le_of_ble_eq_true rfl⟩) ⟨fun a U g mk q => by obtain ⟨q0, q1, qP, qK, qD, qN⟩ := q; exact ⟨q0, q1, qP, va_K.moved (u := U) (U := U.calling g mk a) (Vm.Alike.refl U.vm) qK, qD, tqN_same (u := U) (U := U.calling g mk a) rfl qN⟩, va_recv hK hP (ci := 3) rfl (q0 := 0) rfl, fun U hU hW => ⟨rfl, by rw [hU], by rw [hU]; exact hPc, va_K.moved hW.alike hKc, hDc.weaken (fun _ _ _ _ => trivial), tqN_warm hW hN⟩⟩ rfl rfl hl.1 rfl (lv_room (Nat.le_of_ble_eq_true rfl)) dM_whole_36 ⟨Nat.zero_le _, Nat.zero_le _⟩) hS (fun q _ h => hFc q h) hFc (fun ra u0 t H1 locs ht hvm hpost hB hz1 hk1 hS => ?_)
    have hpost : (m_negative nz x) = ra := (show ra = (m_negative nz x) from hpost).symm
    subst hpost
    obtain ⟨hP1, hK1, hD1⟩ := hB
    rw [ht] at hP1
    obtain ⟨hP, hD⟩ := va_join (wr := [(la, .inl (cI, 200, .inl lf6))]) (w1 := [(mo, .inr (3, [.int nz, .ref la, .int sq5, .ref sa]))]) hP hD [0] [1] rfl rfl (by decide) (by decide) hk1 hFc hP1 hD1
    generalize H1 = H at hP hS ⊢
    have hP := hP.sub (ws' := [(mo, .inr (3, [.int nz, .ref la, .int sq5, .ref sa])), (la, .inl (cI, 200, .inl lf6))]) [1, 0] rfl
    have hD := hD.sub (ws' := [(mo, .inr (3, [.int nz, .ref la, .int sq5, .ref sa])), (la, .inl (cI, 200, .inl lf6))]) [1, 0] (by decide) rfl
    refine lv_aload_n hx hb dM_whole_39 rfl (lv_at hl 0 rfl) ?_
    refine va_get (D := (dC, dI)) (ci := 3) (v := .int nz) (C := RM) (T := TM) (N := 4) hx hb hww tqinM hown hK hP 0 rfl rfl 0 (by decide) (hww _ tqt_330) (fun _ h9 => h9) rfl dM_whole_40 ?_
    obtain ⟨u, hu, hf⟩ := tq_bd_some hf
    obtain ⟨r8, lf9⟩ := u
    have hf := tq_nm_at (z := r8) rfl hf
    have hf := tq_nm_at (z := lf9) rfl hf
    have hPc := hP.sub (ws' := [(mo, .inr (3, [.int nz, .ref la, .int sq5, .ref sa])), (la, .inl (cI, 200, .inl lf6))]) [0, 1] rfl
    have hDc := hD.sub (ws' := [(mo, .inr (3, [.int nz, .ref la, .int sq5, .ref sa])), (la, .inl (cI, 200, .inl lf6))]) [0, 1] (by decide) rfl
    have hKc := hK.sub (tys' := [(cI, .int)]) [0] rfl
    have hFc := va_free (wc := [(mo, .inr (3, [.int nz, .ref la, .int sq5, .ref sa])), (la, .inl (cI, 200, .inl lf6))]) hD hS hA [0, 1] rfl
    refine va_calli (va_runV (As := [.int (m_negative nz x), .int nz]) (rest := []) ⟨hx, hb, hml, hown, hww⟩ (c_m_rounded l dC dI mo la sa cI H.size (m_negative nz x) nz nz sq5 lf6 (r8, lf9) hu) (cwV 2 hww (tq_gV tqt_417 tqt_419 tqt_20 tqt_35 tqt_420) rfl rfl rfl (by decide +kernel) ⟨Nat.le_of_ble_eq_true rfl, Nat.le_of_ble_eq_true rfl⟩) ⟨fun a U g mk q => by obtain ⟨q0, q1, qP, qK, qD, qN⟩ := q; exact ⟨q0, q1, qP, va_K.moved (u := U) (U := U.calling g mk a) (Vm.Alike.refl U.vm) qK, qD, tqN_same (u := U) (U := U.calling g mk a) rfl qN⟩, va_recv hK hP (ci := 3) rfl (q0 := 0) rfl, fun U hU hW => ⟨rfl, by rw [hU], by rw [hU]; exact hPc, va_K.moved hW.alike hKc, hDc.weaken (fun _ _ _ _ => trivial), tqN_warm hW hN⟩⟩ rfl rfl hl.1 rfl (lv_room (Nat.le_of_ble_eq_true rfl)) dM_whole_43 ⟨Nat.zero_le _, Nat.zero_le _⟩) hS (fun q _ h => hFc q h) hFc (fun ra u0 t H1 locs ht hvm hpost hB hz1 hk1 hS => ?_)
    have hpost : r8 = ra := (show ra = r8 from hpost).symm
    subst hpost
    obtain ⟨hP1, hK1, hD1⟩ := hB
    rw [ht] at hP1
    obtain ⟨hP, hD⟩ := va_join (wr := []) (w1 := [(mo, .inr (3, [.int nz, .ref la, .int sq5, .ref sa])), (la, .inl (cI, 200, .inl lf9))]) hP hD [0, 1] [] rfl rfl (by decide) (by decide) hk1 hFc hP1 hD1
    generalize H1 = H at hP hS ⊢
    have hP := hP.sub (ws' := [(mo, .inr (3, [.int nz, .ref la, .int sq5, .ref sa])), (la, .inl (cI, 200, .inl lf9))]) [0, 1] rfl
    have hD := hD.sub (ws' := [(mo, .inr (3, [.int nz, .ref la, .int sq5, .ref sa])), (la, .inl (cI, 200, .inl lf9))]) [0, 1] (by decide) rfl
    have hf := Option.some.inj hf
    subst hf
    exact W.iret (v := r8) hx hb hr (fun t ht hW => ⟨⟨r8, (), rfl, rfl, by rw [ht]; exact hP, va_K.moved hW.alike hK, hD⟩, hS.F ht⟩) hS.2.2 dM_whole_46
  · rw [if_neg h2] at hf
    refine lv_aload_n hx hb dM_whole_8 rfl (lv_at hl 0 rfl) ?_
    refine va_get (D := (dC, dI)) (ci := 3) (v := .int nz) (C := RM) (T := TM) (N := 4) hx hb hww tqinM hown hK hP 0 rfl rfl 0 (by decide) (hww _ tqt_330) (fun _ h9 => h9) rfl dM_whole_9 ?_
    have hPc := hP.sub (ws' := []) [] rfl
    have hDc := hD.sub (ws' := []) [] (by decide) rfl
    have hKc := hK.sub (tys' := []) [] rfl
    have hFc := va_free (wc := []) hD hS hA [] rfl
    refine va_calli (va_runS (As := [.int nz]) (rest := []) ⟨hx, hb, hml, hown, hww⟩ (c_m_not l dC dI H.size nz (m_not nz) rfl) (va_cwS 1 hww (tq_gS tqt_364 tqt_365 tqt_35 tqt_366) rfl rfl rfl (by decide +kernel) ⟨Nat.le_of_ble_eq_true rfl, Nat.le_of_ble_eq_true rfl⟩) ⟨fun a U g mk q => by obtain ⟨q0, q1, qP, qK, qD, qN⟩ := q; exact ⟨q0, q1, qP, va_K.moved (u := U) (U := U.calling g mk a) (Vm.Alike.refl U.vm) qK, qD, tqN_same (u := U) (U := U.calling g mk a) rfl qN⟩, fun U hU hW => ⟨rfl, by rw [hU], by rw [hU]; exact hPc, va_K.moved hW.alike hKc, hDc.weaken (fun _ _ _ _ => trivial), tqN_warm hW hN⟩⟩ rfl rfl hl.1 rfl (lv_room (Nat.le_of_ble_eq_true rfl)) dM_whole_12 ⟨Nat.zero_le _, Nat.zero_le _⟩) hS (fun q _ h => hFc q h) hFc (fun ra u0 t H1 locs ht hvm hpost hB hz1 hk1 hS => ?_)
    have hpost : (m_not nz) = ra := (show ra = (m_not nz) from hpost).symm
    subst hpost
    obtain ⟨hP1, hK1, hD1⟩ := hB
    rw [ht] at hP1
    obtain ⟨hP, hD⟩ := va_join (wr := [(mo, .inr (3, [.int nz, .ref la, .int sq, .ref sa])), (la, .inl (cI, 200, .inl lf))]) (w1 := []) hP hD [] [0, 1] rfl rfl (by decide) (by decide) hk1 hFc hP1 hD1
    generalize H1 = H at hP hS ⊢
    have hP := hP.sub (ws' := [(mo, .inr (3, [.int nz, .ref la, .int sq, .ref sa])), (la, .inl (cI, 200, .inl lf))]) [0, 1] rfl
    have hD := hD.sub (ws' := [(mo, .inr (3, [.int nz, .ref la, .int sq, .ref sa])), (la, .inl (cI, 200, .inl lf))]) [0, 1] (by decide) rfl
    have hf := Option.some.inj hf
    subst hf
    exact W.iret (v := m_not nz) hx hb hr (fun t ht hW => ⟨⟨m_not nz, (), rfl, rfl, by rw [ht]; exact hP, va_K.moved hW.alike hK, hD⟩, hS.F ht⟩) hS.2.2 dM_whole_15
set_option maxHeartbeats 4000000 in
set_option maxRecDepth 100000 in
theorem c_m_next (l : Launch) (dC : Nat → ClassId) (dI : Nat → Nat → Nat) (mo : Nat) (la : Nat) (sa : Nat) (sz : Nat) (x : Int32) (nz : Int32) (sq : Int32) (r : Int32) (hf : m_next nz x = r) : Met l yM_next tqw_M_next ({ frames := 1, cells := 0, slots := 0, locals := 21 }) (va_Pc [.ref mo, .int x] (fun U => U.heap.size = sz ∧ va_P (dC, dI) tqCl [(mo, .inr (3, [.int nz, .ref la, .int sq, .ref sa]))] U.heap ∧ va_K (dC, dI) tqCl [] U ∧ va_D (fun _ => True) [(mo, .inr (3, [.int nz, .ref la, .int sq, .ref sa]))] ∧ tqN U)) (va_Qi (fun (a : Int32) (_ : Unit) => a = r) (fun (_ : Unit) (t : State) => va_P (dC, dI) tqCl [(mo, .inr (3, [.int nz, .ref la, .int sq, .ref sa]))] t.heap ∧ va_K (dC, dI) tqCl [] t ∧ va_D (va_A [(mo, .inr (3, [.int nz, .ref la, .int sq, .ref sa]))] sz) [(mo, .inr (3, [.int nz, .ref la, .int sq, .ref sa]))]) (va_A [(mo, .inr (3, [.int nz, .ref la, .int sq, .ref sa]))] sz)) 0 0 (va_A [(mo, .inr (3, [.int nz, .ref la, .int sq, .ref sa]))] sz) := by
  refine Met.ofW (cc := cM_next) (maxL := 2) (ret := (some .int)) (by decide) rfl ?_
  intro p e s m args below meth c s₁ B hml hv
  obtain ⟨rfl, hsz, hP, hK, hD0, hN⟩ := hv
  have hx := B.exec
  have hb := B.bytes
  have hr := B.returns
  have hts := atoms_spec (ws := tqw_M_next) B.pre
  have hww : ∀ w ∈ tqW, w.before _ s = true := fun w h => hts w (List.mem_cons_of_mem _ h)
  have hown : s.vm.findClass RM = some m.cls := findClass_of_methodNamed B.named
  have hlocks := B.notSynchronized
  subst hsz
  have hD := hD0.self (sz := s.heap.size)
  generalize hAe : va_A [(mo, .inr (3, [.int nz, .ref la, .int sq, .ref sa]))] s.heap.size = A at hD ⊢
  have hA : ∀ q : Nat, s.heap.size ≤ q → A q := fun q h => by rw [← hAe]; exact Or.inr h
  have hS : va_S A s.heap s.heap [] := va_S.rf
  have hP : va_P (dC, dI) tqCl [(mo, .inr (3, [.int nz, .ref la, .int sq, .ref sa]))] s.heap := hP
  have hl := lv_entry ([.ref mo, .int x]) (n := 2) (Nat.le_of_ble_eq_true rfl)
  rw [lg_entry_eq]
  generalize (lg_sl ([.ref mo, .int x]) ++ List.replicate (2 - (lg_sl ([.ref mo, .int x])).length) Slot.unset).toArray = ls at hl ⊢
  have hl : lv_has ls 2 [(0, .ref mo), (1, .int x)] := hl
  unfold m_next at hf
  refine lv_aload_n hx hb dM_next_0 rfl (lv_at hl 0 rfl) ?_
  refine lv_iload_n hx hb dM_next_1 rfl (lv_at hl 1 rfl) ?_
  refine lv_iconst (v := 1) hx hb dM_next_2 (by decide) ?_
  refine lv_iadd hx hb dM_next_3 ?_
  have hPc := hP.sub (ws' := [(mo, .inr (3, [.int nz, .ref la, .int sq, .ref sa]))]) [0] rfl
  have hDc := hD.sub (ws' := [(mo, .inr (3, [.int nz, .ref la, .int sq, .ref sa]))]) [0] (by decide) rfl
  have hKc := hK.sub (tys' := []) [] rfl
  have hFc := va_free (wc := [(mo, .inr (3, [.int nz, .ref la, .int sq, .ref sa]))]) hD hS hA [0] rfl
  refine va_calli (va_runV (As := [.int (x + (1 : Int32))]) (rest := []) ⟨hx, hb, hml, hown, hww⟩ (c_m_pattern l dC dI mo la sa s.heap.size (x + (1 : Int32)) nz sq (m_pattern nz (x + (1 : Int32))) rfl) (cwV 1 hww (tq_gV tqt_360 tqt_362 tqt_7 tqt_35 tqt_363) rfl rfl rfl (by decide +kernel) ⟨Nat.le_of_ble_eq_true rfl, Nat.le_of_ble_eq_true rfl⟩) ⟨fun a U g mk q => by obtain ⟨q0, q1, qP, qK, qD, qN⟩ := q; exact ⟨q0, q1, qP, va_K.moved (u := U) (U := U.calling g mk a) (Vm.Alike.refl U.vm) qK, qD, tqN_same (u := U) (U := U.calling g mk a) rfl qN⟩, va_recv hK hP (ci := 3) rfl (q0 := 0) rfl, fun U hU hW => ⟨rfl, by rw [hU], by rw [hU]; exact hPc, va_K.moved hW.alike hKc, hDc.weaken (fun _ _ _ _ => trivial), tqN_warm hW hN⟩⟩ rfl rfl hl.1 rfl (lv_room (Nat.le_of_ble_eq_true rfl)) dM_next_4 ⟨Nat.zero_le _, Nat.zero_le _⟩) hS (fun q _ h => hFc q h) hFc (fun ra u0 t H1 locs ht hvm hpost hB hz1 hk1 hS => ?_)
  have hpost : (m_pattern nz (x + (1 : Int32))) = ra := (show ra = (m_pattern nz (x + (1 : Int32))) from hpost).symm
  subst hpost
  obtain ⟨hP1, hK1, hD1⟩ := hB
  rw [ht] at hP1
  obtain ⟨hP, hD⟩ := va_join (wr := []) (w1 := [(mo, .inr (3, [.int nz, .ref la, .int sq, .ref sa]))]) hP hD [0] [] rfl rfl (by decide) (by decide) hk1 hFc hP1 hD1
  generalize H1 = H at hP hS ⊢
  have hP := hP.sub (ws' := [(mo, .inr (3, [.int nz, .ref la, .int sq, .ref sa]))]) [0] rfl
  have hD := hD.sub (ws' := [(mo, .inr (3, [.int nz, .ref la, .int sq, .ref sa]))]) [0] (by decide) rfl
  subst hf
  exact W.iret (v := m_pattern nz (x + (1 : Int32))) hx hb hr (fun t ht hW => ⟨⟨m_pattern nz (x + (1 : Int32)), (), rfl, rfl, by rw [ht]; exact hP, va_K.moved hW.alike hK, hD⟩, hS.F ht⟩) hS.2.2 dM_next_7
set_option maxHeartbeats 4000000 in
set_option maxRecDepth 100000 in
theorem c_m_fromLong (l : Launch) (dC : Nat → ClassId) (dI : Nat → Nat → Nat) (mo : Nat) (la : Nat) (sa : Nat) (cI : ClassId) (sz : Nat) (v : Int64) (nz : Int32) (sq : Int32) (lf : Nat → Int32) (r : Int32 × Int32 × (Nat → Int32)) (hf : m_fromLong nz sq lf v = some r) : Met l yM_fromLong tqw_M_fromLong ({ frames := 5, cells := 0, slots := 0, locals := 132 }) (va_Pc [.ref mo, .long v] (fun U => U.heap.size = sz ∧ va_P (dC, dI) tqCl [(mo, .inr (3, [.int nz, .ref la, .int sq, .ref sa])), (la, .inl (cI, 200, .inl lf))] U.heap ∧ va_K (dC, dI) tqCl [(cI, .int)] U ∧ va_D (fun _ => True) [(mo, .inr (3, [.int nz, .ref la, .int sq, .ref sa])), (la, .inl (cI, 200, .inl lf))] ∧ tqN U)) (va_Qi (fun (a : Int32) (_ : Unit) => a = r.1) (fun (_ : Unit) (t : State) => va_P (dC, dI) tqCl [(mo, .inr (3, [.int nz, .ref la, .int r.2.1, .ref sa])), (la, .inl (cI, 200, .inl r.2.2))] t.heap ∧ va_K (dC, dI) tqCl [(cI, .int)] t ∧ va_D (va_A [(mo, .inr (3, [.int nz, .ref la, .int sq, .ref sa])), (la, .inl (cI, 200, .inl lf))] sz) [(mo, .inr (3, [.int nz, .ref la, .int r.2.1, .ref sa])), (la, .inl (cI, 200, .inl r.2.2))]) (va_A [(mo, .inr (3, [.int nz, .ref la, .int sq, .ref sa])), (la, .inl (cI, 200, .inl lf))] sz)) 0 0 (va_A [(mo, .inr (3, [.int nz, .ref la, .int sq, .ref sa])), (la, .inl (cI, 200, .inl lf))] sz) := by
  refine Met.ofW (cc := cM_fromLong) (maxL := 3) (ret := (some .int)) (by decide) rfl ?_
  intro p e s m args below meth c s₁ B hml hv
  obtain ⟨rfl, hsz, hP, hK, hD0, hN⟩ := hv
  have hx := B.exec
  have hb := B.bytes
  have hr := B.returns
  have hts := atoms_spec (ws := tqw_M_fromLong) B.pre
  have hww : ∀ w ∈ tqW, w.before _ s = true := fun w h => hts w (List.mem_cons_of_mem _ h)
  have hown : s.vm.findClass RM = some m.cls := findClass_of_methodNamed B.named
  have hlocks := B.notSynchronized
  subst hsz
  have hD := hD0.self (sz := s.heap.size)
  generalize hAe : va_A [(mo, .inr (3, [.int nz, .ref la, .int sq, .ref sa])), (la, .inl (cI, 200, .inl lf))] s.heap.size = A at hD ⊢
  have hA : ∀ q : Nat, s.heap.size ≤ q → A q := fun q h => by rw [← hAe]; exact Or.inr h
  have hS : va_S A s.heap s.heap [] := va_S.rf
  have hP : va_P (dC, dI) tqCl [(mo, .inr (3, [.int nz, .ref la, .int sq, .ref sa])), (la, .inl (cI, 200, .inl lf))] s.heap := hP
  have hl := lv_entry ([.ref mo, .long v]) (n := 3) (Nat.le_of_ble_eq_true rfl)
  rw [lg_entry_eq]
  generalize (lg_sl ([.ref mo, .long v]) ++ List.replicate (3 - (lg_sl ([.ref mo, .long v])).length) Slot.unset).toArray = ls at hl ⊢
  have hl : lv_has ls 3 [(0, .ref mo), (1, .long v)] := hl
  have B62 : ∀ (ls : Array Slot) (H : Heap) (locs : List Loc) (t0 : Int32) (sq : Int32) (lf : Nat → Int32), m_fromLong_b62 nz t0 sq lf = some r → lv_has ls 3 [(0, .ref mo)] → va_P (dC, dI) tqCl [(mo, .inr (3, [.int nz, .ref la, .int sq, .ref sa])), (la, .inl (cI, 200, .inl lf))] H → va_D A [(mo, .inr (3, [.int nz, .ref la, .int sq, .ref sa])), (la, .inl (cI, 200, .inl lf))] → va_S A s.heap H locs → W p l e ({ frames := 5, cells := 0, slots := 0, locals := 132 }) s m ([.ref mo, .long v] : List Value).toArray below meth c H locs 0 0 (MQ below (va_Qi (fun (a : Int32) (_ : Unit) => a = r.1) (fun (_ : Unit) (t : State) => va_P (dC, dI) tqCl [(mo, .inr (3, [.int nz, .ref la, .int r.2.1, .ref sa])), (la, .inl (cI, 200, .inl r.2.2))] t.heap ∧ va_K (dC, dI) tqCl [(cI, .int)] t ∧ va_D (A) [(mo, .inr (3, [.int nz, .ref la, .int r.2.1, .ref sa])), (la, .inl (cI, 200, .inl r.2.2))]) (A)) ([.ref mo, .long v] : List Value).toArray s 0 0 A) (F0 m 62 ls [.int t0, .ref mo]) := by
    try clear hf
    intro ls H locs t0 sq lf hf hl hP hD hS
    unfold m_fromLong_b62 at hf
    refine lv_aload_n hx hb dM_fromLong_62 rfl (lv_at hl 0 rfl) ?_
    refine va_get (D := (dC, dI)) (ci := 3) (v := .int nz) (C := RM) (T := TM) (N := 4) hx hb hww tqinM hown hK hP 0 rfl rfl 0 (by decide) (hww _ tqt_330) (fun _ h9 => h9) rfl dM_fromLong_63 ?_
    obtain ⟨u, hu, hf⟩ := tq_bd_some hf
    obtain ⟨r8, lf9⟩ := u
    have hf := tq_nm_at (z := r8) rfl hf
    have hf := tq_nm_at (z := lf9) rfl hf
    have hPc := hP.sub (ws' := [(mo, .inr (3, [.int nz, .ref la, .int sq, .ref sa])), (la, .inl (cI, 200, .inl lf))]) [0, 1] rfl
    have hDc := hD.sub (ws' := [(mo, .inr (3, [.int nz, .ref la, .int sq, .ref sa])), (la, .inl (cI, 200, .inl lf))]) [0, 1] (by decide) rfl
    have hKc := hK.sub (tys' := [(cI, .int)]) [0] rfl
    have hFc := va_free (wc := [(mo, .inr (3, [.int nz, .ref la, .int sq, .ref sa])), (la, .inl (cI, 200, .inl lf))]) hD hS hA [0, 1] rfl
    refine va_calli (va_runV (As := [.int t0, .int nz]) (rest := []) ⟨hx, hb, hml, hown, hww⟩ (c_m_rounded l dC dI mo la sa cI H.size t0 nz nz sq lf (r8, lf9) hu) (cwV 2 hww (tq_gV tqt_417 tqt_419 tqt_20 tqt_35 tqt_420) rfl rfl rfl (by decide +kernel) ⟨Nat.le_of_ble_eq_true rfl, Nat.le_of_ble_eq_true rfl⟩) ⟨fun a U g mk q => by obtain ⟨q0, q1, qP, qK, qD, qN⟩ := q; exact ⟨q0, q1, qP, va_K.moved (u := U) (U := U.calling g mk a) (Vm.Alike.refl U.vm) qK, qD, tqN_same (u := U) (U := U.calling g mk a) rfl qN⟩, va_recv hK hP (ci := 3) rfl (q0 := 0) rfl, fun U hU hW => ⟨rfl, by rw [hU], by rw [hU]; exact hPc, va_K.moved hW.alike hKc, hDc.weaken (fun _ _ _ _ => trivial), tqN_warm hW hN⟩⟩ rfl rfl hl.1 rfl (lv_room (Nat.le_of_ble_eq_true rfl)) dM_fromLong_66 ⟨Nat.zero_le _, Nat.zero_le _⟩) hS (fun q _ h => hFc q h) hFc (fun ra u0 t H1 locs ht hvm hpost hB hz1 hk1 hS => ?_)
    have hpost : r8 = ra := (show ra = r8 from hpost).symm
    subst hpost
    obtain ⟨hP1, hK1, hD1⟩ := hB
    rw [ht] at hP1
    obtain ⟨hP, hD⟩ := va_join (wr := []) (w1 := [(mo, .inr (3, [.int nz, .ref la, .int sq, .ref sa])), (la, .inl (cI, 200, .inl lf9))]) hP hD [0, 1] [] rfl rfl (by decide) (by decide) hk1 hFc hP1 hD1
    generalize H1 = H at hP hS ⊢
    have hP := hP.sub (ws' := [(mo, .inr (3, [.int nz, .ref la, .int sq, .ref sa])), (la, .inl (cI, 200, .inl lf9))]) [0, 1] rfl
    have hD := hD.sub (ws' := [(mo, .inr (3, [.int nz, .ref la, .int sq, .ref sa])), (la, .inl (cI, 200, .inl lf9))]) [0, 1] (by decide) rfl
    have hf := Option.some.inj hf
    subst hf
    exact W.iret (v := r8) hx hb hr (fun t ht hW => ⟨⟨r8, (), rfl, rfl, by rw [ht]; exact hP, va_K.moved hW.alike hK, hD⟩, hS.F ht⟩) hS.2.2 dM_fromLong_69
  have B35 : ∀ (ls : Array Slot) (H : Heap) (locs : List Loc) (t0 : Int64) (t1 : Int32) (sq : Int32) (lf : Nat → Int32), m_fromLong_b35 nz v t0 t1 sq lf = some r → lv_has ls 3 [(0, .ref mo), (1, .long v)] → va_P (dC, dI) tqCl [(mo, .inr (3, [.int nz, .ref la, .int sq, .ref sa])), (la, .inl (cI, 200, .inl lf))] H → va_D A [(mo, .inr (3, [.int nz, .ref la, .int sq, .ref sa])), (la, .inl (cI, 200, .inl lf))] → va_S A s.heap H locs → W p l e ({ frames := 5, cells := 0, slots := 0, locals := 132 }) s m ([.ref mo, .long v] : List Value).toArray below meth c H locs 0 0 (MQ below (va_Qi (fun (a : Int32) (_ : Unit) => a = r.1) (fun (_ : Unit) (t : State) => va_P (dC, dI) tqCl [(mo, .inr (3, [.int nz, .ref la, .int r.2.1, .ref sa])), (la, .inl (cI, 200, .inl r.2.2))] t.heap ∧ va_K (dC, dI) tqCl [(cI, .int)] t ∧ va_D (A) [(mo, .inr (3, [.int nz, .ref la, .int r.2.1, .ref sa])), (la, .inl (cI, 200, .inl r.2.2))]) (A)) ([.ref mo, .long v] : List Value).toArray s 0 0 A) (F0 m 35 ls [.long t0, .int t1, .ref mo]) := by
    try clear hf
    intro ls H locs t0 t1 sq lf hf hl hP hD hS
    unfold m_fromLong_b35 at hf
    obtain ⟨lf3, hu, hf⟩ := tq_bd_some hf
    have hPc := hP.sub (ws' := [(mo, .inr (3, [.int nz, .ref la, .int sq, .ref sa])), (la, .inl (cI, 200, .inl lf))]) [0, 1] rfl
    have hDc := hD.sub (ws' := [(mo, .inr (3, [.int nz, .ref la, .int sq, .ref sa])), (la, .inl (cI, 200, .inl lf))]) [0, 1] (by decide) rfl
    have hKc := hK.sub (tys' := [(cI, .int)]) [0] rfl
    have hFc := va_free (wc := [(mo, .inr (3, [.int nz, .ref la, .int sq, .ref sa])), (la, .inl (cI, 200, .inl lf))]) hD hS hA [0, 1] rfl
    refine va_callv (va_runV (As := [.int t1, .long t0]) (rest := []) ⟨hx, hb, hml, hown, hww⟩ (c_m_setLong l dC dI mo la sa cI H.size t1 t0 nz sq lf lf3 hu) (cwV 2 hww (tq_gV tqt_379 tqt_381 tqt_11 tqt_35 tqt_382) rfl rfl rfl (by decide +kernel) ⟨Nat.le_of_ble_eq_true rfl, Nat.le_of_ble_eq_true rfl⟩) ⟨fun a U g mk q => by obtain ⟨q0, q1, qP, qK, qD, qN⟩ := q; exact ⟨q0, q1, qP, va_K.moved (u := U) (U := U.calling g mk a) (Vm.Alike.refl U.vm) qK, qD, tqN_same (u := U) (U := U.calling g mk a) rfl qN⟩, va_recv hK hP (ci := 3) rfl (q0 := 0) rfl, fun U hU hW => ⟨rfl, by rw [hU], by rw [hU]; exact hPc, va_K.moved hW.alike hKc, hDc.weaken (fun _ _ _ _ => trivial), tqN_warm hW hN⟩⟩ rfl rfl hl.1 rfl (lv_room (Nat.le_of_ble_eq_true rfl)) dM_fromLong_35 ⟨Nat.zero_le _, Nat.zero_le _⟩) hS (fun q _ h => hFc q h) hFc (fun u0 t H1 locs ht hvm hpost hB hz1 hk1 hS => ?_)
    obtain ⟨hP1, hK1, hD1⟩ := hB
    rw [ht] at hP1
    obtain ⟨hP, hD⟩ := va_join (wr := []) (w1 := [(mo, .inr (3, [.int nz, .ref la, .int sq, .ref sa])), (la, .inl (cI, 200, .inl lf3))]) hP hD [0, 1] [] rfl rfl (by decide) (by decide) hk1 hFc hP1 hD1
    generalize H1 = H at hP hS ⊢
    have hP := hP.sub (ws' := [(mo, .inr (3, [.int nz, .ref la, .int sq, .ref sa])), (la, .inl (cI, 200, .inl lf3))]) [0, 1] rfl
    have hD := hD.sub (ws' := [(mo, .inr (3, [.int nz, .ref la, .int sq, .ref sa])), (la, .inl (cI, 200, .inl lf3))]) [0, 1] (by decide) rfl
    refine lv_aload_n hx hb dM_fromLong_38 rfl (lv_at hl 0 rfl) ?_
    refine lv_iconst (v := 0) hx hb dM_fromLong_39 (by decide) ?_
    refine lv_bipush (v := 124) hx hb dM_fromLong_40 (by decide) ?_
    obtain ⟨lf4, hu, hf⟩ := tq_bd_some hf
    have hPc := hP.sub (ws' := [(mo, .inr (3, [.int nz, .ref la, .int sq, .ref sa])), (la, .inl (cI, 200, .inl lf3))]) [0, 1] rfl
    have hDc := hD.sub (ws' := [(mo, .inr (3, [.int nz, .ref la, .int sq, .ref sa])), (la, .inl (cI, 200, .inl lf3))]) [0, 1] (by decide) rfl
    have hKc := hK.sub (tys' := [(cI, .int)]) [0] rfl
    have hFc := va_free (wc := [(mo, .inr (3, [.int nz, .ref la, .int sq, .ref sa])), (la, .inl (cI, 200, .inl lf3))]) hD hS hA [0, 1] rfl
    refine va_callv (va_runV (As := [.int (0 : Int32), .int (124 : Int32)]) (rest := []) ⟨hx, hb, hml, hown, hww⟩ (c_m_raise l dC dI mo la sa cI H.size (0 : Int32) (124 : Int32) nz sq lf3 lf4 hu) (cwV 2 hww (tq_gV tqt_384 tqt_386 tqt_12 tqt_35 tqt_387) rfl rfl rfl (by decide +kernel) ⟨Nat.le_of_ble_eq_true rfl, Nat.le_of_ble_eq_true rfl⟩) ⟨fun a U g mk q => by obtain ⟨q0, q1, qP, qK, qD, qN⟩ := q; exact ⟨q0, q1, qP, va_K.moved (u := U) (U := U.calling g mk a) (Vm.Alike.refl U.vm) qK, qD, tqN_same (u := U) (U := U.calling g mk a) rfl qN⟩, va_recv hK hP (ci := 3) rfl (q0 := 0) rfl, fun U hU hW => ⟨rfl, by rw [hU], by rw [hU]; exact hPc, va_K.moved hW.alike hKc, hDc.weaken (fun _ _ _ _ => trivial), tqN_warm hW hN⟩⟩ rfl rfl hl.1 rfl (lv_room (Nat.le_of_ble_eq_true rfl)) dM_fromLong_42 ⟨Nat.zero_le _, Nat.zero_le _⟩) hS (fun q _ h => hFc q h) hFc (fun u0 t H1 locs ht hvm hpost hB hz1 hk1 hS => ?_)
    obtain ⟨hP1, hK1, hD1⟩ := hB
    rw [ht] at hP1
    obtain ⟨hP, hD⟩ := va_join (wr := []) (w1 := [(mo, .inr (3, [.int nz, .ref la, .int sq, .ref sa])), (la, .inl (cI, 200, .inl lf4))]) hP hD [0, 1] [] rfl rfl (by decide) (by decide) hk1 hFc hP1 hD1
    generalize H1 = H at hP hS ⊢
    have hP := hP.sub (ws' := [(mo, .inr (3, [.int nz, .ref la, .int sq, .ref sa])), (la, .inl (cI, 200, .inl lf4))]) [0, 1] rfl
    have hD := hD.sub (ws' := [(mo, .inr (3, [.int nz, .ref la, .int sq, .ref sa])), (la, .inl (cI, 200, .inl lf4))]) [0, 1] (by decide) rfl
    refine lv_aload_n hx hb dM_fromLong_45 rfl (lv_at hl 0 rfl) ?_
    refine lv_iconst (v := 0) hx hb dM_fromLong_46 (by decide) ?_
    obtain ⟨u, hu, hf⟩ := tq_bd_some hf
    obtain ⟨sq5, lf6⟩ := u
    have hf := tq_nm_at (z := sq5) rfl hf
    have hf := tq_nm_at (z := lf6) rfl hf
    have hPc := hP.sub (ws' := [(mo, .inr (3, [.int nz, .ref la, .int sq, .ref sa])), (la, .inl (cI, 200, .inl lf4))]) [0, 1] rfl
    have hDc := hD.sub (ws' := [(mo, .inr (3, [.int nz, .ref la, .int sq, .ref sa])), (la, .inl (cI, 200, .inl lf4))]) [0, 1] (by decide) rfl
    have hKc := hK.sub (tys' := [(cI, .int)]) [0] rfl
    have hFc := va_free (wc := [(mo, .inr (3, [.int nz, .ref la, .int sq, .ref sa])), (la, .inl (cI, 200, .inl lf4))]) hD hS hA [0, 1] rfl
    refine va_callv (va_runV (As := [.int (0 : Int32)]) (rest := []) ⟨hx, hb, hml, hown, hww⟩ (c_m_factor l dC dI mo la sa cI H.size (0 : Int32) nz sq lf4 (sq5, lf6) hu) (cwV 1 hww (tq_gV tqt_413 tqt_415 tqt_19 tqt_35 tqt_416) rfl rfl rfl (by decide +kernel) ⟨Nat.le_of_ble_eq_true rfl, Nat.le_of_ble_eq_true rfl⟩) ⟨fun a U g mk q => by obtain ⟨q0, q1, qP, qK, qD, qN⟩ := q; exact ⟨q0, q1, qP, va_K.moved (u := U) (U := U.calling g mk a) (Vm.Alike.refl U.vm) qK, qD, tqN_same (u := U) (U := U.calling g mk a) rfl qN⟩, va_recv hK hP (ci := 3) rfl (q0 := 0) rfl, fun U hU hW => ⟨rfl, by rw [hU], by rw [hU]; exact hPc, va_K.moved hW.alike hKc, hDc.weaken (fun _ _ _ _ => trivial), tqN_warm hW hN⟩⟩ rfl rfl hl.1 rfl (lv_room (Nat.le_of_ble_eq_true rfl)) dM_fromLong_47 ⟨Nat.zero_le _, Nat.zero_le _⟩) hS (fun q _ h => hFc q h) hFc (fun u0 t H1 locs ht hvm hpost hB hz1 hk1 hS => ?_)
    obtain ⟨hP1, hK1, hD1⟩ := hB
    rw [ht] at hP1
    obtain ⟨hP, hD⟩ := va_join (wr := []) (w1 := [(mo, .inr (3, [.int nz, .ref la, .int sq5, .ref sa])), (la, .inl (cI, 200, .inl lf6))]) hP hD [0, 1] [] rfl rfl (by decide) (by decide) hk1 hFc hP1 hD1
    generalize H1 = H at hP hS ⊢
    have hP := hP.sub (ws' := [(mo, .inr (3, [.int nz, .ref la, .int sq5, .ref sa])), (la, .inl (cI, 200, .inl lf6))]) [0, 1] rfl
    have hD := hD.sub (ws' := [(mo, .inr (3, [.int nz, .ref la, .int sq5, .ref sa])), (la, .inl (cI, 200, .inl lf6))]) [0, 1] (by decide) rfl
    refine lv_aload_n hx hb dM_fromLong_50 rfl (lv_at hl 0 rfl) ?_
    refine lv_lload_n hx hb dM_fromLong_51 rfl (lv_at hl 1 rfl) ?_
    refine lv_lconst (v := 0) hx hb dM_fromLong_52 (by decide) ?_
    refine W.lcmp hx hb dM_fromLong_53 ?_
    refine lv_if_ge hx hb dM_fromLong_54 rfl (fun h7 => ?_) (fun h7 => ?_)
    · rw [if_pos h7] at hf
      refine lv_iconst (v := 0) hx hb dM_fromLong_61 (by decide) ?_
      exact B62 ls _ _ (0 : Int32) sq5 lf6 hf (lv_sub hl [0] rfl) hP hD hS
    · rw [if_neg h7] at hf
      refine lv_iconst (v := 1) hx hb dM_fromLong_57 (by decide) ?_
      refine lv_goto hx hb dM_fromLong_58 rfl ?_
      exact B62 ls _ _ (1 : Int32) sq5 lf6 hf (lv_sub hl [0] rfl) hP hD hS
  have B21 : ∀ (ls : Array Slot) (H : Heap) (locs : List Loc) (sq : Int32) (lf : Nat → Int32), m_fromLong_b21 nz v sq lf = some r → lv_has ls 3 [(0, .ref mo), (1, .long v)] → va_P (dC, dI) tqCl [(mo, .inr (3, [.int nz, .ref la, .int sq, .ref sa])), (la, .inl (cI, 200, .inl lf))] H → va_D A [(mo, .inr (3, [.int nz, .ref la, .int sq, .ref sa])), (la, .inl (cI, 200, .inl lf))] → va_S A s.heap H locs → W p l e ({ frames := 5, cells := 0, slots := 0, locals := 132 }) s m ([.ref mo, .long v] : List Value).toArray below meth c H locs 0 0 (MQ below (va_Qi (fun (a : Int32) (_ : Unit) => a = r.1) (fun (_ : Unit) (t : State) => va_P (dC, dI) tqCl [(mo, .inr (3, [.int nz, .ref la, .int r.2.1, .ref sa])), (la, .inl (cI, 200, .inl r.2.2))] t.heap ∧ va_K (dC, dI) tqCl [(cI, .int)] t ∧ va_D (A) [(mo, .inr (3, [.int nz, .ref la, .int r.2.1, .ref sa])), (la, .inl (cI, 200, .inl r.2.2))]) (A)) ([.ref mo, .long v] : List Value).toArray s 0 0 A) (F0 m 21 ls []) := by
    try clear hf
    intro ls H locs sq lf hf hl hP hD hS
    unfold m_fromLong_b21 at hf
    refine lv_aload_n hx hb dM_fromLong_21 rfl (lv_at hl 0 rfl) ?_
    refine lv_iconst (v := 0) hx hb dM_fromLong_22 (by decide) ?_
    refine lv_lload_n hx hb dM_fromLong_23 rfl (lv_at hl 1 rfl) ?_
    refine lv_lconst (v := 0) hx hb dM_fromLong_24 (by decide) ?_
    refine W.lcmp hx hb dM_fromLong_25 ?_
    refine lv_if_ge hx hb dM_fromLong_26 rfl (fun h2 => ?_) (fun h2 => ?_)
    · rw [if_pos h2] at hf
      refine lv_lload_n hx hb dM_fromLong_34 rfl (lv_at hl 1 rfl) ?_
      exact B35 ls _ _ v (0 : Int32) sq lf hf (lv_sub hl [0, 1] rfl) hP hD hS
    · rw [if_neg h2] at hf
      refine lv_lload_n hx hb dM_fromLong_29 rfl (lv_at hl 1 rfl) ?_
      refine lv_lneg hx hb dM_fromLong_30 ?_
      refine lv_goto hx hb dM_fromLong_31 rfl ?_
      exact B35 ls _ _ (-v) (0 : Int32) sq lf hf (lv_sub hl [0, 1] rfl) hP hD hS
  unfold m_fromLong at hf
  refine lv_lload_n hx hb dM_fromLong_0 rfl (lv_at hl 1 rfl) ?_
  refine lv_lconst (v := 0) hx hb dM_fromLong_1 (by decide) ?_
  refine W.lcmp hx hb dM_fromLong_2 ?_
  refine lv_if_ge hx hb dM_fromLong_3 rfl (fun h1 => ?_) (fun h1 => ?_)
  · rw [if_pos h1] at hf
    exact B21 ls _ _ sq lf hf (lv_sub hl [0, 1] rfl) hP hD hS
  · rw [if_neg h1] at hf
    refine lv_lload_n hx hb dM_fromLong_6 rfl (lv_at hl 1 rfl) ?_
    refine lv_lload_n hx hb dM_fromLong_7 rfl (lv_at hl 1 rfl) ?_
    refine lv_lneg hx hb dM_fromLong_8 ?_
    refine W.lcmp hx hb dM_fromLong_9 ?_
    refine lv_if_ne hx hb dM_fromLong_10 rfl (fun h10 => ?_) (fun h10 => ?_)
    · rw [if_pos h10] at hf
      exact B21 ls _ _ sq lf hf (lv_sub hl [0, 1] rfl) hP hD hS
    · rw [if_neg (fun q : ¬ (lg_cmp v (-v)) = 0 => q h10)] at hf
      refine lv_aload_n hx hb dM_fromLong_13 rfl (lv_at hl 0 rfl) ?_
      refine va_get (D := (dC, dI)) (ci := 3) (v := .int nz) (C := RM) (T := TM) (N := 4) hx hb hww tqinM hown hK hP 0 rfl rfl 0 (by decide) (hww _ tqt_330) (fun _ h9 => h9) rfl dM_fromLong_14 ?_
      have hPc := hP.sub (ws' := []) [] rfl
      have hDc := hD.sub (ws' := []) [] (by decide) rfl
      have hKc := hK.sub (tys' := []) [] rfl
      have hFc := va_free (wc := []) hD hS hA [] rfl
      refine va_calli (va_runS (As := [.int nz]) (rest := []) ⟨hx, hb, hml, hown, hww⟩ (c_m_not l dC dI s.heap.size nz (m_not nz) rfl) (va_cwS 1 hww (tq_gS tqt_364 tqt_365 tqt_35 tqt_366) rfl rfl rfl (by decide +kernel) ⟨Nat.le_of_ble_eq_true rfl, Nat.le_of_ble_eq_true rfl⟩) ⟨fun a U g mk q => by obtain ⟨q0, q1, qP, qK, qD, qN⟩ := q; exact ⟨q0, q1, qP, va_K.moved (u := U) (U := U.calling g mk a) (Vm.Alike.refl U.vm) qK, qD, tqN_same (u := U) (U := U.calling g mk a) rfl qN⟩, fun U hU hW => ⟨rfl, by rw [hU], by rw [hU]; exact hPc, va_K.moved hW.alike hKc, hDc.weaken (fun _ _ _ _ => trivial), tqN_warm hW hN⟩⟩ rfl rfl hl.1 rfl (lv_room (Nat.le_of_ble_eq_true rfl)) dM_fromLong_17 ⟨Nat.zero_le _, Nat.zero_le _⟩) hS (fun q _ h => hFc q h) hFc (fun ra u0 t H1 locs ht hvm hpost hB hz1 hk1 hS => ?_)
      have hpost : (m_not nz) = ra := (show ra = (m_not nz) from hpost).symm
      subst hpost
      obtain ⟨hP1, hK1, hD1⟩ := hB
      rw [ht] at hP1
      obtain ⟨hP, hD⟩ := va_join (wr := [(mo, .inr (3, [.int nz, .ref la, .int sq, .ref sa])), (la, .inl (cI, 200, .inl lf))]) (w1 := []) hP hD [] [0, 1] rfl rfl (by decide) (by decide) hk1 hFc hP1 hD1
      generalize H1 = H at hP hS ⊢
      have hP := hP.sub (ws' := [(mo, .inr (3, [.int nz, .ref la, .int sq, .ref sa])), (la, .inl (cI, 200, .inl lf))]) [0, 1] rfl
      have hD := hD.sub (ws' := [(mo, .inr (3, [.int nz, .ref la, .int sq, .ref sa])), (la, .inl (cI, 200, .inl lf))]) [0, 1] (by decide) rfl
      have hf := Option.some.inj hf
      subst hf
      exact W.iret (v := m_not nz) hx hb hr (fun t ht hW => ⟨⟨m_not nz, (), rfl, rfl, by rw [ht]; exact hP, va_K.moved hW.alike hK, hD⟩, hS.F ht⟩) hS.2.2 dM_fromLong_20
set_option maxHeartbeats 4000000 in
set_option maxRecDepth 100000 in
theorem c_m_toLong (l : Launch) (dC : Nat → ClassId) (dI : Nat → Nat → Nat) (mo : Nat) (la : Nat) (sa : Nat) (cI : ClassId) (sz : Nat) (x : Int32) (nz : Int32) (sq : Int32) (lf : Nat → Int32) (r : Int64 × (Nat → Int32)) (hf : m_toLong nz lf x = some r) : Met l yM_toLong tqw_M_toLong ({ frames := 5, cells := 0, slots := 0, locals := 128 }) (va_Pc [.ref mo, .int x] (fun U => U.heap.size = sz ∧ va_P (dC, dI) tqCl [(mo, .inr (3, [.int nz, .ref la, .int sq, .ref sa])), (la, .inl (cI, 200, .inl lf))] U.heap ∧ va_K (dC, dI) tqCl [(cI, .int)] U ∧ va_D (fun _ => True) [(mo, .inr (3, [.int nz, .ref la, .int sq, .ref sa])), (la, .inl (cI, 200, .inl lf))] ∧ tqN U)) (va_Ql (fun (a : Int64) (_ : Unit) => a = r.1) (fun (_ : Unit) (t : State) => va_P (dC, dI) tqCl [(mo, .inr (3, [.int nz, .ref la, .int sq, .ref sa])), (la, .inl (cI, 200, .inl r.2))] t.heap ∧ va_K (dC, dI) tqCl [(cI, .int)] t ∧ va_D (va_A [(mo, .inr (3, [.int nz, .ref la, .int sq, .ref sa])), (la, .inl (cI, 200, .inl lf))] sz) [(mo, .inr (3, [.int nz, .ref la, .int sq, .ref sa])), (la, .inl (cI, 200, .inl r.2))]) (va_A [(mo, .inr (3, [.int nz, .ref la, .int sq, .ref sa])), (la, .inl (cI, 200, .inl lf))] sz)) 0 0 (va_A [(mo, .inr (3, [.int nz, .ref la, .int sq, .ref sa])), (la, .inl (cI, 200, .inl lf))] sz) := by
  refine Met.ofW (cc := cM_toLong) (maxL := 8) (ret := (some .long)) (by decide) rfl ?_
  intro p e s m args below meth c s₁ B hml hv
  obtain ⟨rfl, hsz, hP, hK, hD0, hN⟩ := hv
  have hx := B.exec
  have hb := B.bytes
  have hr := B.returns
  have hts := atoms_spec (ws := tqw_M_toLong) B.pre
  have hww : ∀ w ∈ tqW, w.before _ s = true := fun w h => hts w (List.mem_cons_of_mem _ h)
  have hown : s.vm.findClass RM = some m.cls := findClass_of_methodNamed B.named
  have hlocks := B.notSynchronized
  subst hsz
  have hD := hD0.self (sz := s.heap.size)
  generalize hAe : va_A [(mo, .inr (3, [.int nz, .ref la, .int sq, .ref sa])), (la, .inl (cI, 200, .inl lf))] s.heap.size = A at hD ⊢
  have hA : ∀ q : Nat, s.heap.size ≤ q → A q := fun q h => by rw [← hAe]; exact Or.inr h
  have hS : va_S A s.heap s.heap [] := va_S.rf
  have hP : va_P (dC, dI) tqCl [(mo, .inr (3, [.int nz, .ref la, .int sq, .ref sa])), (la, .inl (cI, 200, .inl lf))] s.heap := hP
  have hl := lv_entry ([.ref mo, .int x]) (n := 8) (Nat.le_of_ble_eq_true rfl)
  rw [lg_entry_eq]
  generalize (lg_sl ([.ref mo, .int x]) ++ List.replicate (8 - (lg_sl ([.ref mo, .int x])).length) Slot.unset).toArray = ls at hl ⊢
  have hl : lv_has ls 8 [(0, .ref mo), (1, .int x)] := hl
  have B43 : ∀ (n43 : Nat) (ls : Array Slot) (H : Heap) (locs : List Loc) (v2 : Int64) (v4 : Int64) (v6 : Int32) (v7 : Int32) (lf : Nat → Int32), m_toLong_b43 nz x n43 v2 v4 v6 v7 lf = some r → lv_has ls 8 [(0, .ref mo), (1, .int x), (2, .long v2), (4, .long v4), (6, .int v6), (7, .int v7)] → va_P (dC, dI) tqCl [(mo, .inr (3, [.int nz, .ref la, .int sq, .ref sa])), (la, .inl (cI, 200, .inl lf))] H → va_D A [(mo, .inr (3, [.int nz, .ref la, .int sq, .ref sa])), (la, .inl (cI, 200, .inl lf))] → va_S A s.heap H locs → W p l e ({ frames := 5, cells := 0, slots := 0, locals := 128 }) s m ([.ref mo, .int x] : List Value).toArray below meth c H locs 0 0 (MQ below (va_Ql (fun (a : Int64) (_ : Unit) => a = r.1) (fun (_ : Unit) (t : State) => va_P (dC, dI) tqCl [(mo, .inr (3, [.int nz, .ref la, .int sq, .ref sa])), (la, .inl (cI, 200, .inl r.2))] t.heap ∧ va_K (dC, dI) tqCl [(cI, .int)] t ∧ va_D (A) [(mo, .inr (3, [.int nz, .ref la, .int sq, .ref sa])), (la, .inl (cI, 200, .inl r.2))]) (A)) ([.ref mo, .int x] : List Value).toArray s 0 0 A) (F0 m 43 ls []) := by
    try clear hf
    intro n43
    induction n43 with
    | zero =>
      intro ls H locs v2 v4 v6 v7 lf hf hl hP hD hS
      have hf : (none : Option (Int64 × (Nat → Int32))) = some r := hf
      cases hf
    | succ n43 ih43 =>
      have B105 : ∀ (ls : Array Slot) (H : Heap) (locs : List Loc) (v2 : Int64) (v6 : Int32) (v7 : Int32) (t0 : Int64) (lf : Nat → Int32), m_toLong_b105 (m_toLong_b43 nz x n43) v2 v6 v7 t0 lf = some r → lv_has ls 8 [(0, .ref mo), (1, .int x), (2, .long v2), (6, .int v6), (7, .int v7)] → va_P (dC, dI) tqCl [(mo, .inr (3, [.int nz, .ref la, .int sq, .ref sa])), (la, .inl (cI, 200, .inl lf))] H → va_D A [(mo, .inr (3, [.int nz, .ref la, .int sq, .ref sa])), (la, .inl (cI, 200, .inl lf))] → va_S A s.heap H locs → W p l e ({ frames := 5, cells := 0, slots := 0, locals := 128 }) s m ([.ref mo, .int x] : List Value).toArray below meth c H locs 0 0 (MQ below (va_Ql (fun (a : Int64) (_ : Unit) => a = r.1) (fun (_ : Unit) (t : State) => va_P (dC, dI) tqCl [(mo, .inr (3, [.int nz, .ref la, .int sq, .ref sa])), (la, .inl (cI, 200, .inl r.2))] t.heap ∧ va_K (dC, dI) tqCl [(cI, .int)] t ∧ va_D (A) [(mo, .inr (3, [.int nz, .ref la, .int sq, .ref sa])), (la, .inl (cI, 200, .inl r.2))]) (A)) ([.ref mo, .int x] : List Value).toArray s 0 0 A) (F0 m 105 ls [.long t0]) := by
        try clear hf
        intro ls H locs v2 v6 v7 t0 lf hf hl hP hD hS
        unfold m_toLong_b105 at hf
        refine lv_lstore (lv' := [(4, .long t0), (0, .ref mo), (1, .int x), (2, .long v2), (6, .int v6), (7, .int v7)]) hx hb dM_toLong_105 hl (by decide) rfl (fun ls hl => ?_)
        refine lv_iinc (v := v7 + (-1 : Int32)) (lv' := [(7, .int (v7 + (-1 : Int32))), (4, .long t0), (0, .ref mo), (1, .int x), (2, .long v2), (6, .int v6)]) hx hb dM_toLong_107 hl (k := 5) rfl rfl (by decide) rfl (fun ls hl => ?_)
        refine lv_goto hx hb dM_toLong_110 rfl ?_
        exact ih43 ls _ _ v2 t0 v6 (v7 + (-1 : Int32)) lf hf (lv_sub hl [2, 3, 4, 1, 5, 0] rfl) hP hD hS
      have B76 : ∀ (ls : Array Slot) (H : Heap) (locs : List Loc) (v2 : Int64) (v4 : Int64) (v7 : Int32) (t0 : Int32) (lf : Nat → Int32), m_toLong_b76 (m_toLong_b43 nz x n43) v2 v4 v7 t0 lf = some r → lv_has ls 8 [(0, .ref mo), (1, .int x), (2, .long v2), (4, .long v4), (7, .int v7)] → va_P (dC, dI) tqCl [(mo, .inr (3, [.int nz, .ref la, .int sq, .ref sa])), (la, .inl (cI, 200, .inl lf))] H → va_D A [(mo, .inr (3, [.int nz, .ref la, .int sq, .ref sa])), (la, .inl (cI, 200, .inl lf))] → va_S A s.heap H locs → W p l e ({ frames := 5, cells := 0, slots := 0, locals := 128 }) s m ([.ref mo, .int x] : List Value).toArray below meth c H locs 0 0 (MQ below (va_Ql (fun (a : Int64) (_ : Unit) => a = r.1) (fun (_ : Unit) (t : State) => va_P (dC, dI) tqCl [(mo, .inr (3, [.int nz, .ref la, .int sq, .ref sa])), (la, .inl (cI, 200, .inl r.2))] t.heap ∧ va_K (dC, dI) tqCl [(cI, .int)] t ∧ va_D (A) [(mo, .inr (3, [.int nz, .ref la, .int sq, .ref sa])), (la, .inl (cI, 200, .inl r.2))]) (A)) ([.ref mo, .int x] : List Value).toArray s 0 0 A) (F0 m 76 ls [.int t0]) := by
        try clear hf
        intro ls H locs v2 v4 v7 t0 lf hf hl hP hD hS
        unfold m_toLong_b76 at hf
        refine lv_istore (lv' := [(6, .int t0), (0, .ref mo), (1, .int x), (2, .long v2), (4, .long v4), (7, .int v7)]) hx hb dM_toLong_76 hl (by decide) rfl (fun ls hl => ?_)
        refine lv_iload hx hb dM_toLong_78 (lv_at hl 5 rfl) ?_
        refine lv_iconst (v := 4) hx hb dM_toLong_80 (by decide) ?_
        refine lv_icmp_ge hx hb dM_toLong_81 rfl (fun h11 => ?_) (fun h11 => ?_)
        · rw [if_pos h11] at hf
          refine lv_lload hx hb dM_toLong_103 (lv_at hl 4 rfl) ?_
          exact B105 ls _ _ v2 t0 v7 v4 lf hf (lv_sub hl [1, 2, 3, 0, 5] rfl) hP hD hS
        · rw [if_neg h11] at hf
          refine lv_lload hx hb dM_toLong_84 (lv_at hl 4 rfl) ?_
          refine lv_bipush (v := 16) hx hb dM_toLong_86 (by decide) ?_
          refine lv_lshl hx hb dM_toLong_88 rfl ?_
          refine lv_aload_n hx hb dM_toLong_89 rfl (lv_at hl 1 rfl) ?_
          refine va_get (D := (dC, dI)) (ci := 3) (v := .ref la) (C := RM) (T := TM) (N := 4) hx hb hww tqinM hown hK hP 0 rfl rfl 1 (by decide) (hww _ tqt_331) (fun _ h9 => h9) rfl dM_toLong_90 ?_
          refine lv_iconst (v := 0) hx hb dM_toLong_93 (by decide) ?_
          refine lv_iload hx hb dM_toLong_94 (lv_at hl 5 rfl) ?_
          refine lv_iadd hx hb dM_toLong_96 ?_
          by_cases h12 : (((0 : Int32) + v7) < 0 ∨ 200 ≤ ((0 : Int32) + v7).toNatClampNeg)
          · rw [if_pos h12] at hf
            cases hf
          · rw [if_neg h12] at hf
            refine va_iald hx hb hK hP 1 0 rfl rfl h12 dM_toLong_97 ?_
            refine lv_i2l hx hb dM_toLong_98 rfl ?_
            refine lv_lor hx hb dM_toLong_99 ?_
            refine lv_goto hx hb dM_toLong_100 rfl ?_
            exact B105 ls _ _ v2 t0 v7 ((v4 <<< ((16 : Int32).toInt64 &&& 63)) ||| ((lf ((0 : Int32) + v7).toNatClampNeg).toInt64)) lf hf (lv_sub hl [1, 2, 3, 0, 5] rfl) hP hD hS
      intro ls H locs v2 v4 v6 v7 lf hf hl hP hD hS
      unfold m_toLong_b43 at hf
      refine lv_iload hx hb dM_toLong_43 (lv_at hl 5 rfl) ?_
      refine lv_if_lt hx hb dM_toLong_45 rfl (fun h6 => ?_) (fun h6 => ?_)
      · rw [if_pos h6] at hf
        refine lv_iload hx hb dM_toLong_113 (lv_at hl 4 rfl) ?_
        refine lv_if_ne hx hb dM_toLong_115 rfl (fun h7 => ?_) (fun h7 => ?_)
        · rw [if_pos h7] at hf
          refine lv_aload_n hx hb dM_toLong_122 rfl (lv_at hl 0 rfl) ?_
          refine lv_iload_n hx hb dM_toLong_123 rfl (lv_at hl 1 rfl) ?_
          have hPc := hP.sub (ws' := [(mo, .inr (3, [.int nz, .ref la, .int sq, .ref sa]))]) [0] rfl
          have hDc := hD.sub (ws' := [(mo, .inr (3, [.int nz, .ref la, .int sq, .ref sa]))]) [0] (by decide) rfl
          have hKc := hK.sub (tys' := []) [] rfl
          have hFc := va_free (wc := [(mo, .inr (3, [.int nz, .ref la, .int sq, .ref sa]))]) hD hS hA [0] rfl
          refine va_calli (va_runV (As := [.int x]) (rest := []) ⟨hx, hb, hml, hown, hww⟩ (c_m_negative l dC dI mo la sa H.size x nz sq (m_negative nz x) rfl) (cwV 1 hww (tq_gV tqt_393 tqt_395 tqt_14 tqt_35 tqt_396) rfl rfl rfl (by decide +kernel) ⟨Nat.le_of_ble_eq_true rfl, Nat.le_of_ble_eq_true rfl⟩) ⟨fun a U g mk q => by obtain ⟨q0, q1, qP, qK, qD, qN⟩ := q; exact ⟨q0, q1, qP, va_K.moved (u := U) (U := U.calling g mk a) (Vm.Alike.refl U.vm) qK, qD, tqN_same (u := U) (U := U.calling g mk a) rfl qN⟩, va_recv hK hP (ci := 3) rfl (q0 := 0) rfl, fun U hU hW => ⟨rfl, by rw [hU], by rw [hU]; exact hPc, va_K.moved hW.alike hKc, hDc.weaken (fun _ _ _ _ => trivial), tqN_warm hW hN⟩⟩ rfl rfl hl.1 rfl (lv_room (Nat.le_of_ble_eq_true rfl)) dM_toLong_124 ⟨Nat.zero_le _, Nat.zero_le _⟩) hS (fun q _ h => hFc q h) hFc (fun ra u0 t H1 locs ht hvm hpost hB hz1 hk1 hS => ?_)
          have hpost : (m_negative nz x) = ra := (show ra = (m_negative nz x) from hpost).symm
          subst hpost
          obtain ⟨hP1, hK1, hD1⟩ := hB
          rw [ht] at hP1
          obtain ⟨hP, hD⟩ := va_join (wr := [(la, .inl (cI, 200, .inl lf))]) (w1 := [(mo, .inr (3, [.int nz, .ref la, .int sq, .ref sa]))]) hP hD [0] [1] rfl rfl (by decide) (by decide) hk1 hFc hP1 hD1
          generalize H1 = H at hP hS ⊢
          have hP := hP.sub (ws' := [(mo, .inr (3, [.int nz, .ref la, .int sq, .ref sa])), (la, .inl (cI, 200, .inl lf))]) [1, 0] rfl
          have hD := hD.sub (ws' := [(mo, .inr (3, [.int nz, .ref la, .int sq, .ref sa])), (la, .inl (cI, 200, .inl lf))]) [1, 0] (by decide) rfl
          refine lv_if_eq hx hb dM_toLong_127 rfl (fun h9 => ?_) (fun h9 => ?_)
          · rw [if_pos h9] at hf
            refine lv_lload hx hb dM_toLong_136 (lv_at hl 3 rfl) ?_
            have hf := Option.some.inj hf
            subst hf
            exact W.lret (v := v4) hx hb hr (fun t ht hW => ⟨⟨v4, (), rfl, rfl, by rw [ht]; exact hP, va_K.moved hW.alike hK, hD⟩, hS.F ht⟩) hS.2.2 dM_toLong_138
          · rw [if_neg h9] at hf
            refine lv_lload hx hb dM_toLong_130 (lv_at hl 3 rfl) ?_
            refine lv_lneg hx hb dM_toLong_132 ?_
            refine lv_goto hx hb dM_toLong_133 rfl ?_
            have hf := Option.some.inj hf
            subst hf
            exact W.lret (v := -v4) hx hb hr (fun t ht hW => ⟨⟨-v4, (), rfl, rfl, by rw [ht]; exact hP, va_K.moved hW.alike hK, hD⟩, hS.F ht⟩) hS.2.2 dM_toLong_138
        · rw [if_neg (fun q : ¬ v6 = 0 => q h7)] at hf
          refine lv_lload_n hx hb dM_toLong_118 rfl (lv_at hl 2 rfl) ?_
          refine lv_goto hx hb dM_toLong_119 rfl ?_
          have hf := Option.some.inj hf
          subst hf
          exact W.lret (v := v2) hx hb hr (fun t ht hW => ⟨⟨v2, (), rfl, rfl, by rw [ht]; exact hP, va_K.moved hW.alike hK, hD⟩, hS.F ht⟩) hS.2.2 dM_toLong_138
      · rw [if_neg h6] at hf
        refine lv_iload hx hb dM_toLong_48 (lv_at hl 4 rfl) ?_
        refine lv_if_eq hx hb dM_toLong_50 rfl (fun h10 => ?_) (fun h10 => ?_)
        · rw [if_pos h10] at hf
          refine lv_iconst (v := 0) hx hb dM_toLong_75 (by decide) ?_
          exact B76 ls _ _ v2 v4 v7 (0 : Int32) lf hf (lv_sub hl [0, 1, 2, 3, 5] rfl) hP hD hS
        · rw [if_neg h10] at hf
          refine lv_iload hx hb dM_toLong_53 (lv_at hl 5 rfl) ?_
          refine lv_iconst (v := 4) hx hb dM_toLong_55 (by decide) ?_
          refine lv_icmp_lt hx hb dM_toLong_56 rfl (fun h13 => ?_) (fun h13 => ?_)
          · rw [if_pos h13] at hf
            refine lv_iconst (v := 1) hx hb dM_toLong_71 (by decide) ?_
            refine lv_goto hx hb dM_toLong_72 rfl ?_
            exact B76 ls _ _ v2 v4 v7 (1 : Int32) lf hf (lv_sub hl [0, 1, 2, 3, 5] rfl) hP hD hS
          · rw [if_neg h13] at hf
            refine lv_aload_n hx hb dM_toLong_59 rfl (lv_at hl 0 rfl) ?_
            refine va_get (D := (dC, dI)) (ci := 3) (v := .ref la) (C := RM) (T := TM) (N := 4) hx hb hww tqinM hown hK hP 0 rfl rfl 1 (by decide) (hww _ tqt_331) (fun _ h9 => h9) rfl dM_toLong_60 ?_
            refine lv_iconst (v := 0) hx hb dM_toLong_63 (by decide) ?_
            refine lv_iload hx hb dM_toLong_64 (lv_at hl 5 rfl) ?_
            refine lv_iadd hx hb dM_toLong_66 ?_
            by_cases h14 : (((0 : Int32) + v7) < 0 ∨ 200 ≤ ((0 : Int32) + v7).toNatClampNeg)
            · rw [if_pos h14] at hf
              cases hf
            · rw [if_neg h14] at hf
              refine va_iald hx hb hK hP 1 0 rfl rfl h14 dM_toLong_67 ?_
              refine lv_if_ne hx hb dM_toLong_68 rfl (fun h15 => ?_) (fun h15 => ?_)
              · rw [if_pos h15] at hf
                refine lv_iconst (v := 0) hx hb dM_toLong_75 (by decide) ?_
                exact B76 ls _ _ v2 v4 v7 (0 : Int32) lf hf (lv_sub hl [0, 1, 2, 3, 5] rfl) hP hD hS
              · rw [if_neg (fun q : ¬ (lf ((0 : Int32) + v7).toNatClampNeg) = 0 => q h15)] at hf
                refine lv_iconst (v := 1) hx hb dM_toLong_71 (by decide) ?_
                refine lv_goto hx hb dM_toLong_72 rfl ?_
                exact B76 ls _ _ v2 v4 v7 (1 : Int32) lf hf (lv_sub hl [0, 1, 2, 3, 5] rfl) hP hD hS
  have B37 : ∀ (ls : Array Slot) (H : Heap) (locs : List Loc) (v2 : Int64) (v4 : Int64) (t0 : Int32) (lf : Nat → Int32), m_toLong_b37 nz x v2 v4 t0 lf = some r → lv_has ls 8 [(0, .ref mo), (1, .int x), (2, .long v2), (4, .long v4)] → va_P (dC, dI) tqCl [(mo, .inr (3, [.int nz, .ref la, .int sq, .ref sa])), (la, .inl (cI, 200, .inl lf))] H → va_D A [(mo, .inr (3, [.int nz, .ref la, .int sq, .ref sa])), (la, .inl (cI, 200, .inl lf))] → va_S A s.heap H locs → W p l e ({ frames := 5, cells := 0, slots := 0, locals := 128 }) s m ([.ref mo, .int x] : List Value).toArray below meth c H locs 0 0 (MQ below (va_Ql (fun (a : Int64) (_ : Unit) => a = r.1) (fun (_ : Unit) (t : State) => va_P (dC, dI) tqCl [(mo, .inr (3, [.int nz, .ref la, .int sq, .ref sa])), (la, .inl (cI, 200, .inl r.2))] t.heap ∧ va_K (dC, dI) tqCl [(cI, .int)] t ∧ va_D (A) [(mo, .inr (3, [.int nz, .ref la, .int sq, .ref sa])), (la, .inl (cI, 200, .inl r.2))]) (A)) ([.ref mo, .int x] : List Value).toArray s 0 0 A) (F0 m 37 ls [.int t0]) := by
    try clear hf
    intro ls H locs v2 v4 t0 lf hf hl hP hD hS
    unfold m_toLong_b37 at hf
    refine lv_istore (lv' := [(6, .int t0), (0, .ref mo), (1, .int x), (2, .long v2), (4, .long v4)]) hx hb dM_toLong_37 hl (by decide) rfl (fun ls hl => ?_)
    refine lv_bipush (v := 39) hx hb dM_toLong_39 (by decide) ?_
    refine lv_istore (lv' := [(7, .int (39 : Int32)), (6, .int t0), (0, .ref mo), (1, .int x), (2, .long v2), (4, .long v4)]) hx hb dM_toLong_41 hl (by decide) rfl (fun ls hl => ?_)
    exact B43 41 ls _ _ v2 v4 t0 (39 : Int32) lf hf (lv_sub hl [2, 3, 4, 5, 1, 0] rfl) hP hD hS
  unfold m_toLong at hf
  refine lv_ldc2 (v := -9223372036854775808) hx hb hown (hww _ tqt_479) dM_toLong_0 ?_
  refine lv_lstore_n (lv' := [(2, .long (-9223372036854775808 : Int64)), (0, .ref mo), (1, .int x)]) hx hb dM_toLong_3 rfl hl (by decide) rfl (fun ls hl => ?_)
  refine lv_aload_n hx hb dM_toLong_4 rfl (lv_at hl 1 rfl) ?_
  refine lv_iload_n hx hb dM_toLong_5 rfl (lv_at hl 2 rfl) ?_
  have hPc := hP.sub (ws' := [(mo, .inr (3, [.int nz, .ref la, .int sq, .ref sa]))]) [0] rfl
  have hDc := hD.sub (ws' := [(mo, .inr (3, [.int nz, .ref la, .int sq, .ref sa]))]) [0] (by decide) rfl
  have hKc := hK.sub (tys' := []) [] rfl
  have hFc := va_free (wc := [(mo, .inr (3, [.int nz, .ref la, .int sq, .ref sa]))]) hD hS hA [0] rfl
  refine va_calli (va_runV (As := [.int x]) (rest := []) ⟨hx, hb, hml, hown, hww⟩ (c_m_isNot l dC dI mo la sa s.heap.size x nz sq (m_isNot nz x) rfl) (cwV 1 hww (tq_gV tqt_356 tqt_358 tqt_6 tqt_35 tqt_359) rfl rfl rfl (by decide +kernel) ⟨Nat.le_of_ble_eq_true rfl, Nat.le_of_ble_eq_true rfl⟩) ⟨fun a U g mk q => by obtain ⟨q0, q1, qP, qK, qD, qN⟩ := q; exact ⟨q0, q1, qP, va_K.moved (u := U) (U := U.calling g mk a) (Vm.Alike.refl U.vm) qK, qD, tqN_same (u := U) (U := U.calling g mk a) rfl qN⟩, va_recv hK hP (ci := 3) rfl (q0 := 0) rfl, fun U hU hW => ⟨rfl, by rw [hU], by rw [hU]; exact hPc, va_K.moved hW.alike hKc, hDc.weaken (fun _ _ _ _ => trivial), tqN_warm hW hN⟩⟩ rfl rfl hl.1 rfl (lv_room (Nat.le_of_ble_eq_true rfl)) dM_toLong_6 ⟨Nat.zero_le _, Nat.zero_le _⟩) hS (fun q _ h => hFc q h) hFc (fun ra u0 t H1 locs ht hvm hpost hB hz1 hk1 hS => ?_)
  have hpost : (m_isNot nz x) = ra := (show ra = (m_isNot nz x) from hpost).symm
  subst hpost
  obtain ⟨hP1, hK1, hD1⟩ := hB
  rw [ht] at hP1
  obtain ⟨hP, hD⟩ := va_join (wr := [(la, .inl (cI, 200, .inl lf))]) (w1 := [(mo, .inr (3, [.int nz, .ref la, .int sq, .ref sa]))]) hP hD [0] [1] rfl rfl (by decide) (by decide) hk1 hFc hP1 hD1
  generalize H1 = H at hP hS ⊢
  have hP := hP.sub (ws' := [(mo, .inr (3, [.int nz, .ref la, .int sq, .ref sa])), (la, .inl (cI, 200, .inl lf))]) [1, 0] rfl
  have hD := hD.sub (ws' := [(mo, .inr (3, [.int nz, .ref la, .int sq, .ref sa])), (la, .inl (cI, 200, .inl lf))]) [1, 0] (by decide) rfl
  refine lv_if_eq hx hb dM_toLong_9 rfl (fun h2 => ?_) (fun h2 => ?_)
  · rw [if_pos h2] at hf
    refine lv_aload_n hx hb dM_toLong_14 rfl (lv_at hl 1 rfl) ?_
    refine lv_iload_n hx hb dM_toLong_15 rfl (lv_at hl 2 rfl) ?_
    obtain ⟨lf3, hu, hf⟩ := tq_bd_some hf
    have hPc := hP.sub (ws' := [(mo, .inr (3, [.int nz, .ref la, .int sq, .ref sa])), (la, .inl (cI, 200, .inl lf))]) [0, 1] rfl
    have hDc := hD.sub (ws' := [(mo, .inr (3, [.int nz, .ref la, .int sq, .ref sa])), (la, .inl (cI, 200, .inl lf))]) [0, 1] (by decide) rfl
    have hKc := hK.sub (tys' := [(cI, .int)]) [0] rfl
    have hFc := va_free (wc := [(mo, .inr (3, [.int nz, .ref la, .int sq, .ref sa])), (la, .inl (cI, 200, .inl lf))]) hD hS hA [0, 1] rfl
    refine va_callv (va_runV (As := [.int x]) (rest := []) ⟨hx, hb, hml, hown, hww⟩ (c_m_nearest l dC dI mo la sa cI H.size x nz sq lf lf3 hu) (cwV 1 hww (tq_gV tqt_459 tqt_461 tqt_24 tqt_35 tqt_462) rfl rfl rfl (by decide +kernel) ⟨Nat.le_of_ble_eq_true rfl, Nat.le_of_ble_eq_true rfl⟩) ⟨fun a U g mk q => by obtain ⟨q0, q1, qP, qK, qD, qN⟩ := q; exact ⟨q0, q1, qP, va_K.moved (u := U) (U := U.calling g mk a) (Vm.Alike.refl U.vm) qK, qD, tqN_same (u := U) (U := U.calling g mk a) rfl qN⟩, va_recv hK hP (ci := 3) rfl (q0 := 0) rfl, fun U hU hW => ⟨rfl, by rw [hU], by rw [hU]; exact hPc, va_K.moved hW.alike hKc, hDc.weaken (fun _ _ _ _ => trivial), tqN_warm hW hN⟩⟩ rfl rfl hl.1 rfl (lv_room (Nat.le_of_ble_eq_true rfl)) dM_toLong_16 ⟨Nat.zero_le _, Nat.zero_le _⟩) hS (fun q _ h => hFc q h) hFc (fun u0 t H1 locs ht hvm hpost hB hz1 hk1 hS => ?_)
    obtain ⟨hP1, hK1, hD1⟩ := hB
    rw [ht] at hP1
    obtain ⟨hP, hD⟩ := va_join (wr := []) (w1 := [(mo, .inr (3, [.int nz, .ref la, .int sq, .ref sa])), (la, .inl (cI, 200, .inl lf3))]) hP hD [0, 1] [] rfl rfl (by decide) (by decide) hk1 hFc hP1 hD1
    generalize H1 = H at hP hS ⊢
    have hP := hP.sub (ws' := [(mo, .inr (3, [.int nz, .ref la, .int sq, .ref sa])), (la, .inl (cI, 200, .inl lf3))]) [0, 1] rfl
    have hD := hD.sub (ws' := [(mo, .inr (3, [.int nz, .ref la, .int sq, .ref sa])), (la, .inl (cI, 200, .inl lf3))]) [0, 1] (by decide) rfl
    refine lv_lconst (v := 0) hx hb dM_toLong_19 (by decide) ?_
    refine lv_lstore (lv' := [(4, .long (0 : Int64)), (2, .long (-9223372036854775808 : Int64)), (0, .ref mo), (1, .int x)]) hx hb dM_toLong_20 hl (by decide) rfl (fun ls hl => ?_)
    refine lv_aload_n hx hb dM_toLong_22 rfl (lv_at hl 2 rfl) ?_
    refine lv_iconst (v := 0) hx hb dM_toLong_23 (by decide) ?_
    refine lv_bipush (v := 63) hx hb dM_toLong_24 (by decide) ?_
    obtain ⟨r4, hu, hf⟩ := tq_bd_some hf
    have hPc := hP.sub (ws' := [(mo, .inr (3, [.int nz, .ref la, .int sq, .ref sa])), (la, .inl (cI, 200, .inl lf3))]) [0, 1] rfl
    have hDc := hD.sub (ws' := [(mo, .inr (3, [.int nz, .ref la, .int sq, .ref sa])), (la, .inl (cI, 200, .inl lf3))]) [0, 1] (by decide) rfl
    have hKc := hK.sub (tys' := [(cI, .int)]) [0] rfl
    have hFc := va_free (wc := [(mo, .inr (3, [.int nz, .ref la, .int sq, .ref sa])), (la, .inl (cI, 200, .inl lf3))]) hD hS hA [0, 1] rfl
    refine va_calli (va_runV (As := [.int (0 : Int32), .int (63 : Int32)]) (rest := []) ⟨hx, hb, hml, hown, hww⟩ (c_m_bit l dC dI mo la sa cI H.size (0 : Int32) (63 : Int32) nz sq lf3 r4 hu) (cwV 2 hww (tq_gV tqt_463 tqt_465 tqt_25 tqt_35 tqt_466) rfl rfl rfl (by decide +kernel) ⟨Nat.le_of_ble_eq_true rfl, Nat.le_of_ble_eq_true rfl⟩) ⟨fun a U g mk q => by obtain ⟨q0, q1, qP, qK, qD, qN⟩ := q; exact ⟨q0, q1, qP, va_K.moved (u := U) (U := U.calling g mk a) (Vm.Alike.refl U.vm) qK, qD, tqN_same (u := U) (U := U.calling g mk a) rfl qN⟩, va_recv hK hP (ci := 3) rfl (q0 := 0) rfl, fun U hU hW => ⟨rfl, by rw [hU], by rw [hU]; exact hPc, va_K.moved hW.alike hKc, hDc.weaken (fun _ _ _ _ => trivial), tqN_warm hW hN⟩⟩ rfl rfl hl.1 rfl (lv_room (Nat.le_of_ble_eq_true rfl)) dM_toLong_26 ⟨Nat.zero_le _, Nat.zero_le _⟩) hS (fun q _ h => hFc q h) hFc (fun ra u0 t H1 locs ht hvm hpost hB hz1 hk1 hS => ?_)
    have hpost : r4 = ra := (show ra = r4 from hpost).symm
    subst hpost
    obtain ⟨hP1, hK1, hD1⟩ := hB
    rw [ht] at hP1
    obtain ⟨hP, hD⟩ := va_join (wr := []) (w1 := [(mo, .inr (3, [.int nz, .ref la, .int sq, .ref sa])), (la, .inl (cI, 200, .inl lf3))]) hP hD [0, 1] [] rfl rfl (by decide) (by decide) hk1 hFc hP1 hD1
    generalize H1 = H at hP hS ⊢
    have hP := hP.sub (ws' := [(mo, .inr (3, [.int nz, .ref la, .int sq, .ref sa])), (la, .inl (cI, 200, .inl lf3))]) [0, 1] rfl
    have hD := hD.sub (ws' := [(mo, .inr (3, [.int nz, .ref la, .int sq, .ref sa])), (la, .inl (cI, 200, .inl lf3))]) [0, 1] (by decide) rfl
    refine lv_if_ne hx hb dM_toLong_29 rfl (fun h5 => ?_) (fun h5 => ?_)
    · rw [if_pos h5] at hf
      refine lv_iconst (v := 0) hx hb dM_toLong_36 (by decide) ?_
      exact B37 ls _ _ (-9223372036854775808 : Int64) (0 : Int64) (0 : Int32) lf3 hf (lv_sub hl [2, 3, 1, 0] rfl) hP hD hS
    · rw [if_neg (fun q : ¬ r4 = 0 => q h5)] at hf
      refine lv_iconst (v := 1) hx hb dM_toLong_32 (by decide) ?_
      refine lv_goto hx hb dM_toLong_33 rfl ?_
      exact B37 ls _ _ (-9223372036854775808 : Int64) (0 : Int64) (1 : Int32) lf3 hf (lv_sub hl [2, 3, 1, 0] rfl) hP hD hS
  · rw [if_neg h2] at hf
    refine lv_lload_n hx hb dM_toLong_12 rfl (lv_at hl 0 rfl) ?_
    have hf := Option.some.inj hf
    subst hf
    exact W.lret (v := (-9223372036854775808 : Int64)) hx hb hr (fun t ht hW => ⟨⟨(-9223372036854775808 : Int64), (), rfl, rfl, by rw [ht]; exact hP, va_K.moved hW.alike hK, hD⟩, hS.F ht⟩) hS.2.2 dM_toLong_13
set_option maxHeartbeats 4000000 in
set_option maxRecDepth 100000 in
theorem c_m_convert (l : Launch) (dC : Nat → ClassId) (dI : Nat → Nat → Nat) (mo : Nat) (la : Nat) (sa : Nat) (cI : ClassId) (sz : Nat) (x : Int32) (width : Int32) (nz : Int32) (sq : Int32) (lf : Nat → Int32) (r : Int32 × Int32 × (Nat → Int32)) (hf : m_convert nz sq lf x width = some r) : Met l yM_convert tqw_M_convert ({ frames := 5, cells := 0, slots := 0, locals := 132 }) (va_Pc [.ref mo, .int x, .int width] (fun U => U.heap.size = sz ∧ va_P (dC, dI) tqCl [(mo, .inr (3, [.int nz, .ref la, .int sq, .ref sa])), (la, .inl (cI, 200, .inl lf))] U.heap ∧ va_K (dC, dI) tqCl [(cI, .int)] U ∧ va_D (fun _ => True) [(mo, .inr (3, [.int nz, .ref la, .int sq, .ref sa])), (la, .inl (cI, 200, .inl lf))] ∧ tqN U)) (va_Qi (fun (a : Int32) (_ : Unit) => a = r.1) (fun (_ : Unit) (t : State) => va_P (dC, dI) tqCl [(mo, .inr (3, [.int nz, .ref la, .int r.2.1, .ref sa])), (la, .inl (cI, 200, .inl r.2.2))] t.heap ∧ va_K (dC, dI) tqCl [(cI, .int)] t ∧ va_D (va_A [(mo, .inr (3, [.int nz, .ref la, .int sq, .ref sa])), (la, .inl (cI, 200, .inl lf))] sz) [(mo, .inr (3, [.int nz, .ref la, .int r.2.1, .ref sa])), (la, .inl (cI, 200, .inl r.2.2))]) (va_A [(mo, .inr (3, [.int nz, .ref la, .int sq, .ref sa])), (la, .inl (cI, 200, .inl lf))] sz)) 0 0 (va_A [(mo, .inr (3, [.int nz, .ref la, .int sq, .ref sa])), (la, .inl (cI, 200, .inl lf))] sz) := by
  refine Met.ofW (cc := cM_convert) (maxL := 4) (ret := (some .int)) (by decide) rfl ?_
  intro p e s m args below meth c s₁ B hml hv
  obtain ⟨rfl, hsz, hP, hK, hD0, hN⟩ := hv
  have hx := B.exec
  have hb := B.bytes
  have hr := B.returns
  have hts := atoms_spec (ws := tqw_M_convert) B.pre
  have hww : ∀ w ∈ tqW, w.before _ s = true := fun w h => hts w (List.mem_cons_of_mem _ h)
  have hown : s.vm.findClass RM = some m.cls := findClass_of_methodNamed B.named
  have hlocks := B.notSynchronized
  subst hsz
  have hD := hD0.self (sz := s.heap.size)
  generalize hAe : va_A [(mo, .inr (3, [.int nz, .ref la, .int sq, .ref sa])), (la, .inl (cI, 200, .inl lf))] s.heap.size = A at hD ⊢
  have hA : ∀ q : Nat, s.heap.size ≤ q → A q := fun q h => by rw [← hAe]; exact Or.inr h
  have hS : va_S A s.heap s.heap [] := va_S.rf
  have hP : va_P (dC, dI) tqCl [(mo, .inr (3, [.int nz, .ref la, .int sq, .ref sa])), (la, .inl (cI, 200, .inl lf))] s.heap := hP
  have hl := lv_entry ([.ref mo, .int x, .int width]) (n := 4) (Nat.le_of_ble_eq_true rfl)
  rw [lg_entry_eq]
  generalize (lg_sl ([.ref mo, .int x, .int width]) ++ List.replicate (4 - (lg_sl ([.ref mo, .int x, .int width])).length) Slot.unset).toArray = ls at hl ⊢
  have hl : lv_has ls 4 [(0, .ref mo), (1, .int x), (2, .int width)] := hl
  unfold m_convert at hf
  refine lv_iload_n hx hb dM_convert_0 rfl (lv_at hl 2 rfl) ?_
  have hPc := hP.sub (ws' := []) [] rfl
  have hDc := hD.sub (ws' := []) [] (by decide) rfl
  have hKc := hK.sub (tys' := []) [] rfl
  have hFc := va_free (wc := []) hD hS hA [] rfl
  refine va_calli (va_runS (As := [.int width]) (rest := []) ⟨hx, hb, hml, hown, hww⟩ (c_m_sizeOf l dC dI s.heap.size width (m_sizeOf width) rfl) (va_cwS 1 hww (tq_gS tqt_327 tqt_328 tqt_35 tqt_329) rfl rfl rfl (by decide +kernel) ⟨Nat.le_of_ble_eq_true rfl, Nat.le_of_ble_eq_true rfl⟩) ⟨fun a U g mk q => by obtain ⟨q0, q1, qP, qK, qD, qN⟩ := q; exact ⟨q0, q1, qP, va_K.moved (u := U) (U := U.calling g mk a) (Vm.Alike.refl U.vm) qK, qD, tqN_same (u := U) (U := U.calling g mk a) rfl qN⟩, fun U hU hW => ⟨rfl, by rw [hU], by rw [hU]; exact hPc, va_K.moved hW.alike hKc, hDc.weaken (fun _ _ _ _ => trivial), tqN_warm hW hN⟩⟩ rfl rfl hl.1 rfl (lv_room (Nat.le_of_ble_eq_true rfl)) dM_convert_1 ⟨Nat.zero_le _, Nat.zero_le _⟩) hS (fun q _ h => hFc q h) hFc (fun ra u0 t H1 locs ht hvm hpost hB hz1 hk1 hS => ?_)
  have hpost : (m_sizeOf width) = ra := (show ra = (m_sizeOf width) from hpost).symm
  subst hpost
  obtain ⟨hP1, hK1, hD1⟩ := hB
  rw [ht] at hP1
  obtain ⟨hP, hD⟩ := va_join (wr := [(mo, .inr (3, [.int nz, .ref la, .int sq, .ref sa])), (la, .inl (cI, 200, .inl lf))]) (w1 := []) hP hD [] [0, 1] rfl rfl (by decide) (by decide) hk1 hFc hP1 hD1
  generalize H1 = H at hP hS ⊢
  have hP := hP.sub (ws' := [(mo, .inr (3, [.int nz, .ref la, .int sq, .ref sa])), (la, .inl (cI, 200, .inl lf))]) [0, 1] rfl
  have hD := hD.sub (ws' := [(mo, .inr (3, [.int nz, .ref la, .int sq, .ref sa])), (la, .inl (cI, 200, .inl lf))]) [0, 1] (by decide) rfl
  refine lv_topi (fun x2 e2 => ?_)
  have hf := tq_nm_at e2 hf
  refine lv_istore_n (lv' := [(3, .int x2), (0, .ref mo), (1, .int x), (2, .int width)]) hx hb dM_convert_4 rfl hl (by decide) rfl (fun ls hl => ?_)
  refine lv_aload_n hx hb dM_convert_5 rfl (lv_at hl 1 rfl) ?_
  refine lv_iload_n hx hb dM_convert_6 rfl (lv_at hl 2 rfl) ?_
  have hPc := hP.sub (ws' := [(mo, .inr (3, [.int nz, .ref la, .int sq, .ref sa]))]) [0] rfl
  have hDc := hD.sub (ws' := [(mo, .inr (3, [.int nz, .ref la, .int sq, .ref sa]))]) [0] (by decide) rfl
  have hKc := hK.sub (tys' := []) [] rfl
  have hFc := va_free (wc := [(mo, .inr (3, [.int nz, .ref la, .int sq, .ref sa]))]) hD hS hA [0] rfl
  refine va_calli (va_runV (As := [.int x]) (rest := []) ⟨hx, hb, hml, hown, hww⟩ (c_m_isNot l dC dI mo la sa H.size x nz sq (m_isNot nz x) rfl) (cwV 1 hww (tq_gV tqt_356 tqt_358 tqt_6 tqt_35 tqt_359) rfl rfl rfl (by decide +kernel) ⟨Nat.le_of_ble_eq_true rfl, Nat.le_of_ble_eq_true rfl⟩) ⟨fun a U g mk q => by obtain ⟨q0, q1, qP, qK, qD, qN⟩ := q; exact ⟨q0, q1, qP, va_K.moved (u := U) (U := U.calling g mk a) (Vm.Alike.refl U.vm) qK, qD, tqN_same (u := U) (U := U.calling g mk a) rfl qN⟩, va_recv hK hP (ci := 3) rfl (q0 := 0) rfl, fun U hU hW => ⟨rfl, by rw [hU], by rw [hU]; exact hPc, va_K.moved hW.alike hKc, hDc.weaken (fun _ _ _ _ => trivial), tqN_warm hW hN⟩⟩ rfl rfl hl.1 rfl (lv_room (Nat.le_of_ble_eq_true rfl)) dM_convert_7 ⟨Nat.zero_le _, Nat.zero_le _⟩) hS (fun q _ h => hFc q h) hFc (fun ra u0 t H1 locs ht hvm hpost hB hz1 hk1 hS => ?_)
  have hpost : (m_isNot nz x) = ra := (show ra = (m_isNot nz x) from hpost).symm
  subst hpost
  obtain ⟨hP1, hK1, hD1⟩ := hB
  rw [ht] at hP1
  obtain ⟨hP, hD⟩ := va_join (wr := [(la, .inl (cI, 200, .inl lf))]) (w1 := [(mo, .inr (3, [.int nz, .ref la, .int sq, .ref sa]))]) hP hD [0] [1] rfl rfl (by decide) (by decide) hk1 hFc hP1 hD1
  generalize H1 = H at hP hS ⊢
  have hP := hP.sub (ws' := [(mo, .inr (3, [.int nz, .ref la, .int sq, .ref sa])), (la, .inl (cI, 200, .inl lf))]) [1, 0] rfl
  have hD := hD.sub (ws' := [(mo, .inr (3, [.int nz, .ref la, .int sq, .ref sa])), (la, .inl (cI, 200, .inl lf))]) [1, 0] (by decide) rfl
  refine lv_if_eq hx hb dM_convert_10 rfl (fun h4 => ?_) (fun h4 => ?_)
  · rw [if_pos h4] at hf
    refine lv_aload_n hx hb dM_convert_18 rfl (lv_at hl 1 rfl) ?_
    refine lv_iconst (v := 0) hx hb dM_convert_19 (by decide) ?_
    refine lv_iload_n hx hb dM_convert_20 rfl (lv_at hl 2 rfl) ?_
    refine lv_bipush (v := 124) hx hb dM_convert_21 (by decide) ?_
    obtain ⟨lf5, hu, hf⟩ := tq_bd_some hf
    have hPc := hP.sub (ws' := [(mo, .inr (3, [.int nz, .ref la, .int sq, .ref sa])), (la, .inl (cI, 200, .inl lf))]) [0, 1] rfl
    have hDc := hD.sub (ws' := [(mo, .inr (3, [.int nz, .ref la, .int sq, .ref sa])), (la, .inl (cI, 200, .inl lf))]) [0, 1] (by decide) rfl
    have hKc := hK.sub (tys' := [(cI, .int)]) [0] rfl
    have hFc := va_free (wc := [(mo, .inr (3, [.int nz, .ref la, .int sq, .ref sa])), (la, .inl (cI, 200, .inl lf))]) hD hS hA [0, 1] rfl
    refine va_callv (va_runV (As := [.int (0 : Int32), .int x, .int (124 : Int32)]) (rest := []) ⟨hx, hb, hml, hown, hww⟩ (c_m_load l dC dI mo la sa cI H.size (0 : Int32) x (124 : Int32) nz sq lf lf5 hu) (cwV 3 hww (tq_gV tqt_367 tqt_369 tqt_8 tqt_35 tqt_370) rfl rfl rfl (by decide +kernel) ⟨Nat.le_of_ble_eq_true rfl, Nat.le_of_ble_eq_true rfl⟩) ⟨fun a U g mk q => by obtain ⟨q0, q1, qP, qK, qD, qN⟩ := q; exact ⟨q0, q1, qP, va_K.moved (u := U) (U := U.calling g mk a) (Vm.Alike.refl U.vm) qK, qD, tqN_same (u := U) (U := U.calling g mk a) rfl qN⟩, va_recv hK hP (ci := 3) rfl (q0 := 0) rfl, fun U hU hW => ⟨rfl, by rw [hU], by rw [hU]; exact hPc, va_K.moved hW.alike hKc, hDc.weaken (fun _ _ _ _ => trivial), tqN_warm hW hN⟩⟩ rfl rfl hl.1 rfl (lv_room (Nat.le_of_ble_eq_true rfl)) dM_convert_23 ⟨Nat.zero_le _, Nat.zero_le _⟩) hS (fun q _ h => hFc q h) hFc (fun u0 t H1 locs ht hvm hpost hB hz1 hk1 hS => ?_)
    obtain ⟨hP1, hK1, hD1⟩ := hB
    rw [ht] at hP1
    obtain ⟨hP, hD⟩ := va_join (wr := []) (w1 := [(mo, .inr (3, [.int nz, .ref la, .int sq, .ref sa])), (la, .inl (cI, 200, .inl lf5))]) hP hD [0, 1] [] rfl rfl (by decide) (by decide) hk1 hFc hP1 hD1
    generalize H1 = H at hP hS ⊢
    have hP := hP.sub (ws' := [(mo, .inr (3, [.int nz, .ref la, .int sq, .ref sa])), (la, .inl (cI, 200, .inl lf5))]) [0, 1] rfl
    have hD := hD.sub (ws' := [(mo, .inr (3, [.int nz, .ref la, .int sq, .ref sa])), (la, .inl (cI, 200, .inl lf5))]) [0, 1] (by decide) rfl
    refine lv_aload_n hx hb dM_convert_26 rfl (lv_at hl 1 rfl) ?_
    refine lv_iconst (v := 0) hx hb dM_convert_27 (by decide) ?_
    obtain ⟨u, hu, hf⟩ := tq_bd_some hf
    obtain ⟨sq6, lf7⟩ := u
    have hf := tq_nm_at (z := sq6) rfl hf
    have hf := tq_nm_at (z := lf7) rfl hf
    have hPc := hP.sub (ws' := [(mo, .inr (3, [.int nz, .ref la, .int sq, .ref sa])), (la, .inl (cI, 200, .inl lf5))]) [0, 1] rfl
    have hDc := hD.sub (ws' := [(mo, .inr (3, [.int nz, .ref la, .int sq, .ref sa])), (la, .inl (cI, 200, .inl lf5))]) [0, 1] (by decide) rfl
    have hKc := hK.sub (tys' := [(cI, .int)]) [0] rfl
    have hFc := va_free (wc := [(mo, .inr (3, [.int nz, .ref la, .int sq, .ref sa])), (la, .inl (cI, 200, .inl lf5))]) hD hS hA [0, 1] rfl
    refine va_callv (va_runV (As := [.int (0 : Int32)]) (rest := []) ⟨hx, hb, hml, hown, hww⟩ (c_m_factor l dC dI mo la sa cI H.size (0 : Int32) nz sq lf5 (sq6, lf7) hu) (cwV 1 hww (tq_gV tqt_413 tqt_415 tqt_19 tqt_35 tqt_416) rfl rfl rfl (by decide +kernel) ⟨Nat.le_of_ble_eq_true rfl, Nat.le_of_ble_eq_true rfl⟩) ⟨fun a U g mk q => by obtain ⟨q0, q1, qP, qK, qD, qN⟩ := q; exact ⟨q0, q1, qP, va_K.moved (u := U) (U := U.calling g mk a) (Vm.Alike.refl U.vm) qK, qD, tqN_same (u := U) (U := U.calling g mk a) rfl qN⟩, va_recv hK hP (ci := 3) rfl (q0 := 0) rfl, fun U hU hW => ⟨rfl, by rw [hU], by rw [hU]; exact hPc, va_K.moved hW.alike hKc, hDc.weaken (fun _ _ _ _ => trivial), tqN_warm hW hN⟩⟩ rfl rfl hl.1 rfl (lv_room (Nat.le_of_ble_eq_true rfl)) dM_convert_28 ⟨Nat.zero_le _, Nat.zero_le _⟩) hS (fun q _ h => hFc q h) hFc (fun u0 t H1 locs ht hvm hpost hB hz1 hk1 hS => ?_)
    obtain ⟨hP1, hK1, hD1⟩ := hB
    rw [ht] at hP1
    obtain ⟨hP, hD⟩ := va_join (wr := []) (w1 := [(mo, .inr (3, [.int nz, .ref la, .int sq6, .ref sa])), (la, .inl (cI, 200, .inl lf7))]) hP hD [0, 1] [] rfl rfl (by decide) (by decide) hk1 hFc hP1 hD1
    generalize H1 = H at hP hS ⊢
    have hP := hP.sub (ws' := [(mo, .inr (3, [.int nz, .ref la, .int sq6, .ref sa])), (la, .inl (cI, 200, .inl lf7))]) [0, 1] rfl
    have hD := hD.sub (ws' := [(mo, .inr (3, [.int nz, .ref la, .int sq6, .ref sa])), (la, .inl (cI, 200, .inl lf7))]) [0, 1] (by decide) rfl
    refine lv_aload_n hx hb dM_convert_31 rfl (lv_at hl 1 rfl) ?_
    refine lv_aload_n hx hb dM_convert_32 rfl (lv_at hl 1 rfl) ?_
    refine lv_iload_n hx hb dM_convert_33 rfl (lv_at hl 2 rfl) ?_
    have hPc := hP.sub (ws' := [(mo, .inr (3, [.int nz, .ref la, .int sq6, .ref sa]))]) [0] rfl
    have hDc := hD.sub (ws' := [(mo, .inr (3, [.int nz, .ref la, .int sq6, .ref sa]))]) [0] (by decide) rfl
    have hKc := hK.sub (tys' := []) [] rfl
    have hFc := va_free (wc := [(mo, .inr (3, [.int nz, .ref la, .int sq6, .ref sa]))]) hD hS hA [0] rfl
    refine va_calli (va_runV (As := [.int x]) (rest := [.ref mo]) ⟨hx, hb, hml, hown, hww⟩ (c_m_negative l dC dI mo la sa H.size x nz sq6 (m_negative nz x) rfl) (cwV 1 hww (tq_gV tqt_393 tqt_395 tqt_14 tqt_35 tqt_396) rfl rfl rfl (by decide +kernel) ⟨Nat.le_of_ble_eq_true rfl, Nat.le_of_ble_eq_true rfl⟩) ⟨fun a U g mk q => by obtain ⟨q0, q1, qP, qK, qD, qN⟩ := q; exact ⟨q0, q1, qP, va_K.moved (u := U) (U := U.calling g mk a) (Vm.Alike.refl U.vm) qK, qD, tqN_same (u := U) (U := U.calling g mk a) rfl qN⟩, va_recv hK hP (ci := 3) rfl (q0 := 0) rfl, fun U hU hW => ⟨rfl, by rw [hU], by rw [hU]; exact hPc, va_K.moved hW.alike hKc, hDc.weaken (fun _ _ _ _ => trivial), tqN_warm hW hN⟩⟩ rfl rfl hl.1 rfl (lv_room (Nat.le_of_ble_eq_true rfl)) dM_convert_34 ⟨Nat.zero_le _, Nat.zero_le _⟩) hS (fun q _ h => hFc q h) hFc (fun ra u0 t H1 locs ht hvm hpost hB hz1 hk1 hS => ?_)
    have hpost : (m_negative nz x) = ra := (show ra = (m_negative nz x) from hpost).symm
    subst hpost
    obtain ⟨hP1, hK1, hD1⟩ := hB
    rw [ht] at hP1
    obtain ⟨hP, hD⟩ := va_join (wr := [(la, .inl (cI, 200, .inl lf7))]) (w1 := [(mo, .inr (3, [.int nz, .ref la, .int sq6, .ref sa]))]) hP hD [0] [1] rfl rfl (by decide) (by decide) hk1 hFc hP1 hD1
    generalize H1 = H at hP hS ⊢
    have hP := hP.sub (ws' := [(mo, .inr (3, [.int nz, .ref la, .int sq6, .ref sa])), (la, .inl (cI, 200, .inl lf7))]) [1, 0] rfl
    have hD := hD.sub (ws' := [(mo, .inr (3, [.int nz, .ref la, .int sq6, .ref sa])), (la, .inl (cI, 200, .inl lf7))]) [1, 0] (by decide) rfl
    refine lv_iload_n hx hb dM_convert_37 rfl (lv_at hl 0 rfl) ?_
    obtain ⟨u, hu, hf⟩ := tq_bd_some hf
    obtain ⟨r9, lf10⟩ := u
    have hf := tq_nm_at (z := r9) rfl hf
    have hf := tq_nm_at (z := lf10) rfl hf
    have hPc := hP.sub (ws' := [(mo, .inr (3, [.int nz, .ref la, .int sq6, .ref sa])), (la, .inl (cI, 200, .inl lf7))]) [0, 1] rfl
    have hDc := hD.sub (ws' := [(mo, .inr (3, [.int nz, .ref la, .int sq6, .ref sa])), (la, .inl (cI, 200, .inl lf7))]) [0, 1] (by decide) rfl
    have hKc := hK.sub (tys' := [(cI, .int)]) [0] rfl
    have hFc := va_free (wc := [(mo, .inr (3, [.int nz, .ref la, .int sq6, .ref sa])), (la, .inl (cI, 200, .inl lf7))]) hD hS hA [0, 1] rfl
    refine va_calli (va_runV (As := [.int (m_negative nz x), .int x2]) (rest := []) ⟨hx, hb, hml, hown, hww⟩ (c_m_rounded l dC dI mo la sa cI H.size (m_negative nz x) x2 nz sq6 lf7 (r9, lf10) hu) (cwV 2 hww (tq_gV tqt_417 tqt_419 tqt_20 tqt_35 tqt_420) rfl rfl rfl (by decide +kernel) ⟨Nat.le_of_ble_eq_true rfl, Nat.le_of_ble_eq_true rfl⟩) ⟨fun a U g mk q => by obtain ⟨q0, q1, qP, qK, qD, qN⟩ := q; exact ⟨q0, q1, qP, va_K.moved (u := U) (U := U.calling g mk a) (Vm.Alike.refl U.vm) qK, qD, tqN_same (u := U) (U := U.calling g mk a) rfl qN⟩, va_recv hK hP (ci := 3) rfl (q0 := 0) rfl, fun U hU hW => ⟨rfl, by rw [hU], by rw [hU]; exact hPc, va_K.moved hW.alike hKc, hDc.weaken (fun _ _ _ _ => trivial), tqN_warm hW hN⟩⟩ rfl rfl hl.1 rfl (lv_room (Nat.le_of_ble_eq_true rfl)) dM_convert_38 ⟨Nat.zero_le _, Nat.zero_le _⟩) hS (fun q _ h => hFc q h) hFc (fun ra u0 t H1 locs ht hvm hpost hB hz1 hk1 hS => ?_)
    have hpost : r9 = ra := (show ra = r9 from hpost).symm
    subst hpost
    obtain ⟨hP1, hK1, hD1⟩ := hB
    rw [ht] at hP1
    obtain ⟨hP, hD⟩ := va_join (wr := []) (w1 := [(mo, .inr (3, [.int nz, .ref la, .int sq6, .ref sa])), (la, .inl (cI, 200, .inl lf10))]) hP hD [0, 1] [] rfl rfl (by decide) (by decide) hk1 hFc hP1 hD1
    generalize H1 = H at hP hS ⊢
    have hP := hP.sub (ws' := [(mo, .inr (3, [.int nz, .ref la, .int sq6, .ref sa])), (la, .inl (cI, 200, .inl lf10))]) [0, 1] rfl
    have hD := hD.sub (ws' := [(mo, .inr (3, [.int nz, .ref la, .int sq6, .ref sa])), (la, .inl (cI, 200, .inl lf10))]) [0, 1] (by decide) rfl
    have hf := Option.some.inj hf
    subst hf
    exact W.iret (v := r9) hx hb hr (fun t ht hW => ⟨⟨r9, (), rfl, rfl, by rw [ht]; exact hP, va_K.moved hW.alike hK, hD⟩, hS.F ht⟩) hS.2.2 dM_convert_41
  · rw [if_neg h4] at hf
    refine lv_iload_n hx hb dM_convert_13 rfl (lv_at hl 0 rfl) ?_
    have hPc := hP.sub (ws' := []) [] rfl
    have hDc := hD.sub (ws' := []) [] (by decide) rfl
    have hKc := hK.sub (tys' := []) [] rfl
    have hFc := va_free (wc := []) hD hS hA [] rfl
    refine va_calli (va_runS (As := [.int x2]) (rest := []) ⟨hx, hb, hml, hown, hww⟩ (c_m_not l dC dI H.size x2 (m_not x2) rfl) (va_cwS 1 hww (tq_gS tqt_364 tqt_365 tqt_35 tqt_366) rfl rfl rfl (by decide +kernel) ⟨Nat.le_of_ble_eq_true rfl, Nat.le_of_ble_eq_true rfl⟩) ⟨fun a U g mk q => by obtain ⟨q0, q1, qP, qK, qD, qN⟩ := q; exact ⟨q0, q1, qP, va_K.moved (u := U) (U := U.calling g mk a) (Vm.Alike.refl U.vm) qK, qD, tqN_same (u := U) (U := U.calling g mk a) rfl qN⟩, fun U hU hW => ⟨rfl, by rw [hU], by rw [hU]; exact hPc, va_K.moved hW.alike hKc, hDc.weaken (fun _ _ _ _ => trivial), tqN_warm hW hN⟩⟩ rfl rfl hl.1 rfl (lv_room (Nat.le_of_ble_eq_true rfl)) dM_convert_14 ⟨Nat.zero_le _, Nat.zero_le _⟩) hS (fun q _ h => hFc q h) hFc (fun ra u0 t H1 locs ht hvm hpost hB hz1 hk1 hS => ?_)
    have hpost : (m_not x2) = ra := (show ra = (m_not x2) from hpost).symm
    subst hpost
    obtain ⟨hP1, hK1, hD1⟩ := hB
    rw [ht] at hP1
    obtain ⟨hP, hD⟩ := va_join (wr := [(mo, .inr (3, [.int nz, .ref la, .int sq, .ref sa])), (la, .inl (cI, 200, .inl lf))]) (w1 := []) hP hD [] [0, 1] rfl rfl (by decide) (by decide) hk1 hFc hP1 hD1
    generalize H1 = H at hP hS ⊢
    have hP := hP.sub (ws' := [(mo, .inr (3, [.int nz, .ref la, .int sq, .ref sa])), (la, .inl (cI, 200, .inl lf))]) [0, 1] rfl
    have hD := hD.sub (ws' := [(mo, .inr (3, [.int nz, .ref la, .int sq, .ref sa])), (la, .inl (cI, 200, .inl lf))]) [0, 1] (by decide) rfl
    have hf := Option.some.inj hf
    subst hf
    exact W.iret (v := m_not x2) hx hb hr (fun t ht hW => ⟨⟨m_not x2, (), rfl, rfl, by rw [ht]; exact hP, va_K.moved hW.alike hK, hD⟩, hS.F ht⟩) hS.2.2 dM_convert_17
