set_option maxHeartbeats 4000000 in
set_option maxRecDepth 100000 in
theorem c_f_word (l : Launch) (dC : Nat → ClassId) (dI : Nat → Nat → Nat) (th : Nat) (sa : Nat) (s2 : Nat) (s3 : Nat) (o0 : Nat) (o1 : Nat) (s0 : Nat) (s1 : Nat) (w0 : Nat) (w1 : Nat) (cL : ClassId) (cA : ClassId) (sz : Nat) (q : Int32) (k : Int32) (size : Int32) (p0 : Int32) (N0 : Nat) (f0 : Nat → Int64) (f1 : Nat → Int64) (r : Int64) (hf : f_word p0 N0 f0 f1 q k = some r) : Met l yX2_word tqw_X2_word ({ frames := 1, cells := 0, slots := 0, locals := 20 }) (va_Pc [.ref th, .int q, .int k] (fun U => U.heap.size = sz ∧ va_P (dC, dI) tqCl [(th, .inr (2, [.int size, .ref sa, .ref s2, .ref s3, .ref o0, .ref o1])), (sa, .inl (cA, 2, .inr (.inr (.inr (.inr (sref s0 s1)))))), (s0, .inr (1, [.int p0, .ref w0])), (w0, .inl (cL, N0, .inr (.inl f0))), (s1, .inr (1, [.int p0, .ref w1])), (w1, .inl (cL, N0, .inr (.inl f1)))] U.heap ∧ va_K (dC, dI) tqCl [(cL, .long), (cA, .object RX1)] U ∧ va_D (fun _ => True) [(th, .inr (2, [.int size, .ref sa, .ref s2, .ref s3, .ref o0, .ref o1])), (sa, .inl (cA, 2, .inr (.inr (.inr (.inr (sref s0 s1)))))), (s0, .inr (1, [.int p0, .ref w0])), (w0, .inl (cL, N0, .inr (.inl f0))), (s1, .inr (1, [.int p0, .ref w1])), (w1, .inl (cL, N0, .inr (.inl f1)))] ∧ tqN U)) (va_Ql (fun (a : Int64) (_ : Unit) => a = r) (fun (_ : Unit) (t : State) => va_P (dC, dI) tqCl [(th, .inr (2, [.int size, .ref sa, .ref s2, .ref s3, .ref o0, .ref o1])), (sa, .inl (cA, 2, .inr (.inr (.inr (.inr (sref s0 s1)))))), (s0, .inr (1, [.int p0, .ref w0])), (w0, .inl (cL, N0, .inr (.inl f0))), (s1, .inr (1, [.int p0, .ref w1])), (w1, .inl (cL, N0, .inr (.inl f1)))] t.heap ∧ va_K (dC, dI) tqCl [(cL, .long), (cA, .object RX1)] t ∧ va_D (va_A [(th, .inr (2, [.int size, .ref sa, .ref s2, .ref s3, .ref o0, .ref o1])), (sa, .inl (cA, 2, .inr (.inr (.inr (.inr (sref s0 s1)))))), (s0, .inr (1, [.int p0, .ref w0])), (w0, .inl (cL, N0, .inr (.inl f0))), (s1, .inr (1, [.int p0, .ref w1])), (w1, .inl (cL, N0, .inr (.inl f1)))] sz) [(th, .inr (2, [.int size, .ref sa, .ref s2, .ref s3, .ref o0, .ref o1])), (sa, .inl (cA, 2, .inr (.inr (.inr (.inr (sref s0 s1)))))), (s0, .inr (1, [.int p0, .ref w0])), (w0, .inl (cL, N0, .inr (.inl f0))), (s1, .inr (1, [.int p0, .ref w1])), (w1, .inl (cL, N0, .inr (.inl f1)))]) (va_A [(th, .inr (2, [.int size, .ref sa, .ref s2, .ref s3, .ref o0, .ref o1])), (sa, .inl (cA, 2, .inr (.inr (.inr (.inr (sref s0 s1)))))), (s0, .inr (1, [.int p0, .ref w0])), (w0, .inl (cL, N0, .inr (.inl f0))), (s1, .inr (1, [.int p0, .ref w1])), (w1, .inl (cL, N0, .inr (.inl f1)))] sz)) 0 0 (va_A [(th, .inr (2, [.int size, .ref sa, .ref s2, .ref s3, .ref o0, .ref o1])), (sa, .inl (cA, 2, .inr (.inr (.inr (.inr (sref s0 s1)))))), (s0, .inr (1, [.int p0, .ref w0])), (w0, .inl (cL, N0, .inr (.inl f0))), (s1, .inr (1, [.int p0, .ref w1])), (w1, .inl (cL, N0, .inr (.inl f1)))] sz) := by
  refine Met.ofW (cc := cX2_word) (maxL := 3) (ret := (some .long)) (by decide) rfl ?_
  intro p e s m args below meth c s₁ B hml hv
  obtain ⟨rfl, hsz, hP, hK, hD0, hN⟩ := hv
  have hx := B.exec
  have hb := B.bytes
  have hr := B.returns
  have hts := atoms_spec (ws := tqw_X2_word) B.pre
  have hww : ∀ w ∈ tqW, w.before _ s = true := fun w h => hts w (List.mem_cons_of_mem _ h)
  have hown : s.vm.findClass RX2 = some m.cls := findClass_of_methodNamed B.named
  have hlocks := B.notSynchronized
  subst hsz
  have hD := hD0.self (sz := s.heap.size)
  generalize hAe : va_A [(th, .inr (2, [.int size, .ref sa, .ref s2, .ref s3, .ref o0, .ref o1])), (sa, .inl (cA, 2, .inr (.inr (.inr (.inr (sref s0 s1)))))), (s0, .inr (1, [.int p0, .ref w0])), (w0, .inl (cL, N0, .inr (.inl f0))), (s1, .inr (1, [.int p0, .ref w1])), (w1, .inl (cL, N0, .inr (.inl f1)))] s.heap.size = A at hD ⊢
  have hA : ∀ q : Nat, s.heap.size ≤ q → A q := fun q h => by rw [← hAe]; exact Or.inr h
  have hS : va_S A s.heap s.heap [] := va_S.rf
  have hP : va_P (dC, dI) tqCl [(th, .inr (2, [.int size, .ref sa, .ref s2, .ref s3, .ref o0, .ref o1])), (sa, .inl (cA, 2, .inr (.inr (.inr (.inr (sref s0 s1)))))), (s0, .inr (1, [.int p0, .ref w0])), (w0, .inl (cL, N0, .inr (.inl f0))), (s1, .inr (1, [.int p0, .ref w1])), (w1, .inl (cL, N0, .inr (.inl f1)))] s.heap := hP
  have hl := lv_entry ([.ref th, .int q, .int k]) (n := 3) (Nat.le_of_ble_eq_true rfl)
  rw [lg_entry_eq]
  generalize (lg_sl ([.ref th, .int q, .int k]) ++ List.replicate (3 - (lg_sl ([.ref th, .int q, .int k])).length) Slot.unset).toArray = ls at hl ⊢
  have hl : lv_has ls 3 [(0, .ref th), (1, .int q), (2, .int k)] := hl
  unfold f_word at hf
  refine lv_iload_n hx hb dX2_word_0 rfl (lv_at hl 1 rfl) ?_
  have hPc := hP.sub (ws' := []) [] rfl
  have hDc := hD.sub (ws' := []) [] (by decide) rfl
  have hKc := hK.sub (tys' := []) [] rfl
  have hFc := va_free (wc := []) hD hS hA [] rfl
  refine va_calli (va_runS (As := [.int q]) (rest := []) ⟨hx, hb, hml, hown, hww⟩ (c_f_isSum l dC dI s.heap.size q (f_isSum q) rfl) (va_cwS 1 hww (tq_gS tqt_290 tqt_291 tqt_32 tqt_292) rfl rfl rfl (by decide +kernel) ⟨Nat.le_of_ble_eq_true rfl, Nat.le_of_ble_eq_true rfl⟩) ⟨fun a U g mk q => by obtain ⟨q0, q1, qP, qK, qD, qN⟩ := q; exact ⟨q0, q1, qP, va_K.moved (u := U) (U := U.calling g mk a) (Vm.Alike.refl U.vm) qK, qD, tqN_same (u := U) (U := U.calling g mk a) rfl qN⟩, fun U hU hW => ⟨rfl, by rw [hU], by rw [hU]; exact hPc, va_K.moved hW.alike hKc, hDc.weaken (fun _ _ _ _ => trivial), tqN_warm hW hN⟩⟩ rfl rfl hl.1 rfl (lv_room (Nat.le_of_ble_eq_true rfl)) dX2_word_1 ⟨Nat.zero_le _, Nat.zero_le _⟩) hS (fun q _ h => hFc q h) hFc (fun ra u0 t H1 locs ht hvm hpost hB hz1 hk1 hS => ?_)
  have hpost : (f_isSum q) = ra := (show ra = (f_isSum q) from hpost).symm
  subst hpost
  obtain ⟨hP1, hK1, hD1⟩ := hB
  rw [ht] at hP1
  obtain ⟨hP, hD⟩ := va_join (wr := [(th, .inr (2, [.int size, .ref sa, .ref s2, .ref s3, .ref o0, .ref o1])), (sa, .inl (cA, 2, .inr (.inr (.inr (.inr (sref s0 s1)))))), (s0, .inr (1, [.int p0, .ref w0])), (w0, .inl (cL, N0, .inr (.inl f0))), (s1, .inr (1, [.int p0, .ref w1])), (w1, .inl (cL, N0, .inr (.inl f1)))]) (w1 := []) hP hD [] [0, 1, 2, 3, 4, 5] rfl rfl (by decide) (by decide) hk1 hFc hP1 hD1
  generalize H1 = H at hP hS ⊢
  have hP := hP.sub (ws' := [(th, .inr (2, [.int size, .ref sa, .ref s2, .ref s3, .ref o0, .ref o1])), (sa, .inl (cA, 2, .inr (.inr (.inr (.inr (sref s0 s1)))))), (s0, .inr (1, [.int p0, .ref w0])), (w0, .inl (cL, N0, .inr (.inl f0))), (s1, .inr (1, [.int p0, .ref w1])), (w1, .inl (cL, N0, .inr (.inl f1)))]) [0, 1, 2, 3, 4, 5] rfl
  have hD := hD.sub (ws' := [(th, .inr (2, [.int size, .ref sa, .ref s2, .ref s3, .ref o0, .ref o1])), (sa, .inl (cA, 2, .inr (.inr (.inr (.inr (sref s0 s1)))))), (s0, .inr (1, [.int p0, .ref w0])), (w0, .inl (cL, N0, .inr (.inl f0))), (s1, .inr (1, [.int p0, .ref w1])), (w1, .inl (cL, N0, .inr (.inl f1)))]) [0, 1, 2, 3, 4, 5] (by decide) rfl
  refine lv_if_eq hx hb dX2_word_4 rfl (fun h2 => ?_) (fun h2 => ?_)
  · rw [if_pos h2] at hf
    refine lv_lconst (v := 0) hx hb dX2_word_25 (by decide) ?_
    have hf := Option.some.inj hf
    subst hf
    exact W.lret (v := (0 : Int64)) hx hb hr (fun t ht hW => ⟨⟨(0 : Int64), (), rfl, rfl, by rw [ht]; exact hP, va_K.moved hW.alike hK, hD⟩, hS.F ht⟩) hS.2.2 dX2_word_26
  · rw [if_neg h2] at hf
    refine lv_iload_n hx hb dX2_word_7 rfl (lv_at hl 2 rfl) ?_
    refine lv_if_lt hx hb dX2_word_8 rfl (fun h3 => ?_) (fun h3 => ?_)
    · rw [if_pos h3] at hf
      refine lv_lconst (v := 0) hx hb dX2_word_25 (by decide) ?_
      have hf := Option.some.inj hf
      subst hf
      exact W.lret (v := (0 : Int64)) hx hb hr (fun t ht hW => ⟨⟨(0 : Int64), (), rfl, rfl, by rw [ht]; exact hP, va_K.moved hW.alike hK, hD⟩, hS.F ht⟩) hS.2.2 dX2_word_26
    · rw [if_neg h3] at hf
      refine lv_iload_n hx hb dX2_word_11 rfl (lv_at hl 2 rfl) ?_
      refine lv_aload_n hx hb dX2_word_12 rfl (lv_at hl 0 rfl) ?_
      refine va_get (D := (dC, dI)) (ci := 2) (v := .ref sa) (C := RX2) (T := TX2) (N := 6) hx hb hww tqinX2 hown hK hP 0 rfl rfl 1 (by decide) (hww _ tqt_95) (fun _ h9 => h9) rfl dX2_word_13 ?_
      refine lv_iload_n hx hb dX2_word_16 rfl (lv_at hl 1 rfl) ?_
      by_cases h4 : q = 0
      · rw [if_pos h4] at hf
        subst h4
        refine va_aldq hx hb hK hP 1 1 rfl rfl (by unfold vp_in; decide) dX2_word_17 ?_
        show W _ _ _ _ _ _ _ _ _ _ _ _ _ _ _ (F0 _ _ _ (.ref s0 :: _))
        refine va_get (D := (dC, dI)) (ci := 1) (v := .ref w0) (C := RX1) (T := TX1) (N := 2) hx hb hww tqinX1 hown hK hP 2 rfl rfl 1 (by decide) (hww _ tqt_60) (fun _ h9 => h9) rfl dX2_word_18 ?_
        refine va_alen (v := nI N0) hx hb hK hP 3 0 rfl rfl rfl dX2_word_21 ?_
        refine lv_icmp_lt hx hb dX2_word_22 rfl (fun h5 => ?_) (fun h5 => ?_)
        · rw [if_pos h5] at hf
          refine lv_aload_n hx hb dX2_word_27 rfl (lv_at hl 0 rfl) ?_
          refine va_get (D := (dC, dI)) (ci := 2) (v := .ref sa) (C := RX2) (T := TX2) (N := 6) hx hb hww tqinX2 hown hK hP 0 rfl rfl 1 (by decide) (hww _ tqt_95) (fun _ h9 => h9) rfl dX2_word_28 ?_
          refine lv_iload_n hx hb dX2_word_31 rfl (lv_at hl 1 rfl) ?_
          refine va_aldq hx hb hK hP 1 1 rfl rfl (by unfold vp_in; decide) dX2_word_32 ?_
          show W _ _ _ _ _ _ _ _ _ _ _ _ _ _ _ (F0 _ _ _ (.ref s0 :: _))
          refine va_get (D := (dC, dI)) (ci := 1) (v := .ref w0) (C := RX1) (T := TX1) (N := 2) hx hb hww tqinX1 hown hK hP 2 rfl rfl 1 (by decide) (hww _ tqt_60) (fun _ h9 => h9) rfl dX2_word_33 ?_
          refine lv_iload_n hx hb dX2_word_36 rfl (lv_at hl 2 rfl) ?_
          by_cases h6 : (k < 0 ∨ N0 ≤ k.toNatClampNeg)
          · rw [if_pos h6] at hf
            cases hf
          · rw [if_neg h6] at hf
            refine va_lald hx hb hK hP 3 0 rfl rfl h6 dX2_word_37 ?_
            have hf := Option.some.inj hf
            subst hf
            exact W.lret (v := f0 k.toNatClampNeg) hx hb hr (fun t ht hW => ⟨⟨f0 k.toNatClampNeg, (), rfl, rfl, by rw [ht]; exact hP, va_K.moved hW.alike hK, hD⟩, hS.F ht⟩) hS.2.2 dX2_word_38
        · rw [if_neg h5] at hf
          refine lv_lconst (v := 0) hx hb dX2_word_25 (by decide) ?_
          have hf := Option.some.inj hf
          subst hf
          exact W.lret (v := (0 : Int64)) hx hb hr (fun t ht hW => ⟨⟨(0 : Int64), (), rfl, rfl, by rw [ht]; exact hP, va_K.moved hW.alike hK, hD⟩, hS.F ht⟩) hS.2.2 dX2_word_26
      · rw [if_neg h4] at hf
        by_cases h7 : q = 1
        · rw [if_pos h7] at hf
          subst h7
          refine va_aldq hx hb hK hP 1 1 rfl rfl (by unfold vp_in; decide) dX2_word_17 ?_
          show W _ _ _ _ _ _ _ _ _ _ _ _ _ _ _ (F0 _ _ _ (.ref s1 :: _))
          refine va_get (D := (dC, dI)) (ci := 1) (v := .ref w1) (C := RX1) (T := TX1) (N := 2) hx hb hww tqinX1 hown hK hP 4 rfl rfl 1 (by decide) (hww _ tqt_60) (fun _ h9 => h9) rfl dX2_word_18 ?_
          refine va_alen (v := nI N0) hx hb hK hP 5 0 rfl rfl rfl dX2_word_21 ?_
          refine lv_icmp_lt hx hb dX2_word_22 rfl (fun h8 => ?_) (fun h8 => ?_)
          · rw [if_pos h8] at hf
            refine lv_aload_n hx hb dX2_word_27 rfl (lv_at hl 0 rfl) ?_
            refine va_get (D := (dC, dI)) (ci := 2) (v := .ref sa) (C := RX2) (T := TX2) (N := 6) hx hb hww tqinX2 hown hK hP 0 rfl rfl 1 (by decide) (hww _ tqt_95) (fun _ h9 => h9) rfl dX2_word_28 ?_
            refine lv_iload_n hx hb dX2_word_31 rfl (lv_at hl 1 rfl) ?_
            refine va_aldq hx hb hK hP 1 1 rfl rfl (by unfold vp_in; decide) dX2_word_32 ?_
            show W _ _ _ _ _ _ _ _ _ _ _ _ _ _ _ (F0 _ _ _ (.ref s1 :: _))
            refine va_get (D := (dC, dI)) (ci := 1) (v := .ref w1) (C := RX1) (T := TX1) (N := 2) hx hb hww tqinX1 hown hK hP 4 rfl rfl 1 (by decide) (hww _ tqt_60) (fun _ h9 => h9) rfl dX2_word_33 ?_
            refine lv_iload_n hx hb dX2_word_36 rfl (lv_at hl 2 rfl) ?_
            by_cases h9 : (k < 0 ∨ N0 ≤ k.toNatClampNeg)
            · rw [if_pos h9] at hf
              cases hf
            · rw [if_neg h9] at hf
              refine va_lald hx hb hK hP 5 0 rfl rfl h9 dX2_word_37 ?_
              have hf := Option.some.inj hf
              subst hf
              exact W.lret (v := f1 k.toNatClampNeg) hx hb hr (fun t ht hW => ⟨⟨f1 k.toNatClampNeg, (), rfl, rfl, by rw [ht]; exact hP, va_K.moved hW.alike hK, hD⟩, hS.F ht⟩) hS.2.2 dX2_word_38
          · rw [if_neg h8] at hf
            refine lv_lconst (v := 0) hx hb dX2_word_25 (by decide) ?_
            have hf := Option.some.inj hf
            subst hf
            exact W.lret (v := (0 : Int64)) hx hb hr (fun t ht hW => ⟨⟨(0 : Int64), (), rfl, rfl, by rw [ht]; exact hP, va_K.moved hW.alike hK, hD⟩, hS.F ht⟩) hS.2.2 dX2_word_26
        · rw [if_neg h7] at hf
          cases hf
set_option maxHeartbeats 4000000 in
set_option maxRecDepth 100000 in
theorem c_f_total (l : Launch) (dC : Nat → ClassId) (dI : Nat → Nat → Nat) (th : Nat) (sa : Nat) (s2 : Nat) (s3 : Nat) (o0 : Nat) (o1 : Nat) (s0 : Nat) (s1 : Nat) (w0 : Nat) (w1 : Nat) (w3 : Nat) (cL : ClassId) (cA : ClassId) (sz : Nat) (q : Int32) (size : Int32) (p0 : Int32) (N0 : Nat) (f0 : Nat → Int64) (f1 : Nat → Int64) (f3 : Nat → Int64) (r : Int32 × (Nat → Int64)) (hf : f_total size p0 N0 f0 f1 q f3 = some r) : Met l yX2_total tqw_X2_total ({ frames := 4, cells := 0, slots := 0, locals := 89 }) (va_Pc [.ref th, .int q] (fun U => U.heap.size = sz ∧ va_P (dC, dI) tqCl [(th, .inr (2, [.int size, .ref sa, .ref s2, .ref s3, .ref o0, .ref o1])), (sa, .inl (cA, 2, .inr (.inr (.inr (.inr (sref s0 s1)))))), (s0, .inr (1, [.int p0, .ref w0])), (w0, .inl (cL, N0, .inr (.inl f0))), (s1, .inr (1, [.int p0, .ref w1])), (w1, .inl (cL, N0, .inr (.inl f1))), (s3, .inr (1, [.int p0, .ref w3])), (w3, .inl (cL, N0, .inr (.inl f3)))] U.heap ∧ va_K (dC, dI) tqCl [(cL, .long), (cA, .object RX1)] U ∧ va_D (fun _ => True) [(th, .inr (2, [.int size, .ref sa, .ref s2, .ref s3, .ref o0, .ref o1])), (sa, .inl (cA, 2, .inr (.inr (.inr (.inr (sref s0 s1)))))), (s0, .inr (1, [.int p0, .ref w0])), (w0, .inl (cL, N0, .inr (.inl f0))), (s1, .inr (1, [.int p0, .ref w1])), (w1, .inl (cL, N0, .inr (.inl f1))), (s3, .inr (1, [.int p0, .ref w3])), (w3, .inl (cL, N0, .inr (.inl f3)))] ∧ tqN U)) (va_Qi (fun (a : Int32) (_ : Unit) => a = r.1) (fun (_ : Unit) (t : State) => va_P (dC, dI) tqCl [(th, .inr (2, [.int size, .ref sa, .ref s2, .ref s3, .ref o0, .ref o1])), (sa, .inl (cA, 2, .inr (.inr (.inr (.inr (sref s0 s1)))))), (s0, .inr (1, [.int p0, .ref w0])), (w0, .inl (cL, N0, .inr (.inl f0))), (s1, .inr (1, [.int p0, .ref w1])), (w1, .inl (cL, N0, .inr (.inl f1))), (s3, .inr (1, [.int p0, .ref w3])), (w3, .inl (cL, N0, .inr (.inl r.2)))] t.heap ∧ va_K (dC, dI) tqCl [(cL, .long), (cA, .object RX1)] t ∧ va_D (va_A [(th, .inr (2, [.int size, .ref sa, .ref s2, .ref s3, .ref o0, .ref o1])), (sa, .inl (cA, 2, .inr (.inr (.inr (.inr (sref s0 s1)))))), (s0, .inr (1, [.int p0, .ref w0])), (w0, .inl (cL, N0, .inr (.inl f0))), (s1, .inr (1, [.int p0, .ref w1])), (w1, .inl (cL, N0, .inr (.inl f1))), (s3, .inr (1, [.int p0, .ref w3])), (w3, .inl (cL, N0, .inr (.inl f3)))] sz) [(th, .inr (2, [.int size, .ref sa, .ref s2, .ref s3, .ref o0, .ref o1])), (sa, .inl (cA, 2, .inr (.inr (.inr (.inr (sref s0 s1)))))), (s0, .inr (1, [.int p0, .ref w0])), (w0, .inl (cL, N0, .inr (.inl f0))), (s1, .inr (1, [.int p0, .ref w1])), (w1, .inl (cL, N0, .inr (.inl f1))), (s3, .inr (1, [.int p0, .ref w3])), (w3, .inl (cL, N0, .inr (.inl r.2)))]) (va_A [(th, .inr (2, [.int size, .ref sa, .ref s2, .ref s3, .ref o0, .ref o1])), (sa, .inl (cA, 2, .inr (.inr (.inr (.inr (sref s0 s1)))))), (s0, .inr (1, [.int p0, .ref w0])), (w0, .inl (cL, N0, .inr (.inl f0))), (s1, .inr (1, [.int p0, .ref w1])), (w1, .inl (cL, N0, .inr (.inl f1))), (s3, .inr (1, [.int p0, .ref w3])), (w3, .inl (cL, N0, .inr (.inl f3)))] sz)) 0 0 (va_A [(th, .inr (2, [.int size, .ref sa, .ref s2, .ref s3, .ref o0, .ref o1])), (sa, .inl (cA, 2, .inr (.inr (.inr (.inr (sref s0 s1)))))), (s0, .inr (1, [.int p0, .ref w0])), (w0, .inl (cL, N0, .inr (.inl f0))), (s1, .inr (1, [.int p0, .ref w1])), (w1, .inl (cL, N0, .inr (.inl f1))), (s3, .inr (1, [.int p0, .ref w3])), (w3, .inl (cL, N0, .inr (.inl f3)))] sz) := by
  refine Met.ofW (cc := cX2_total) (maxL := 2) (ret := (some .int)) (by decide) rfl ?_
  intro p e s m args below meth c s₁ B hml hv
  obtain ⟨rfl, hsz, hP, hK, hD0, hN⟩ := hv
  have hx := B.exec
  have hb := B.bytes
  have hr := B.returns
  have hts := atoms_spec (ws := tqw_X2_total) B.pre
  have hww : ∀ w ∈ tqW, w.before _ s = true := fun w h => hts w (List.mem_cons_of_mem _ h)
  have hown : s.vm.findClass RX2 = some m.cls := findClass_of_methodNamed B.named
  have hlocks := B.notSynchronized
  subst hsz
  have hD := hD0.self (sz := s.heap.size)
  generalize hAe : va_A [(th, .inr (2, [.int size, .ref sa, .ref s2, .ref s3, .ref o0, .ref o1])), (sa, .inl (cA, 2, .inr (.inr (.inr (.inr (sref s0 s1)))))), (s0, .inr (1, [.int p0, .ref w0])), (w0, .inl (cL, N0, .inr (.inl f0))), (s1, .inr (1, [.int p0, .ref w1])), (w1, .inl (cL, N0, .inr (.inl f1))), (s3, .inr (1, [.int p0, .ref w3])), (w3, .inl (cL, N0, .inr (.inl f3)))] s.heap.size = A at hD ⊢
  have hA : ∀ q : Nat, s.heap.size ≤ q → A q := fun q h => by rw [← hAe]; exact Or.inr h
  have hS : va_S A s.heap s.heap [] := va_S.rf
  have hP : va_P (dC, dI) tqCl [(th, .inr (2, [.int size, .ref sa, .ref s2, .ref s3, .ref o0, .ref o1])), (sa, .inl (cA, 2, .inr (.inr (.inr (.inr (sref s0 s1)))))), (s0, .inr (1, [.int p0, .ref w0])), (w0, .inl (cL, N0, .inr (.inl f0))), (s1, .inr (1, [.int p0, .ref w1])), (w1, .inl (cL, N0, .inr (.inl f1))), (s3, .inr (1, [.int p0, .ref w3])), (w3, .inl (cL, N0, .inr (.inl f3)))] s.heap := hP
  have hl := lv_entry ([.ref th, .int q]) (n := 2) (Nat.le_of_ble_eq_true rfl)
  rw [lg_entry_eq]
  generalize (lg_sl ([.ref th, .int q]) ++ List.replicate (2 - (lg_sl ([.ref th, .int q])).length) Slot.unset).toArray = ls at hl ⊢
  have hl : lv_has ls 2 [(0, .ref th), (1, .int q)] := hl
  unfold f_total at hf
  refine lv_iload_n hx hb dX2_total_0 rfl (lv_at hl 1 rfl) ?_
  have hPc := hP.sub (ws' := []) [] rfl
  have hDc := hD.sub (ws' := []) [] (by decide) rfl
  have hKc := hK.sub (tys' := []) [] rfl
  have hFc := va_free (wc := []) hD hS hA [] rfl
  refine va_calli (va_runS (As := [.int q]) (rest := []) ⟨hx, hb, hml, hown, hww⟩ (c_f_isSum l dC dI s.heap.size q (f_isSum q) rfl) (va_cwS 1 hww (tq_gS tqt_290 tqt_291 tqt_32 tqt_292) rfl rfl rfl (by decide +kernel) ⟨Nat.le_of_ble_eq_true rfl, Nat.le_of_ble_eq_true rfl⟩) ⟨fun a U g mk q => by obtain ⟨q0, q1, qP, qK, qD, qN⟩ := q; exact ⟨q0, q1, qP, va_K.moved (u := U) (U := U.calling g mk a) (Vm.Alike.refl U.vm) qK, qD, tqN_same (u := U) (U := U.calling g mk a) rfl qN⟩, fun U hU hW => ⟨rfl, by rw [hU], by rw [hU]; exact hPc, va_K.moved hW.alike hKc, hDc.weaken (fun _ _ _ _ => trivial), tqN_warm hW hN⟩⟩ rfl rfl hl.1 rfl (lv_room (Nat.le_of_ble_eq_true rfl)) dX2_total_1 ⟨Nat.zero_le _, Nat.zero_le _⟩) hS (fun q _ h => hFc q h) hFc (fun ra u0 t H1 locs ht hvm hpost hB hz1 hk1 hS => ?_)
  have hpost : (f_isSum q) = ra := (show ra = (f_isSum q) from hpost).symm
  subst hpost
  obtain ⟨hP1, hK1, hD1⟩ := hB
  rw [ht] at hP1
  obtain ⟨hP, hD⟩ := va_join (wr := [(th, .inr (2, [.int size, .ref sa, .ref s2, .ref s3, .ref o0, .ref o1])), (sa, .inl (cA, 2, .inr (.inr (.inr (.inr (sref s0 s1)))))), (s0, .inr (1, [.int p0, .ref w0])), (w0, .inl (cL, N0, .inr (.inl f0))), (s1, .inr (1, [.int p0, .ref w1])), (w1, .inl (cL, N0, .inr (.inl f1))), (s3, .inr (1, [.int p0, .ref w3])), (w3, .inl (cL, N0, .inr (.inl f3)))]) (w1 := []) hP hD [] [0, 1, 2, 3, 4, 5, 6, 7] rfl rfl (by decide) (by decide) hk1 hFc hP1 hD1
  generalize H1 = H at hP hS ⊢
  have hP := hP.sub (ws' := [(th, .inr (2, [.int size, .ref sa, .ref s2, .ref s3, .ref o0, .ref o1])), (sa, .inl (cA, 2, .inr (.inr (.inr (.inr (sref s0 s1)))))), (s0, .inr (1, [.int p0, .ref w0])), (w0, .inl (cL, N0, .inr (.inl f0))), (s1, .inr (1, [.int p0, .ref w1])), (w1, .inl (cL, N0, .inr (.inl f1))), (s3, .inr (1, [.int p0, .ref w3])), (w3, .inl (cL, N0, .inr (.inl f3)))]) [0, 1, 2, 3, 4, 5, 6, 7] rfl
  have hD := hD.sub (ws' := [(th, .inr (2, [.int size, .ref sa, .ref s2, .ref s3, .ref o0, .ref o1])), (sa, .inl (cA, 2, .inr (.inr (.inr (.inr (sref s0 s1)))))), (s0, .inr (1, [.int p0, .ref w0])), (w0, .inl (cL, N0, .inr (.inl f0))), (s1, .inr (1, [.int p0, .ref w1])), (w1, .inl (cL, N0, .inr (.inl f1))), (s3, .inr (1, [.int p0, .ref w3])), (w3, .inl (cL, N0, .inr (.inl f3)))]) [0, 1, 2, 3, 4, 5, 6, 7] (by decide) rfl
  refine lv_if_ne hx hb dX2_total_4 rfl (fun h2 => ?_) (fun h2 => ?_)
  · rw [if_pos h2] at hf
    refine lv_aload_n hx hb dX2_total_15 rfl (lv_at hl 0 rfl) ?_
    refine lv_aload_n hx hb dX2_total_16 rfl (lv_at hl 0 rfl) ?_
    refine va_get (D := (dC, dI)) (ci := 2) (v := .ref sa) (C := RX2) (T := TX2) (N := 6) hx hb hww tqinX2 hown hK hP 0 rfl rfl 1 (by decide) (hww _ tqt_95) (fun _ h9 => h9) rfl dX2_total_17 ?_
    refine lv_iload_n hx hb dX2_total_20 rfl (lv_at hl 1 rfl) ?_
    by_cases h3 : q = 0
    · rw [if_pos h3] at hf
      subst h3
      refine va_aldq hx hb hK hP 1 1 rfl rfl (by unfold vp_in; decide) dX2_total_21 ?_
      show W _ _ _ _ _ _ _ _ _ _ _ _ _ _ _ (F0 _ _ _ (.ref s0 :: _))
      obtain ⟨u, hu, hf⟩ := tq_bd_some hf
      obtain ⟨r4, f35⟩ := u
      have hf := tq_nm_at (z := r4) rfl hf
      have hf := tq_nm_at (z := f35) rfl hf
      have hPc := hP.sub (ws' := [(th, .inr (2, [.int size, .ref sa, .ref s2, .ref s3, .ref o0, .ref o1])), (s0, .inr (1, [.int p0, .ref w0])), (w0, .inl (cL, N0, .inr (.inl f0))), (s3, .inr (1, [.int p0, .ref w3])), (w3, .inl (cL, N0, .inr (.inl f3)))]) [0, 2, 3, 6, 7] rfl
      have hDc := hD.sub (ws' := [(th, .inr (2, [.int size, .ref sa, .ref s2, .ref s3, .ref o0, .ref o1])), (s0, .inr (1, [.int p0, .ref w0])), (w0, .inl (cL, N0, .inr (.inl f0))), (s3, .inr (1, [.int p0, .ref w3])), (w3, .inl (cL, N0, .inr (.inl f3)))]) [0, 2, 3, 6, 7] (by decide) rfl
      have hKc := hK.sub (tys' := [(cL, .long)]) [0] rfl
      have hFc := va_free (wc := [(th, .inr (2, [.int size, .ref sa, .ref s2, .ref s3, .ref o0, .ref o1])), (s0, .inr (1, [.int p0, .ref w0])), (w0, .inl (cL, N0, .inr (.inl f0))), (s3, .inr (1, [.int p0, .ref w3])), (w3, .inl (cL, N0, .inr (.inl f3)))]) hD hS hA [0, 2, 3, 6, 7] rfl
      refine va_calli (va_runV (As := [.ref s0]) (rest := []) ⟨hx, hb, hml, hown, hww⟩ (c_f_roundedSum l dC dI th s0 sa s2 s3 o0 o1 w0 w3 cL H.size size p0 N0 f0 f3 (r4, f35) hu) (cwV 1 hww (tq_gV tqt_199 tqt_201 tqt_4 tqt_32 tqt_202) rfl rfl rfl (by decide +kernel) ⟨Nat.le_of_ble_eq_true rfl, Nat.le_of_ble_eq_true rfl⟩) ⟨fun a U g mk q => by obtain ⟨q0, q1, qP, qK, qD, qN⟩ := q; exact ⟨q0, q1, qP, va_K.moved (u := U) (U := U.calling g mk a) (Vm.Alike.refl U.vm) qK, qD, tqN_same (u := U) (U := U.calling g mk a) rfl qN⟩, va_recv hK hP (ci := 2) rfl (q0 := 0) rfl, fun U hU hW => ⟨rfl, by rw [hU], by rw [hU]; exact hPc, va_K.moved hW.alike hKc, hDc.weaken (fun _ _ _ _ => trivial), tqN_warm hW hN⟩⟩ rfl rfl hl.1 rfl (lv_room (Nat.le_of_ble_eq_true rfl)) dX2_total_22 ⟨Nat.zero_le _, Nat.zero_le _⟩) hS (fun q _ h => hFc q h) hFc (fun ra u0 t H1 locs ht hvm hpost hB hz1 hk1 hS => ?_)
      have hpost : r4 = ra := (show ra = r4 from hpost).symm
      subst hpost
      obtain ⟨hP1, hK1, hD1⟩ := hB
      rw [ht] at hP1
      obtain ⟨hP, hD⟩ := va_join (wr := [(sa, .inl (cA, 2, .inr (.inr (.inr (.inr (sref s0 s1)))))), (s1, .inr (1, [.int p0, .ref w1])), (w1, .inl (cL, N0, .inr (.inl f1)))]) (w1 := [(th, .inr (2, [.int size, .ref sa, .ref s2, .ref s3, .ref o0, .ref o1])), (s0, .inr (1, [.int p0, .ref w0])), (w0, .inl (cL, N0, .inr (.inl f0))), (s3, .inr (1, [.int p0, .ref w3])), (w3, .inl (cL, N0, .inr (.inl f35)))]) hP hD [0, 2, 3, 6, 7] [1, 4, 5] rfl rfl (by decide) (by decide) hk1 hFc hP1 hD1
      generalize H1 = H at hP hS ⊢
      have hP := hP.sub (ws' := [(th, .inr (2, [.int size, .ref sa, .ref s2, .ref s3, .ref o0, .ref o1])), (sa, .inl (cA, 2, .inr (.inr (.inr (.inr (sref s0 s1)))))), (s0, .inr (1, [.int p0, .ref w0])), (w0, .inl (cL, N0, .inr (.inl f0))), (s1, .inr (1, [.int p0, .ref w1])), (w1, .inl (cL, N0, .inr (.inl f1))), (s3, .inr (1, [.int p0, .ref w3])), (w3, .inl (cL, N0, .inr (.inl f35)))]) [3, 0, 4, 5, 1, 2, 6, 7] rfl
      have hD := hD.sub (ws' := [(th, .inr (2, [.int size, .ref sa, .ref s2, .ref s3, .ref o0, .ref o1])), (sa, .inl (cA, 2, .inr (.inr (.inr (.inr (sref s0 s1)))))), (s0, .inr (1, [.int p0, .ref w0])), (w0, .inl (cL, N0, .inr (.inl f0))), (s1, .inr (1, [.int p0, .ref w1])), (w1, .inl (cL, N0, .inr (.inl f1))), (s3, .inr (1, [.int p0, .ref w3])), (w3, .inl (cL, N0, .inr (.inl f35)))]) [3, 0, 4, 5, 1, 2, 6, 7] (by decide) rfl
      have hf := Option.some.inj hf
      subst hf
      exact W.iret (v := r4) hx hb hr (fun t ht hW => ⟨⟨r4, (), rfl, rfl, by rw [ht]; exact hP, va_K.moved hW.alike hK, hD⟩, hS.F ht⟩) hS.2.2 dX2_total_25
    · rw [if_neg h3] at hf
      by_cases h6 : q = 1
      · rw [if_pos h6] at hf
        subst h6
        refine va_aldq hx hb hK hP 1 1 rfl rfl (by unfold vp_in; decide) dX2_total_21 ?_
        show W _ _ _ _ _ _ _ _ _ _ _ _ _ _ _ (F0 _ _ _ (.ref s1 :: _))
        obtain ⟨u, hu, hf⟩ := tq_bd_some hf
        obtain ⟨r7, f38⟩ := u
        have hf := tq_nm_at (z := r7) rfl hf
        have hf := tq_nm_at (z := f38) rfl hf
        have hPc := hP.sub (ws' := [(th, .inr (2, [.int size, .ref sa, .ref s2, .ref s3, .ref o0, .ref o1])), (s1, .inr (1, [.int p0, .ref w1])), (w1, .inl (cL, N0, .inr (.inl f1))), (s3, .inr (1, [.int p0, .ref w3])), (w3, .inl (cL, N0, .inr (.inl f3)))]) [0, 4, 5, 6, 7] rfl
        have hDc := hD.sub (ws' := [(th, .inr (2, [.int size, .ref sa, .ref s2, .ref s3, .ref o0, .ref o1])), (s1, .inr (1, [.int p0, .ref w1])), (w1, .inl (cL, N0, .inr (.inl f1))), (s3, .inr (1, [.int p0, .ref w3])), (w3, .inl (cL, N0, .inr (.inl f3)))]) [0, 4, 5, 6, 7] (by decide) rfl
        have hKc := hK.sub (tys' := [(cL, .long)]) [0] rfl
        have hFc := va_free (wc := [(th, .inr (2, [.int size, .ref sa, .ref s2, .ref s3, .ref o0, .ref o1])), (s1, .inr (1, [.int p0, .ref w1])), (w1, .inl (cL, N0, .inr (.inl f1))), (s3, .inr (1, [.int p0, .ref w3])), (w3, .inl (cL, N0, .inr (.inl f3)))]) hD hS hA [0, 4, 5, 6, 7] rfl
        refine va_calli (va_runV (As := [.ref s1]) (rest := []) ⟨hx, hb, hml, hown, hww⟩ (c_f_roundedSum l dC dI th s1 sa s2 s3 o0 o1 w1 w3 cL H.size size p0 N0 f1 f3 (r7, f38) hu) (cwV 1 hww (tq_gV tqt_199 tqt_201 tqt_4 tqt_32 tqt_202) rfl rfl rfl (by decide +kernel) ⟨Nat.le_of_ble_eq_true rfl, Nat.le_of_ble_eq_true rfl⟩) ⟨fun a U g mk q => by obtain ⟨q0, q1, qP, qK, qD, qN⟩ := q; exact ⟨q0, q1, qP, va_K.moved (u := U) (U := U.calling g mk a) (Vm.Alike.refl U.vm) qK, qD, tqN_same (u := U) (U := U.calling g mk a) rfl qN⟩, va_recv hK hP (ci := 2) rfl (q0 := 0) rfl, fun U hU hW => ⟨rfl, by rw [hU], by rw [hU]; exact hPc, va_K.moved hW.alike hKc, hDc.weaken (fun _ _ _ _ => trivial), tqN_warm hW hN⟩⟩ rfl rfl hl.1 rfl (lv_room (Nat.le_of_ble_eq_true rfl)) dX2_total_22 ⟨Nat.zero_le _, Nat.zero_le _⟩) hS (fun q _ h => hFc q h) hFc (fun ra u0 t H1 locs ht hvm hpost hB hz1 hk1 hS => ?_)
        have hpost : r7 = ra := (show ra = r7 from hpost).symm
        subst hpost
        obtain ⟨hP1, hK1, hD1⟩ := hB
        rw [ht] at hP1
        obtain ⟨hP, hD⟩ := va_join (wr := [(sa, .inl (cA, 2, .inr (.inr (.inr (.inr (sref s0 s1)))))), (s0, .inr (1, [.int p0, .ref w0])), (w0, .inl (cL, N0, .inr (.inl f0)))]) (w1 := [(th, .inr (2, [.int size, .ref sa, .ref s2, .ref s3, .ref o0, .ref o1])), (s1, .inr (1, [.int p0, .ref w1])), (w1, .inl (cL, N0, .inr (.inl f1))), (s3, .inr (1, [.int p0, .ref w3])), (w3, .inl (cL, N0, .inr (.inl f38)))]) hP hD [0, 4, 5, 6, 7] [1, 2, 3] rfl rfl (by decide) (by decide) hk1 hFc hP1 hD1
        generalize H1 = H at hP hS ⊢
        have hP := hP.sub (ws' := [(th, .inr (2, [.int size, .ref sa, .ref s2, .ref s3, .ref o0, .ref o1])), (sa, .inl (cA, 2, .inr (.inr (.inr (.inr (sref s0 s1)))))), (s0, .inr (1, [.int p0, .ref w0])), (w0, .inl (cL, N0, .inr (.inl f0))), (s1, .inr (1, [.int p0, .ref w1])), (w1, .inl (cL, N0, .inr (.inl f1))), (s3, .inr (1, [.int p0, .ref w3])), (w3, .inl (cL, N0, .inr (.inl f38)))]) [3, 0, 1, 2, 4, 5, 6, 7] rfl
        have hD := hD.sub (ws' := [(th, .inr (2, [.int size, .ref sa, .ref s2, .ref s3, .ref o0, .ref o1])), (sa, .inl (cA, 2, .inr (.inr (.inr (.inr (sref s0 s1)))))), (s0, .inr (1, [.int p0, .ref w0])), (w0, .inl (cL, N0, .inr (.inl f0))), (s1, .inr (1, [.int p0, .ref w1])), (w1, .inl (cL, N0, .inr (.inl f1))), (s3, .inr (1, [.int p0, .ref w3])), (w3, .inl (cL, N0, .inr (.inl f38)))]) [3, 0, 1, 2, 4, 5, 6, 7] (by decide) rfl
        have hf := Option.some.inj hf
        subst hf
        exact W.iret (v := r7) hx hb hr (fun t ht hW => ⟨⟨r7, (), rfl, rfl, by rw [ht]; exact hP, va_K.moved hW.alike hK, hD⟩, hS.F ht⟩) hS.2.2 dX2_total_25
      · rw [if_neg h6] at hf
        cases hf
  · rw [if_neg (fun q : ¬ (f_isSum q) = 0 => q h2)] at hf
    refine lv_aload_n hx hb dX2_total_7 rfl (lv_at hl 0 rfl) ?_
    refine va_get (D := (dC, dI)) (ci := 2) (v := .int size) (C := RX2) (T := TX2) (N := 6) hx hb hww tqinX2 hown hK hP 0 rfl rfl 0 (by decide) (hww _ tqt_94) (fun _ h9 => h9) rfl dX2_total_8 ?_
    have hPc := hP.sub (ws' := []) [] rfl
    have hDc := hD.sub (ws' := []) [] (by decide) rfl
    have hKc := hK.sub (tys' := []) [] rfl
    have hFc := va_free (wc := []) hD hS hA [] rfl
    refine va_calli (va_runS (As := [.int size]) (rest := []) ⟨hx, hb, hml, hown, hww⟩ (c_f_notOf l dC dI H.size size (f_notOf size) rfl) (va_cwS 1 hww (tq_gS tqt_204 tqt_141 tqt_32 tqt_142) rfl rfl rfl (by decide +kernel) ⟨Nat.le_of_ble_eq_true rfl, Nat.le_of_ble_eq_true rfl⟩) ⟨fun a U g mk q => by obtain ⟨q0, q1, qP, qK, qD, qN⟩ := q; exact ⟨q0, q1, qP, va_K.moved (u := U) (U := U.calling g mk a) (Vm.Alike.refl U.vm) qK, qD, tqN_same (u := U) (U := U.calling g mk a) rfl qN⟩, fun U hU hW => ⟨rfl, by rw [hU], by rw [hU]; exact hPc, va_K.moved hW.alike hKc, hDc.weaken (fun _ _ _ _ => trivial), tqN_warm hW hN⟩⟩ rfl rfl hl.1 rfl (lv_room (Nat.le_of_ble_eq_true rfl)) dX2_total_11 ⟨Nat.zero_le _, Nat.zero_le _⟩) hS (fun q _ h => hFc q h) hFc (fun ra u0 t H1 locs ht hvm hpost hB hz1 hk1 hS => ?_)
    have hpost : (f_notOf size) = ra := (show ra = (f_notOf size) from hpost).symm
    subst hpost
    obtain ⟨hP1, hK1, hD1⟩ := hB
    rw [ht] at hP1
    obtain ⟨hP, hD⟩ := va_join (wr := [(th, .inr (2, [.int size, .ref sa, .ref s2, .ref s3, .ref o0, .ref o1])), (sa, .inl (cA, 2, .inr (.inr (.inr (.inr (sref s0 s1)))))), (s0, .inr (1, [.int p0, .ref w0])), (w0, .inl (cL, N0, .inr (.inl f0))), (s1, .inr (1, [.int p0, .ref w1])), (w1, .inl (cL, N0, .inr (.inl f1))), (s3, .inr (1, [.int p0, .ref w3])), (w3, .inl (cL, N0, .inr (.inl f3)))]) (w1 := []) hP hD [] [0, 1, 2, 3, 4, 5, 6, 7] rfl rfl (by decide) (by decide) hk1 hFc hP1 hD1
    generalize H1 = H at hP hS ⊢
    have hP := hP.sub (ws' := [(th, .inr (2, [.int size, .ref sa, .ref s2, .ref s3, .ref o0, .ref o1])), (sa, .inl (cA, 2, .inr (.inr (.inr (.inr (sref s0 s1)))))), (s0, .inr (1, [.int p0, .ref w0])), (w0, .inl (cL, N0, .inr (.inl f0))), (s1, .inr (1, [.int p0, .ref w1])), (w1, .inl (cL, N0, .inr (.inl f1))), (s3, .inr (1, [.int p0, .ref w3])), (w3, .inl (cL, N0, .inr (.inl f3)))]) [0, 1, 2, 3, 4, 5, 6, 7] rfl
    have hD := hD.sub (ws' := [(th, .inr (2, [.int size, .ref sa, .ref s2, .ref s3, .ref o0, .ref o1])), (sa, .inl (cA, 2, .inr (.inr (.inr (.inr (sref s0 s1)))))), (s0, .inr (1, [.int p0, .ref w0])), (w0, .inl (cL, N0, .inr (.inl f0))), (s1, .inr (1, [.int p0, .ref w1])), (w1, .inl (cL, N0, .inr (.inl f1))), (s3, .inr (1, [.int p0, .ref w3])), (w3, .inl (cL, N0, .inr (.inl f3)))]) [0, 1, 2, 3, 4, 5, 6, 7] (by decide) rfl
    have hf := Option.some.inj hf
    subst hf
    exact W.iret (v := f_notOf size) hx hb hr (fun t ht hW => ⟨⟨f_notOf size, (), rfl, rfl, by rw [ht]; exact hP, va_K.moved hW.alike hK, hD⟩, hS.F ht⟩) hS.2.2 dX2_total_14
set_option maxHeartbeats 4000000 in
set_option maxRecDepth 100000 in
theorem c_f_collect (l : Launch) (dC : Nat → ClassId) (dI : Nat → Nat → Nat) (th : Nat) (sa : Nat) (s2 : Nat) (s3 : Nat) (o0 : Nat) (o1 : Nat) (s0 : Nat) (s1 : Nat) (w0 : Nat) (w1 : Nat) (w3 : Nat) (cL : ClassId) (cA : ClassId) (sz : Nat) (q : Int32) (x : Int32) (y : Int32) (minus : Int32) (size : Int32) (p0 : Int32) (N0 : Nat) (f0 : Nat → Int64) (f1 : Nat → Int64) (f3 : Nat → Int64) (nt0 : Int32) (ng0 : Int32) (mg0 : Int64) (ex0 : Int32) (nt1 : Int32) (ng1 : Int32) (mg1 : Int64) (ex1 : Int32) (r : Int32 × (Nat → Int64) × (Nat → Int64) × (Nat → Int64) × Int32 × Int32 × Int64 × Int32 × Int32 × Int32 × Int64 × Int32) (hf : f_collect size nt0 ng0 mg0 ex0 nt1 ng1 mg1 ex1 p0 N0 f0 f1 q f3 x y minus = some r) : Met l yX2_collect tqw_X2_collect ({ frames := 5, cells := 0, slots := 0, locals := 120 }) (va_Pc [.ref th, .int q, .int x, .int y, .int minus] (fun U => U.heap.size = sz ∧ va_P (dC, dI) tqCl [(th, .inr (2, [.int size, .ref sa, .ref s2, .ref s3, .ref o0, .ref o1])), (sa, .inl (cA, 2, .inr (.inr (.inr (.inr (sref s0 s1)))))), (s0, .inr (1, [.int p0, .ref w0])), (w0, .inl (cL, N0, .inr (.inl f0))), (s1, .inr (1, [.int p0, .ref w1])), (w1, .inl (cL, N0, .inr (.inl f1))), (s3, .inr (1, [.int p0, .ref w3])), (w3, .inl (cL, N0, .inr (.inl f3))), (o0, .inr (0, [.int nt0, .int ng0, .long mg0, .int ex0])), (o1, .inr (0, [.int nt1, .int ng1, .long mg1, .int ex1]))] U.heap ∧ va_K (dC, dI) tqCl [(cL, .long), (cA, .object RX1)] U ∧ va_D (fun _ => True) [(th, .inr (2, [.int size, .ref sa, .ref s2, .ref s3, .ref o0, .ref o1])), (sa, .inl (cA, 2, .inr (.inr (.inr (.inr (sref s0 s1)))))), (s0, .inr (1, [.int p0, .ref w0])), (w0, .inl (cL, N0, .inr (.inl f0))), (s1, .inr (1, [.int p0, .ref w1])), (w1, .inl (cL, N0, .inr (.inl f1))), (s3, .inr (1, [.int p0, .ref w3])), (w3, .inl (cL, N0, .inr (.inl f3))), (o0, .inr (0, [.int nt0, .int ng0, .long mg0, .int ex0])), (o1, .inr (0, [.int nt1, .int ng1, .long mg1, .int ex1]))] ∧ tqN U)) (va_Qi (fun (a : Int32) (_ : Unit) => a = r.1) (fun (_ : Unit) (t : State) => va_P (dC, dI) tqCl [(th, .inr (2, [.int size, .ref sa, .ref s2, .ref s3, .ref o0, .ref o1])), (sa, .inl (cA, 2, .inr (.inr (.inr (.inr (sref s0 s1)))))), (s0, .inr (1, [.int p0, .ref w0])), (w0, .inl (cL, N0, .inr (.inl r.2.1))), (s1, .inr (1, [.int p0, .ref w1])), (w1, .inl (cL, N0, .inr (.inl r.2.2.1))), (s3, .inr (1, [.int p0, .ref w3])), (w3, .inl (cL, N0, .inr (.inl r.2.2.2.1))), (o0, .inr (0, [.int r.2.2.2.2.1, .int r.2.2.2.2.2.1, .long r.2.2.2.2.2.2.1, .int r.2.2.2.2.2.2.2.1])), (o1, .inr (0, [.int r.2.2.2.2.2.2.2.2.1, .int r.2.2.2.2.2.2.2.2.2.1, .long r.2.2.2.2.2.2.2.2.2.2.1, .int r.2.2.2.2.2.2.2.2.2.2.2]))] t.heap ∧ va_K (dC, dI) tqCl [(cL, .long), (cA, .object RX1)] t ∧ va_D (va_A [(th, .inr (2, [.int size, .ref sa, .ref s2, .ref s3, .ref o0, .ref o1])), (sa, .inl (cA, 2, .inr (.inr (.inr (.inr (sref s0 s1)))))), (s0, .inr (1, [.int p0, .ref w0])), (w0, .inl (cL, N0, .inr (.inl f0))), (s1, .inr (1, [.int p0, .ref w1])), (w1, .inl (cL, N0, .inr (.inl f1))), (s3, .inr (1, [.int p0, .ref w3])), (w3, .inl (cL, N0, .inr (.inl f3))), (o0, .inr (0, [.int nt0, .int ng0, .long mg0, .int ex0])), (o1, .inr (0, [.int nt1, .int ng1, .long mg1, .int ex1]))] sz) [(th, .inr (2, [.int size, .ref sa, .ref s2, .ref s3, .ref o0, .ref o1])), (sa, .inl (cA, 2, .inr (.inr (.inr (.inr (sref s0 s1)))))), (s0, .inr (1, [.int p0, .ref w0])), (w0, .inl (cL, N0, .inr (.inl r.2.1))), (s1, .inr (1, [.int p0, .ref w1])), (w1, .inl (cL, N0, .inr (.inl r.2.2.1))), (s3, .inr (1, [.int p0, .ref w3])), (w3, .inl (cL, N0, .inr (.inl r.2.2.2.1))), (o0, .inr (0, [.int r.2.2.2.2.1, .int r.2.2.2.2.2.1, .long r.2.2.2.2.2.2.1, .int r.2.2.2.2.2.2.2.1])), (o1, .inr (0, [.int r.2.2.2.2.2.2.2.2.1, .int r.2.2.2.2.2.2.2.2.2.1, .long r.2.2.2.2.2.2.2.2.2.2.1, .int r.2.2.2.2.2.2.2.2.2.2.2]))]) (va_A [(th, .inr (2, [.int size, .ref sa, .ref s2, .ref s3, .ref o0, .ref o1])), (sa, .inl (cA, 2, .inr (.inr (.inr (.inr (sref s0 s1)))))), (s0, .inr (1, [.int p0, .ref w0])), (w0, .inl (cL, N0, .inr (.inl f0))), (s1, .inr (1, [.int p0, .ref w1])), (w1, .inl (cL, N0, .inr (.inl f1))), (s3, .inr (1, [.int p0, .ref w3])), (w3, .inl (cL, N0, .inr (.inl f3))), (o0, .inr (0, [.int nt0, .int ng0, .long mg0, .int ex0])), (o1, .inr (0, [.int nt1, .int ng1, .long mg1, .int ex1]))] sz)) 0 0 (va_A [(th, .inr (2, [.int size, .ref sa, .ref s2, .ref s3, .ref o0, .ref o1])), (sa, .inl (cA, 2, .inr (.inr (.inr (.inr (sref s0 s1)))))), (s0, .inr (1, [.int p0, .ref w0])), (w0, .inl (cL, N0, .inr (.inl f0))), (s1, .inr (1, [.int p0, .ref w1])), (w1, .inl (cL, N0, .inr (.inl f1))), (s3, .inr (1, [.int p0, .ref w3])), (w3, .inl (cL, N0, .inr (.inl f3))), (o0, .inr (0, [.int nt0, .int ng0, .long mg0, .int ex0])), (o1, .inr (0, [.int nt1, .int ng1, .long mg1, .int ex1]))] sz) := by
  refine Met.ofW (cc := cX2_collect) (maxL := 5) (ret := (some .boolean)) (by decide) rfl ?_
  intro p e s m args below meth c s₁ B hml hv
  obtain ⟨rfl, hsz, hP, hK, hD0, hN⟩ := hv
  have hx := B.exec
  have hb := B.bytes
  have hr := B.returns
  have hts := atoms_spec (ws := tqw_X2_collect) B.pre
  have hww : ∀ w ∈ tqW, w.before _ s = true := fun w h => hts w (List.mem_cons_of_mem _ h)
  have hown : s.vm.findClass RX2 = some m.cls := findClass_of_methodNamed B.named
  have hlocks := B.notSynchronized
  subst hsz
  have hD := hD0.self (sz := s.heap.size)
  generalize hAe : va_A [(th, .inr (2, [.int size, .ref sa, .ref s2, .ref s3, .ref o0, .ref o1])), (sa, .inl (cA, 2, .inr (.inr (.inr (.inr (sref s0 s1)))))), (s0, .inr (1, [.int p0, .ref w0])), (w0, .inl (cL, N0, .inr (.inl f0))), (s1, .inr (1, [.int p0, .ref w1])), (w1, .inl (cL, N0, .inr (.inl f1))), (s3, .inr (1, [.int p0, .ref w3])), (w3, .inl (cL, N0, .inr (.inl f3))), (o0, .inr (0, [.int nt0, .int ng0, .long mg0, .int ex0])), (o1, .inr (0, [.int nt1, .int ng1, .long mg1, .int ex1]))] s.heap.size = A at hD ⊢
  have hA : ∀ q : Nat, s.heap.size ≤ q → A q := fun q h => by rw [← hAe]; exact Or.inr h
  have hS : va_S A s.heap s.heap [] := va_S.rf
  have hP : va_P (dC, dI) tqCl [(th, .inr (2, [.int size, .ref sa, .ref s2, .ref s3, .ref o0, .ref o1])), (sa, .inl (cA, 2, .inr (.inr (.inr (.inr (sref s0 s1)))))), (s0, .inr (1, [.int p0, .ref w0])), (w0, .inl (cL, N0, .inr (.inl f0))), (s1, .inr (1, [.int p0, .ref w1])), (w1, .inl (cL, N0, .inr (.inl f1))), (s3, .inr (1, [.int p0, .ref w3])), (w3, .inl (cL, N0, .inr (.inl f3))), (o0, .inr (0, [.int nt0, .int ng0, .long mg0, .int ex0])), (o1, .inr (0, [.int nt1, .int ng1, .long mg1, .int ex1]))] s.heap := hP
  have hl := lv_entry ([.ref th, .int q, .int x, .int y, .int minus]) (n := 5) (Nat.le_of_ble_eq_true rfl)
  rw [lg_entry_eq]
  generalize (lg_sl ([.ref th, .int q, .int x, .int y, .int minus]) ++ List.replicate (5 - (lg_sl ([.ref th, .int q, .int x, .int y, .int minus])).length) Slot.unset).toArray = ls at hl ⊢
  have hl : lv_has ls 5 [(0, .ref th), (1, .int q), (2, .int x), (3, .int y), (4, .int minus)] := hl
  have B31 : ∀ (ls : Array Slot) (H : Heap) (locs : List Loc) (f0 : Nat → Int64) (f1 : Nat → Int64) (f3 : Nat → Int64) (nt0 : Int32) (ng0 : Int32) (mg0 : Int64) (ex0 : Int32) (nt1 : Int32) (ng1 : Int32) (mg1 : Int64) (ex1 : Int32), f_collect_b31 N0 q f0 f1 f3 nt0 ng0 mg0 ex0 nt1 ng1 mg1 ex1 = some r → lv_has ls 5 [(0, .ref th), (1, .int q)] → va_P (dC, dI) tqCl [(th, .inr (2, [.int size, .ref sa, .ref s2, .ref s3, .ref o0, .ref o1])), (sa, .inl (cA, 2, .inr (.inr (.inr (.inr (sref s0 s1)))))), (s0, .inr (1, [.int p0, .ref w0])), (w0, .inl (cL, N0, .inr (.inl f0))), (s1, .inr (1, [.int p0, .ref w1])), (w1, .inl (cL, N0, .inr (.inl f1))), (s3, .inr (1, [.int p0, .ref w3])), (w3, .inl (cL, N0, .inr (.inl f3))), (o0, .inr (0, [.int nt0, .int ng0, .long mg0, .int ex0])), (o1, .inr (0, [.int nt1, .int ng1, .long mg1, .int ex1]))] H → va_D A [(th, .inr (2, [.int size, .ref sa, .ref s2, .ref s3, .ref o0, .ref o1])), (sa, .inl (cA, 2, .inr (.inr (.inr (.inr (sref s0 s1)))))), (s0, .inr (1, [.int p0, .ref w0])), (w0, .inl (cL, N0, .inr (.inl f0))), (s1, .inr (1, [.int p0, .ref w1])), (w1, .inl (cL, N0, .inr (.inl f1))), (s3, .inr (1, [.int p0, .ref w3])), (w3, .inl (cL, N0, .inr (.inl f3))), (o0, .inr (0, [.int nt0, .int ng0, .long mg0, .int ex0])), (o1, .inr (0, [.int nt1, .int ng1, .long mg1, .int ex1]))] → va_S A s.heap H locs → W p l e ({ frames := 5, cells := 0, slots := 0, locals := 120 }) s m ([.ref th, .int q, .int x, .int y, .int minus] : List Value).toArray below meth c H locs 0 0 (MQ below (va_Qi (fun (a : Int32) (_ : Unit) => a = r.1) (fun (_ : Unit) (t : State) => va_P (dC, dI) tqCl [(th, .inr (2, [.int size, .ref sa, .ref s2, .ref s3, .ref o0, .ref o1])), (sa, .inl (cA, 2, .inr (.inr (.inr (.inr (sref s0 s1)))))), (s0, .inr (1, [.int p0, .ref w0])), (w0, .inl (cL, N0, .inr (.inl r.2.1))), (s1, .inr (1, [.int p0, .ref w1])), (w1, .inl (cL, N0, .inr (.inl r.2.2.1))), (s3, .inr (1, [.int p0, .ref w3])), (w3, .inl (cL, N0, .inr (.inl r.2.2.2.1))), (o0, .inr (0, [.int r.2.2.2.2.1, .int r.2.2.2.2.2.1, .long r.2.2.2.2.2.2.1, .int r.2.2.2.2.2.2.2.1])), (o1, .inr (0, [.int r.2.2.2.2.2.2.2.2.1, .int r.2.2.2.2.2.2.2.2.2.1, .long r.2.2.2.2.2.2.2.2.2.2.1, .int r.2.2.2.2.2.2.2.2.2.2.2]))] t.heap ∧ va_K (dC, dI) tqCl [(cL, .long), (cA, .object RX1)] t ∧ va_D (A) [(th, .inr (2, [.int size, .ref sa, .ref s2, .ref s3, .ref o0, .ref o1])), (sa, .inl (cA, 2, .inr (.inr (.inr (.inr (sref s0 s1)))))), (s0, .inr (1, [.int p0, .ref w0])), (w0, .inl (cL, N0, .inr (.inl r.2.1))), (s1, .inr (1, [.int p0, .ref w1])), (w1, .inl (cL, N0, .inr (.inl r.2.2.1))), (s3, .inr (1, [.int p0, .ref w3])), (w3, .inl (cL, N0, .inr (.inl r.2.2.2.1))), (o0, .inr (0, [.int r.2.2.2.2.1, .int r.2.2.2.2.2.1, .long r.2.2.2.2.2.2.1, .int r.2.2.2.2.2.2.2.1])), (o1, .inr (0, [.int r.2.2.2.2.2.2.2.2.1, .int r.2.2.2.2.2.2.2.2.2.1, .long r.2.2.2.2.2.2.2.2.2.2.1, .int r.2.2.2.2.2.2.2.2.2.2.2]))]) (A)) ([.ref th, .int q, .int x, .int y, .int minus] : List Value).toArray s 0 0 A) (F0 m 31 ls []) := by
    try clear hf
    intro ls H locs f0 f1 f3 nt0 ng0 mg0 ex0 nt1 ng1 mg1 ex1 hf hl hP hD hS
    unfold f_collect_b31 at hf
    refine lv_aload_n hx hb dX2_collect_31 rfl (lv_at hl 0 rfl) ?_
    refine va_get (D := (dC, dI)) (ci := 2) (v := .ref sa) (C := RX2) (T := TX2) (N := 6) hx hb hww tqinX2 hown hK hP 0 rfl rfl 1 (by decide) (hww _ tqt_95) (fun _ h9 => h9) rfl dX2_collect_32 ?_
    refine lv_iload_n hx hb dX2_collect_35 rfl (lv_at hl 1 rfl) ?_
    by_cases h13 : q = 0
    · rw [if_pos h13] at hf
      subst h13
      refine va_aldq hx hb hK hP 1 1 rfl rfl (by unfold vp_in; decide) dX2_collect_36 ?_
      show W _ _ _ _ _ _ _ _ _ _ _ _ _ _ _ (F0 _ _ _ (.ref s0 :: _))
      refine lv_aload_n hx hb dX2_collect_37 rfl (lv_at hl 0 rfl) ?_
      refine va_get (D := (dC, dI)) (ci := 2) (v := .ref s3) (C := RX2) (T := TX2) (N := 6) hx hb hww tqinX2 hown hK hP 0 rfl rfl 3 (by decide) (hww _ tqt_97) (fun _ h9 => h9) rfl dX2_collect_38 ?_
      obtain ⟨f014, hu, hf⟩ := tq_bd_some hf
      have hPc := hP.sub (ws' := [(s0, .inr (1, [.int p0, .ref w0])), (w0, .inl (cL, N0, .inr (.inl f0))), (s3, .inr (1, [.int p0, .ref w3])), (w3, .inl (cL, N0, .inr (.inl f3)))]) [2, 3, 6, 7] rfl
      have hDc := hD.sub (ws' := [(s0, .inr (1, [.int p0, .ref w0])), (w0, .inl (cL, N0, .inr (.inl f0))), (s3, .inr (1, [.int p0, .ref w3])), (w3, .inl (cL, N0, .inr (.inl f3)))]) [2, 3, 6, 7] (by decide) rfl
      have hKc := hK.sub (tys' := [(cL, .long)]) [0] rfl
      have hFc := va_free (wc := [(s0, .inr (1, [.int p0, .ref w0])), (w0, .inl (cL, N0, .inr (.inl f0))), (s3, .inr (1, [.int p0, .ref w3])), (w3, .inl (cL, N0, .inr (.inl f3)))]) hD hS hA [2, 3, 6, 7] rfl
      refine va_callv (va_runV (As := [.ref s3]) (rest := []) ⟨hx, hb, hml, hown, hww⟩ (c_f_include l dC dI s0 s3 w0 w3 cL H.size p0 N0 f0 p0 N0 f3 f014 hu) (cwV 1 hww (tq_gV tqt_184 tqt_185 tqt_186 tqt_33 tqt_187) rfl rfl rfl (by decide +kernel) ⟨Nat.le_of_ble_eq_true rfl, Nat.le_of_ble_eq_true rfl⟩) ⟨fun a U g mk q => by obtain ⟨q0, q1, qP, qK, qD, qN⟩ := q; exact ⟨q0, q1, qP, va_K.moved (u := U) (U := U.calling g mk a) (Vm.Alike.refl U.vm) qK, qD, tqN_same (u := U) (U := U.calling g mk a) rfl qN⟩, va_recv hK hP (ci := 1) rfl (q0 := 2) rfl, fun U hU hW => ⟨rfl, by rw [hU], by rw [hU]; exact hPc, va_K.moved hW.alike hKc, hDc.weaken (fun _ _ _ _ => trivial), tqN_warm hW hN⟩⟩ rfl rfl hl.1 rfl (lv_room (Nat.le_of_ble_eq_true rfl)) dX2_collect_41 ⟨Nat.zero_le _, Nat.zero_le _⟩) hS (fun q _ h => hFc q h) hFc (fun u0 t H1 locs ht hvm hpost hB hz1 hk1 hS => ?_)
      obtain ⟨hP1, hK1, hD1⟩ := hB
      rw [ht] at hP1
      obtain ⟨hP, hD⟩ := va_join (wr := [(th, .inr (2, [.int size, .ref sa, .ref s2, .ref s3, .ref o0, .ref o1])), (sa, .inl (cA, 2, .inr (.inr (.inr (.inr (sref s0 s1)))))), (s1, .inr (1, [.int p0, .ref w1])), (w1, .inl (cL, N0, .inr (.inl f1))), (o0, .inr (0, [.int nt0, .int ng0, .long mg0, .int ex0])), (o1, .inr (0, [.int nt1, .int ng1, .long mg1, .int ex1]))]) (w1 := [(s0, .inr (1, [.int p0, .ref w0])), (w0, .inl (cL, N0, .inr (.inl f014))), (s3, .inr (1, [.int p0, .ref w3])), (w3, .inl (cL, N0, .inr (.inl f3)))]) hP hD [2, 3, 6, 7] [0, 1, 4, 5, 8, 9] rfl rfl (by decide) (by decide) hk1 hFc hP1 hD1
      generalize H1 = H at hP hS ⊢
      have hP := hP.sub (ws' := [(th, .inr (2, [.int size, .ref sa, .ref s2, .ref s3, .ref o0, .ref o1])), (sa, .inl (cA, 2, .inr (.inr (.inr (.inr (sref s0 s1)))))), (s0, .inr (1, [.int p0, .ref w0])), (w0, .inl (cL, N0, .inr (.inl f014))), (s1, .inr (1, [.int p0, .ref w1])), (w1, .inl (cL, N0, .inr (.inl f1))), (s3, .inr (1, [.int p0, .ref w3])), (w3, .inl (cL, N0, .inr (.inl f3))), (o0, .inr (0, [.int nt0, .int ng0, .long mg0, .int ex0])), (o1, .inr (0, [.int nt1, .int ng1, .long mg1, .int ex1]))]) [0, 1, 6, 7, 2, 3, 8, 9, 4, 5] rfl
      have hD := hD.sub (ws' := [(th, .inr (2, [.int size, .ref sa, .ref s2, .ref s3, .ref o0, .ref o1])), (sa, .inl (cA, 2, .inr (.inr (.inr (.inr (sref s0 s1)))))), (s0, .inr (1, [.int p0, .ref w0])), (w0, .inl (cL, N0, .inr (.inl f014))), (s1, .inr (1, [.int p0, .ref w1])), (w1, .inl (cL, N0, .inr (.inl f1))), (s3, .inr (1, [.int p0, .ref w3])), (w3, .inl (cL, N0, .inr (.inl f3))), (o0, .inr (0, [.int nt0, .int ng0, .long mg0, .int ex0])), (o1, .inr (0, [.int nt1, .int ng1, .long mg1, .int ex1]))]) [0, 1, 6, 7, 2, 3, 8, 9, 4, 5] (by decide) rfl
      refine lv_iconst (v := 1) hx hb dX2_collect_44 (by decide) ?_
      have hf := Option.some.inj hf
      subst hf
      exact W.zret (v := (1 : Int32)) hx hb hr (tq_nb_bool (by decide)) (fun t ht hW => ⟨⟨(1 : Int32), (), rfl, rfl, by rw [ht]; exact hP, va_K.moved hW.alike hK, hD⟩, hS.F ht⟩) hS.2.2 dX2_collect_45
    · rw [if_neg h13] at hf
      by_cases h15 : q = 1
      · rw [if_pos h15] at hf
        subst h15
        refine va_aldq hx hb hK hP 1 1 rfl rfl (by unfold vp_in; decide) dX2_collect_36 ?_
        show W _ _ _ _ _ _ _ _ _ _ _ _ _ _ _ (F0 _ _ _ (.ref s1 :: _))
        refine lv_aload_n hx hb dX2_collect_37 rfl (lv_at hl 0 rfl) ?_
        refine va_get (D := (dC, dI)) (ci := 2) (v := .ref s3) (C := RX2) (T := TX2) (N := 6) hx hb hww tqinX2 hown hK hP 0 rfl rfl 3 (by decide) (hww _ tqt_97) (fun _ h9 => h9) rfl dX2_collect_38 ?_
        obtain ⟨f016, hu, hf⟩ := tq_bd_some hf
        have hPc := hP.sub (ws' := [(s1, .inr (1, [.int p0, .ref w1])), (w1, .inl (cL, N0, .inr (.inl f1))), (s3, .inr (1, [.int p0, .ref w3])), (w3, .inl (cL, N0, .inr (.inl f3)))]) [4, 5, 6, 7] rfl
        have hDc := hD.sub (ws' := [(s1, .inr (1, [.int p0, .ref w1])), (w1, .inl (cL, N0, .inr (.inl f1))), (s3, .inr (1, [.int p0, .ref w3])), (w3, .inl (cL, N0, .inr (.inl f3)))]) [4, 5, 6, 7] (by decide) rfl
        have hKc := hK.sub (tys' := [(cL, .long)]) [0] rfl
        have hFc := va_free (wc := [(s1, .inr (1, [.int p0, .ref w1])), (w1, .inl (cL, N0, .inr (.inl f1))), (s3, .inr (1, [.int p0, .ref w3])), (w3, .inl (cL, N0, .inr (.inl f3)))]) hD hS hA [4, 5, 6, 7] rfl
        refine va_callv (va_runV (As := [.ref s3]) (rest := []) ⟨hx, hb, hml, hown, hww⟩ (c_f_include l dC dI s1 s3 w1 w3 cL H.size p0 N0 f1 p0 N0 f3 f016 hu) (cwV 1 hww (tq_gV tqt_184 tqt_185 tqt_186 tqt_33 tqt_187) rfl rfl rfl (by decide +kernel) ⟨Nat.le_of_ble_eq_true rfl, Nat.le_of_ble_eq_true rfl⟩) ⟨fun a U g mk q => by obtain ⟨q0, q1, qP, qK, qD, qN⟩ := q; exact ⟨q0, q1, qP, va_K.moved (u := U) (U := U.calling g mk a) (Vm.Alike.refl U.vm) qK, qD, tqN_same (u := U) (U := U.calling g mk a) rfl qN⟩, va_recv hK hP (ci := 1) rfl (q0 := 4) rfl, fun U hU hW => ⟨rfl, by rw [hU], by rw [hU]; exact hPc, va_K.moved hW.alike hKc, hDc.weaken (fun _ _ _ _ => trivial), tqN_warm hW hN⟩⟩ rfl rfl hl.1 rfl (lv_room (Nat.le_of_ble_eq_true rfl)) dX2_collect_41 ⟨Nat.zero_le _, Nat.zero_le _⟩) hS (fun q _ h => hFc q h) hFc (fun u0 t H1 locs ht hvm hpost hB hz1 hk1 hS => ?_)
        obtain ⟨hP1, hK1, hD1⟩ := hB
        rw [ht] at hP1
        obtain ⟨hP, hD⟩ := va_join (wr := [(th, .inr (2, [.int size, .ref sa, .ref s2, .ref s3, .ref o0, .ref o1])), (sa, .inl (cA, 2, .inr (.inr (.inr (.inr (sref s0 s1)))))), (s0, .inr (1, [.int p0, .ref w0])), (w0, .inl (cL, N0, .inr (.inl f0))), (o0, .inr (0, [.int nt0, .int ng0, .long mg0, .int ex0])), (o1, .inr (0, [.int nt1, .int ng1, .long mg1, .int ex1]))]) (w1 := [(s1, .inr (1, [.int p0, .ref w1])), (w1, .inl (cL, N0, .inr (.inl f016))), (s3, .inr (1, [.int p0, .ref w3])), (w3, .inl (cL, N0, .inr (.inl f3)))]) hP hD [4, 5, 6, 7] [0, 1, 2, 3, 8, 9] rfl rfl (by decide) (by decide) hk1 hFc hP1 hD1
        generalize H1 = H at hP hS ⊢
        have hP := hP.sub (ws' := [(th, .inr (2, [.int size, .ref sa, .ref s2, .ref s3, .ref o0, .ref o1])), (sa, .inl (cA, 2, .inr (.inr (.inr (.inr (sref s0 s1)))))), (s0, .inr (1, [.int p0, .ref w0])), (w0, .inl (cL, N0, .inr (.inl f0))), (s1, .inr (1, [.int p0, .ref w1])), (w1, .inl (cL, N0, .inr (.inl f016))), (s3, .inr (1, [.int p0, .ref w3])), (w3, .inl (cL, N0, .inr (.inl f3))), (o0, .inr (0, [.int nt0, .int ng0, .long mg0, .int ex0])), (o1, .inr (0, [.int nt1, .int ng1, .long mg1, .int ex1]))]) [0, 1, 2, 3, 6, 7, 8, 9, 4, 5] rfl
        have hD := hD.sub (ws' := [(th, .inr (2, [.int size, .ref sa, .ref s2, .ref s3, .ref o0, .ref o1])), (sa, .inl (cA, 2, .inr (.inr (.inr (.inr (sref s0 s1)))))), (s0, .inr (1, [.int p0, .ref w0])), (w0, .inl (cL, N0, .inr (.inl f0))), (s1, .inr (1, [.int p0, .ref w1])), (w1, .inl (cL, N0, .inr (.inl f016))), (s3, .inr (1, [.int p0, .ref w3])), (w3, .inl (cL, N0, .inr (.inl f3))), (o0, .inr (0, [.int nt0, .int ng0, .long mg0, .int ex0])), (o1, .inr (0, [.int nt1, .int ng1, .long mg1, .int ex1]))]) [0, 1, 2, 3, 6, 7, 8, 9, 4, 5] (by decide) rfl
        refine lv_iconst (v := 1) hx hb dX2_collect_44 (by decide) ?_
        have hf := Option.some.inj hf
        subst hf
        exact W.zret (v := (1 : Int32)) hx hb hr (tq_nb_bool (by decide)) (fun t ht hW => ⟨⟨(1 : Int32), (), rfl, rfl, by rw [ht]; exact hP, va_K.moved hW.alike hK, hD⟩, hS.F ht⟩) hS.2.2 dX2_collect_45
      · rw [if_neg h15] at hf
        cases hf
  unfold f_collect at hf
  refine lv_iload_n hx hb dX2_collect_0 rfl (lv_at hl 1 rfl) ?_
  have hPc := hP.sub (ws' := []) [] rfl
  have hDc := hD.sub (ws' := []) [] (by decide) rfl
  have hKc := hK.sub (tys' := []) [] rfl
  have hFc := va_free (wc := []) hD hS hA [] rfl
  refine va_calli (va_runS (As := [.int q]) (rest := []) ⟨hx, hb, hml, hown, hww⟩ (c_f_isSum l dC dI s.heap.size q (f_isSum q) rfl) (va_cwS 1 hww (tq_gS tqt_290 tqt_291 tqt_32 tqt_292) rfl rfl rfl (by decide +kernel) ⟨Nat.le_of_ble_eq_true rfl, Nat.le_of_ble_eq_true rfl⟩) ⟨fun a U g mk q => by obtain ⟨q0, q1, qP, qK, qD, qN⟩ := q; exact ⟨q0, q1, qP, va_K.moved (u := U) (U := U.calling g mk a) (Vm.Alike.refl U.vm) qK, qD, tqN_same (u := U) (U := U.calling g mk a) rfl qN⟩, fun U hU hW => ⟨rfl, by rw [hU], by rw [hU]; exact hPc, va_K.moved hW.alike hKc, hDc.weaken (fun _ _ _ _ => trivial), tqN_warm hW hN⟩⟩ rfl rfl hl.1 rfl (lv_room (Nat.le_of_ble_eq_true rfl)) dX2_collect_1 ⟨Nat.zero_le _, Nat.zero_le _⟩) hS (fun q _ h => hFc q h) hFc (fun ra u0 t H1 locs ht hvm hpost hB hz1 hk1 hS => ?_)
  have hpost : (f_isSum q) = ra := (show ra = (f_isSum q) from hpost).symm
  subst hpost
  obtain ⟨hP1, hK1, hD1⟩ := hB
  rw [ht] at hP1
  obtain ⟨hP, hD⟩ := va_join (wr := [(th, .inr (2, [.int size, .ref sa, .ref s2, .ref s3, .ref o0, .ref o1])), (sa, .inl (cA, 2, .inr (.inr (.inr (.inr (sref s0 s1)))))), (s0, .inr (1, [.int p0, .ref w0])), (w0, .inl (cL, N0, .inr (.inl f0))), (s1, .inr (1, [.int p0, .ref w1])), (w1, .inl (cL, N0, .inr (.inl f1))), (s3, .inr (1, [.int p0, .ref w3])), (w3, .inl (cL, N0, .inr (.inl f3))), (o0, .inr (0, [.int nt0, .int ng0, .long mg0, .int ex0])), (o1, .inr (0, [.int nt1, .int ng1, .long mg1, .int ex1]))]) (w1 := []) hP hD [] [0, 1, 2, 3, 4, 5, 6, 7, 8, 9] rfl rfl (by decide) (by decide) hk1 hFc hP1 hD1
  generalize H1 = H at hP hS ⊢
  have hP := hP.sub (ws' := [(th, .inr (2, [.int size, .ref sa, .ref s2, .ref s3, .ref o0, .ref o1])), (sa, .inl (cA, 2, .inr (.inr (.inr (.inr (sref s0 s1)))))), (s0, .inr (1, [.int p0, .ref w0])), (w0, .inl (cL, N0, .inr (.inl f0))), (s1, .inr (1, [.int p0, .ref w1])), (w1, .inl (cL, N0, .inr (.inl f1))), (s3, .inr (1, [.int p0, .ref w3])), (w3, .inl (cL, N0, .inr (.inl f3))), (o0, .inr (0, [.int nt0, .int ng0, .long mg0, .int ex0])), (o1, .inr (0, [.int nt1, .int ng1, .long mg1, .int ex1]))]) [0, 1, 2, 3, 4, 5, 6, 7, 8, 9] rfl
  have hD := hD.sub (ws' := [(th, .inr (2, [.int size, .ref sa, .ref s2, .ref s3, .ref o0, .ref o1])), (sa, .inl (cA, 2, .inr (.inr (.inr (.inr (sref s0 s1)))))), (s0, .inr (1, [.int p0, .ref w0])), (w0, .inl (cL, N0, .inr (.inl f0))), (s1, .inr (1, [.int p0, .ref w1])), (w1, .inl (cL, N0, .inr (.inl f1))), (s3, .inr (1, [.int p0, .ref w3])), (w3, .inl (cL, N0, .inr (.inl f3))), (o0, .inr (0, [.int nt0, .int ng0, .long mg0, .int ex0])), (o1, .inr (0, [.int nt1, .int ng1, .long mg1, .int ex1]))]) [0, 1, 2, 3, 4, 5, 6, 7, 8, 9] (by decide) rfl
  refine lv_if_ne hx hb dX2_collect_4 rfl (fun h2 => ?_) (fun h2 => ?_)
  · rw [if_pos h2] at hf
    refine lv_aload_n hx hb dX2_collect_9 rfl (lv_at hl 0 rfl) ?_
    refine lv_aload_n hx hb dX2_collect_10 rfl (lv_at hl 0 rfl) ?_
    refine va_get (D := (dC, dI)) (ci := 2) (v := .ref s3) (C := RX2) (T := TX2) (N := 6) hx hb hww tqinX2 hown hK hP 0 rfl rfl 3 (by decide) (hww _ tqt_97) (fun _ h9 => h9) rfl dX2_collect_11 ?_
    refine lv_iload_n hx hb dX2_collect_14 rfl (lv_at hl 2 rfl) ?_
    refine lv_iload_n hx hb dX2_collect_15 rfl (lv_at hl 3 rfl) ?_
    obtain ⟨u, hu, hf⟩ := tq_bd_some hf
    obtain ⟨nt03, ng04, mg05, ex06, nt17, ng18, mg19, ex110, f11⟩ := u
    have hf := tq_nm_at (z := nt03) rfl hf
    have hf := tq_nm_at (z := ng04) rfl hf
    have hf := tq_nm_at (z := mg05) rfl hf
    have hf := tq_nm_at (z := ex06) rfl hf
    have hf := tq_nm_at (z := nt17) rfl hf
    have hf := tq_nm_at (z := ng18) rfl hf
    have hf := tq_nm_at (z := mg19) rfl hf
    have hf := tq_nm_at (z := ex110) rfl hf
    have hf := tq_nm_at (z := f11) rfl hf
    have hPc := hP.sub (ws' := [(th, .inr (2, [.int size, .ref sa, .ref s2, .ref s3, .ref o0, .ref o1])), (o0, .inr (0, [.int nt0, .int ng0, .long mg0, .int ex0])), (o1, .inr (0, [.int nt1, .int ng1, .long mg1, .int ex1])), (s3, .inr (1, [.int p0, .ref w3])), (w3, .inl (cL, N0, .inr (.inl f3)))]) [0, 8, 9, 6, 7] rfl
    have hDc := hD.sub (ws' := [(th, .inr (2, [.int size, .ref sa, .ref s2, .ref s3, .ref o0, .ref o1])), (o0, .inr (0, [.int nt0, .int ng0, .long mg0, .int ex0])), (o1, .inr (0, [.int nt1, .int ng1, .long mg1, .int ex1])), (s3, .inr (1, [.int p0, .ref w3])), (w3, .inl (cL, N0, .inr (.inl f3)))]) [0, 8, 9, 6, 7] (by decide) rfl
    have hKc := hK.sub (tys' := [(cL, .long)]) [0] rfl
    have hFc := va_free (wc := [(th, .inr (2, [.int size, .ref sa, .ref s2, .ref s3, .ref o0, .ref o1])), (o0, .inr (0, [.int nt0, .int ng0, .long mg0, .int ex0])), (o1, .inr (0, [.int nt1, .int ng1, .long mg1, .int ex1])), (s3, .inr (1, [.int p0, .ref w3])), (w3, .inl (cL, N0, .inr (.inl f3)))]) hD hS hA [0, 8, 9, 6, 7] rfl
    refine va_callv (va_runV (As := [.ref s3, .int x, .int y]) (rest := []) ⟨hx, hb, hml, hown, hww⟩ (c_f_setProduct l dC dI th s3 sa s2 s3 o0 o1 w3 cL H.size x y size nt0 ng0 mg0 ex0 nt1 ng1 mg1 ex1 p0 N0 f3 (nt03, ng04, mg05, ex06, nt17, ng18, mg19, ex110, f11) hu) (cwV 3 hww (tq_gV tqt_129 tqt_131 tqt_1 tqt_32 tqt_132) rfl rfl rfl (by decide +kernel) ⟨Nat.le_of_ble_eq_true rfl, Nat.le_of_ble_eq_true rfl⟩) ⟨fun a U g mk q => by obtain ⟨q0, q1, qP, qK, qD, qN⟩ := q; exact ⟨q0, q1, qP, va_K.moved (u := U) (U := U.calling g mk a) (Vm.Alike.refl U.vm) qK, qD, tqN_same (u := U) (U := U.calling g mk a) rfl qN⟩, va_recv hK hP (ci := 2) rfl (q0 := 0) rfl, fun U hU hW => ⟨rfl, by rw [hU], by rw [hU]; exact hPc, va_K.moved hW.alike hKc, hDc.weaken (fun _ _ _ _ => trivial), tqN_warm hW hN⟩⟩ rfl rfl hl.1 rfl (lv_room (Nat.le_of_ble_eq_true rfl)) dX2_collect_16 ⟨Nat.zero_le _, Nat.zero_le _⟩) hS (fun q _ h => hFc q h) hFc (fun u0 t H1 locs ht hvm hpost hB hz1 hk1 hS => ?_)
    obtain ⟨hP1, hK1, hD1⟩ := hB
    rw [ht] at hP1
    obtain ⟨hP, hD⟩ := va_join (wr := [(sa, .inl (cA, 2, .inr (.inr (.inr (.inr (sref s0 s1)))))), (s0, .inr (1, [.int p0, .ref w0])), (w0, .inl (cL, N0, .inr (.inl f0))), (s1, .inr (1, [.int p0, .ref w1])), (w1, .inl (cL, N0, .inr (.inl f1)))]) (w1 := [(th, .inr (2, [.int size, .ref sa, .ref s2, .ref s3, .ref o0, .ref o1])), (o0, .inr (0, [.int nt03, .int ng04, .long mg05, .int ex06])), (o1, .inr (0, [.int nt17, .int ng18, .long mg19, .int ex110])), (s3, .inr (1, [.int p0, .ref w3])), (w3, .inl (cL, N0, .inr (.inl f11)))]) hP hD [0, 8, 9, 6, 7] [1, 2, 3, 4, 5] rfl rfl (by decide) (by decide) hk1 hFc hP1 hD1
    generalize H1 = H at hP hS ⊢
    have hP := hP.sub (ws' := [(th, .inr (2, [.int size, .ref sa, .ref s2, .ref s3, .ref o0, .ref o1])), (sa, .inl (cA, 2, .inr (.inr (.inr (.inr (sref s0 s1)))))), (s0, .inr (1, [.int p0, .ref w0])), (w0, .inl (cL, N0, .inr (.inl f0))), (s1, .inr (1, [.int p0, .ref w1])), (w1, .inl (cL, N0, .inr (.inl f1))), (s3, .inr (1, [.int p0, .ref w3])), (w3, .inl (cL, N0, .inr (.inl f11))), (o0, .inr (0, [.int nt03, .int ng04, .long mg05, .int ex06])), (o1, .inr (0, [.int nt17, .int ng18, .long mg19, .int ex110]))]) [5, 0, 1, 2, 3, 4, 8, 9, 6, 7] rfl
    have hD := hD.sub (ws' := [(th, .inr (2, [.int size, .ref sa, .ref s2, .ref s3, .ref o0, .ref o1])), (sa, .inl (cA, 2, .inr (.inr (.inr (.inr (sref s0 s1)))))), (s0, .inr (1, [.int p0, .ref w0])), (w0, .inl (cL, N0, .inr (.inl f0))), (s1, .inr (1, [.int p0, .ref w1])), (w1, .inl (cL, N0, .inr (.inl f1))), (s3, .inr (1, [.int p0, .ref w3])), (w3, .inl (cL, N0, .inr (.inl f11))), (o0, .inr (0, [.int nt03, .int ng04, .long mg05, .int ex06])), (o1, .inr (0, [.int nt17, .int ng18, .long mg19, .int ex110]))]) [5, 0, 1, 2, 3, 4, 8, 9, 6, 7] (by decide) rfl
    refine lv_iload hx hb dX2_collect_19 (lv_at hl 4 rfl) ?_
    refine lv_if_eq hx hb dX2_collect_21 rfl (fun h12 => ?_) (fun h12 => ?_)
    · rw [if_pos h12] at hf
      exact B31 ls _ _ f0 f1 f11 nt03 ng04 mg05 ex06 nt17 ng18 mg19 ex110 hf (lv_sub hl [0, 1] rfl) hP hD hS
    · rw [if_neg h12] at hf
      refine lv_aload_n hx hb dX2_collect_24 rfl (lv_at hl 0 rfl) ?_
      refine va_get (D := (dC, dI)) (ci := 2) (v := .ref s3) (C := RX2) (T := TX2) (N := 6) hx hb hww tqinX2 hown hK hP 0 rfl rfl 3 (by decide) (hww _ tqt_97) (fun _ h9 => h9) rfl dX2_collect_25 ?_
      obtain ⟨f017, hu, hf⟩ := tq_bd_some hf
      have hPc := hP.sub (ws' := [(s3, .inr (1, [.int p0, .ref w3])), (w3, .inl (cL, N0, .inr (.inl f11)))]) [6, 7] rfl
      have hDc := hD.sub (ws' := [(s3, .inr (1, [.int p0, .ref w3])), (w3, .inl (cL, N0, .inr (.inl f11)))]) [6, 7] (by decide) rfl
      have hKc := hK.sub (tys' := [(cL, .long)]) [0] rfl
      have hFc := va_free (wc := [(s3, .inr (1, [.int p0, .ref w3])), (w3, .inl (cL, N0, .inr (.inl f11)))]) hD hS hA [6, 7] rfl
      refine va_callv (va_runV (As := []) (rest := []) ⟨hx, hb, hml, hown, hww⟩ (c_f_flip l dC dI s3 w3 cL H.size p0 N0 f11 f017 hu) (cwV 0 hww (tq_gV tqt_213 tqt_180 tqt_181 tqt_33 tqt_182) rfl rfl rfl (by decide +kernel) ⟨Nat.le_of_ble_eq_true rfl, Nat.le_of_ble_eq_true rfl⟩) ⟨fun a U g mk q => by obtain ⟨q0, q1, qP, qK, qD, qN⟩ := q; exact ⟨q0, q1, qP, va_K.moved (u := U) (U := U.calling g mk a) (Vm.Alike.refl U.vm) qK, qD, tqN_same (u := U) (U := U.calling g mk a) rfl qN⟩, va_recv hK hP (ci := 1) rfl (q0 := 6) rfl, fun U hU hW => ⟨rfl, by rw [hU], by rw [hU]; exact hPc, va_K.moved hW.alike hKc, hDc.weaken (fun _ _ _ _ => trivial), tqN_warm hW hN⟩⟩ rfl rfl hl.1 rfl (lv_room (Nat.le_of_ble_eq_true rfl)) dX2_collect_28 ⟨Nat.zero_le _, Nat.zero_le _⟩) hS (fun q _ h => hFc q h) hFc (fun u0 t H1 locs ht hvm hpost hB hz1 hk1 hS => ?_)
      obtain ⟨hP1, hK1, hD1⟩ := hB
      rw [ht] at hP1
      obtain ⟨hP, hD⟩ := va_join (wr := [(th, .inr (2, [.int size, .ref sa, .ref s2, .ref s3, .ref o0, .ref o1])), (sa, .inl (cA, 2, .inr (.inr (.inr (.inr (sref s0 s1)))))), (s0, .inr (1, [.int p0, .ref w0])), (w0, .inl (cL, N0, .inr (.inl f0))), (s1, .inr (1, [.int p0, .ref w1])), (w1, .inl (cL, N0, .inr (.inl f1))), (o0, .inr (0, [.int nt03, .int ng04, .long mg05, .int ex06])), (o1, .inr (0, [.int nt17, .int ng18, .long mg19, .int ex110]))]) (w1 := [(s3, .inr (1, [.int p0, .ref w3])), (w3, .inl (cL, N0, .inr (.inl f017)))]) hP hD [6, 7] [0, 1, 2, 3, 4, 5, 8, 9] rfl rfl (by decide) (by decide) hk1 hFc hP1 hD1
      generalize H1 = H at hP hS ⊢
      have hP := hP.sub (ws' := [(th, .inr (2, [.int size, .ref sa, .ref s2, .ref s3, .ref o0, .ref o1])), (sa, .inl (cA, 2, .inr (.inr (.inr (.inr (sref s0 s1)))))), (s0, .inr (1, [.int p0, .ref w0])), (w0, .inl (cL, N0, .inr (.inl f0))), (s1, .inr (1, [.int p0, .ref w1])), (w1, .inl (cL, N0, .inr (.inl f1))), (s3, .inr (1, [.int p0, .ref w3])), (w3, .inl (cL, N0, .inr (.inl f017))), (o0, .inr (0, [.int nt03, .int ng04, .long mg05, .int ex06])), (o1, .inr (0, [.int nt17, .int ng18, .long mg19, .int ex110]))]) [0, 1, 2, 3, 4, 5, 8, 9, 6, 7] rfl
      have hD := hD.sub (ws' := [(th, .inr (2, [.int size, .ref sa, .ref s2, .ref s3, .ref o0, .ref o1])), (sa, .inl (cA, 2, .inr (.inr (.inr (.inr (sref s0 s1)))))), (s0, .inr (1, [.int p0, .ref w0])), (w0, .inl (cL, N0, .inr (.inl f0))), (s1, .inr (1, [.int p0, .ref w1])), (w1, .inl (cL, N0, .inr (.inl f1))), (s3, .inr (1, [.int p0, .ref w3])), (w3, .inl (cL, N0, .inr (.inl f017))), (o0, .inr (0, [.int nt03, .int ng04, .long mg05, .int ex06])), (o1, .inr (0, [.int nt17, .int ng18, .long mg19, .int ex110]))]) [0, 1, 2, 3, 4, 5, 8, 9, 6, 7] (by decide) rfl
      exact B31 ls _ _ f0 f1 f017 nt03 ng04 mg05 ex06 nt17 ng18 mg19 ex110 hf (lv_sub hl [0, 1] rfl) hP hD hS
  · rw [if_neg (fun q : ¬ (f_isSum q) = 0 => q h2)] at hf
    refine lv_iconst (v := 0) hx hb dX2_collect_7 (by decide) ?_
    have hf := Option.some.inj hf
    subst hf
    exact W.zret (v := (0 : Int32)) hx hb hr (tq_nb_bool (by decide)) (fun t ht hW => ⟨⟨(0 : Int32), (), rfl, rfl, by rw [ht]; exact hP, va_K.moved hW.alike hK, hD⟩, hS.F ht⟩) hS.2.2 dX2_collect_8
