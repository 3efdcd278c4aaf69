set_option maxHeartbeats 4000000 in
set_option maxRecDepth 100000 in
theorem c_m_times (l : Launch) (dC : Nat → ClassId) (dI : Nat → Nat → Nat) (mo : Nat) (la : Nat) (sa : Nat) (cI : ClassId) (sz : Nat) (ga : Int32) (gb : Int32) (gt : Int32) (nz : Int32) (sq : Int32) (lf : Nat → Int32) (r : (Nat → Int32)) (hf : m_times lf ga gb gt = some r) : Met l yM_times tqw_M_times ({ frames := 1, cells := 0, slots := 0, locals := 22 }) (va_Pc [.ref mo, .int ga, .int gb, .int gt] (fun U => U.heap.size = sz ∧ va_P (dC, dI) tqCl [(mo, .inr (3, [.int nz, .ref la, .int sq, .ref sa])), (la, .inl (cI, 200, .inl lf))] U.heap ∧ va_K (dC, dI) tqCl [(cI, .int)] U ∧ va_D (fun _ => True) [(mo, .inr (3, [.int nz, .ref la, .int sq, .ref sa])), (la, .inl (cI, 200, .inl lf))] ∧ tqN U)) (va_Qv (fun (_ : Unit) => True) (fun (_ : Unit) (t : State) => va_P (dC, dI) tqCl [(mo, .inr (3, [.int nz, .ref la, .int sq, .ref sa])), (la, .inl (cI, 200, .inl r))] t.heap ∧ va_K (dC, dI) tqCl [(cI, .int)] t ∧ va_D (va_A [(mo, .inr (3, [.int nz, .ref la, .int sq, .ref sa])), (la, .inl (cI, 200, .inl lf))] sz) [(mo, .inr (3, [.int nz, .ref la, .int sq, .ref sa])), (la, .inl (cI, 200, .inl r))]) (va_A [(mo, .inr (3, [.int nz, .ref la, .int sq, .ref sa])), (la, .inl (cI, 200, .inl lf))] sz)) 0 0 (va_A [(mo, .inr (3, [.int nz, .ref la, .int sq, .ref sa])), (la, .inl (cI, 200, .inl lf))] sz) := by
  refine Met.ofW (cc := cM_times) (maxL := 12) (ret := none) (by decide) rfl ?_
  intro p e s m args below meth c s₁ B hml hv
  obtain ⟨rfl, hsz, hP, hK, hD0, hN⟩ := hv
  have hx := B.exec
  have hb := B.bytes
  have hr := B.returns
  have hts := atoms_spec (ws := tqw_M_times) B.pre
  have hww : ∀ w ∈ tqW, w.before _ s = true := fun w h => hts w (List.mem_cons_of_mem _ h)
  have hown : s.vm.findClass RM = some m.cls := findClass_of_methodNamed B.named
  have hlocks := B.notSynchronized
  subst hsz
  have hD := hD0.self (sz := s.heap.size)
  generalize hAe : va_A [(mo, .inr (3, [.int nz, .ref la, .int sq, .ref sa])), (la, .inl (cI, 200, .inl lf))] s.heap.size = A at hD ⊢
  have hA : ∀ q : Nat, s.heap.size ≤ q → A q := fun q h => by rw [← hAe]; exact Or.inr h
  have hS : va_S A s.heap s.heap [] := va_S.rf
  have hP : va_P (dC, dI) tqCl [(mo, .inr (3, [.int nz, .ref la, .int sq, .ref sa])), (la, .inl (cI, 200, .inl lf))] s.heap := hP
  have hl := lv_entry ([.ref mo, .int ga, .int gb, .int gt]) (n := 12) (Nat.le_of_ble_eq_true rfl)
  rw [lg_entry_eq]
  generalize (lg_sl ([.ref mo, .int ga, .int gb, .int gt]) ++ List.replicate (12 - (lg_sl ([.ref mo, .int ga, .int gb, .int gt])).length) Slot.unset).toArray = ls at hl ⊢
  have hl : lv_has ls 12 [(0, .ref mo), (1, .int ga), (2, .int gb), (3, .int gt)] := hl
  have B8 : ∀ (n8 : Nat) (ls : Array Slot) (H : Heap) (locs : List Loc) (v4 : Int32) (lf : Nat → Int32), m_times_b8 ga gb gt n8 v4 lf = some r → lv_has ls 12 [(0, .ref mo), (1, .int ga), (2, .int gb), (3, .int gt), (4, .int v4)] → va_P (dC, dI) tqCl [(mo, .inr (3, [.int nz, .ref la, .int sq, .ref sa])), (la, .inl (cI, 200, .inl lf))] H → va_D A [(mo, .inr (3, [.int nz, .ref la, .int sq, .ref sa])), (la, .inl (cI, 200, .inl lf))] → va_S A s.heap H locs → W p l e ({ frames := 1, cells := 0, slots := 0, locals := 22 }) s m ([.ref mo, .int ga, .int gb, .int gt] : List Value).toArray below meth c H locs 0 0 (MQ below (va_Qv (fun (_ : Unit) => True) (fun (_ : Unit) (t : State) => va_P (dC, dI) tqCl [(mo, .inr (3, [.int nz, .ref la, .int sq, .ref sa])), (la, .inl (cI, 200, .inl r))] t.heap ∧ va_K (dC, dI) tqCl [(cI, .int)] t ∧ va_D (A) [(mo, .inr (3, [.int nz, .ref la, .int sq, .ref sa])), (la, .inl (cI, 200, .inl r))]) (A)) ([.ref mo, .int ga, .int gb, .int gt] : List Value).toArray s 0 0 A) (F0 m 8 ls []) := by
    try clear hf
    intro n8
    induction n8 with
    | zero =>
      intro ls H locs v4 lf hf hl hP hD hS
      have hf : (none : Option ((Nat → Int32))) = some r := hf
      cases hf
    | succ n8 ih8 =>
      have B36 : ∀ (n36 : Nat) (ls : Array Slot) (H : Heap) (locs : List Loc) (v4 : Int32) (v5 : Int64) (v7 : Int64) (v9 : Int32) (lf : Nat → Int32), m_times_b36 gb gt (m_times_b8 ga gb gt n8) n36 v4 v5 v7 v9 lf = some r → lv_has ls 12 [(0, .ref mo), (1, .int ga), (2, .int gb), (3, .int gt), (4, .int v4), (5, .long v5), (7, .long v7), (9, .int v9)] → va_P (dC, dI) tqCl [(mo, .inr (3, [.int nz, .ref la, .int sq, .ref sa])), (la, .inl (cI, 200, .inl lf))] H → va_D A [(mo, .inr (3, [.int nz, .ref la, .int sq, .ref sa])), (la, .inl (cI, 200, .inl lf))] → va_S A s.heap H locs → W p l e ({ frames := 1, cells := 0, slots := 0, locals := 22 }) s m ([.ref mo, .int ga, .int gb, .int gt] : List Value).toArray below meth c H locs 0 0 (MQ below (va_Qv (fun (_ : Unit) => True) (fun (_ : Unit) (t : State) => va_P (dC, dI) tqCl [(mo, .inr (3, [.int nz, .ref la, .int sq, .ref sa])), (la, .inl (cI, 200, .inl r))] t.heap ∧ va_K (dC, dI) tqCl [(cI, .int)] t ∧ va_D (A) [(mo, .inr (3, [.int nz, .ref la, .int sq, .ref sa])), (la, .inl (cI, 200, .inl r))]) (A)) ([.ref mo, .int ga, .int gb, .int gt] : List Value).toArray s 0 0 A) (F0 m 36 ls []) := by
        try clear hf
        intro n36
        induction n36 with
        | zero =>
          intro ls H locs v4 v5 v7 v9 lf hf hl hP hD hS
          have hf : (none : Option ((Nat → Int32))) = some r := hf
          cases hf
        | succ n36 ih36 =>
          intro ls H locs v4 v5 v7 v9 lf hf hl hP hD hS
          unfold m_times_b36 at hf
          refine lv_iload hx hb dM_times_36 (lv_at hl 7 rfl) ?_
          refine lv_bipush (v := 40) hx hb dM_times_38 (by decide) ?_
          refine lv_iload hx hb dM_times_40 (lv_at hl 4 rfl) ?_
          refine lv_isub hx hb dM_times_42 ?_
          refine lv_icmp_ge hx hb dM_times_43 rfl (fun h5 => ?_) (fun h5 => ?_)
          · rw [if_pos h5] at hf
            refine lv_iinc (v := v4 + (1 : Int32)) (lv' := [(4, .int (v4 + (1 : Int32))), (0, .ref mo), (1, .int ga), (2, .int gb), (3, .int gt), (5, .long v5), (7, .long v7), (9, .int v9)]) hx hb dM_times_126 hl (k := 4) rfl rfl (by decide) rfl (fun ls hl => ?_)
            refine lv_goto hx hb dM_times_129 rfl ?_
            exact ih8 ls _ _ (v4 + (1 : Int32)) lf hf (lv_sub hl [1, 2, 3, 4, 0] rfl) hP hD hS
          · rw [if_neg h5] at hf
            refine lv_lload hx hb dM_times_46 (lv_at hl 5 rfl) ?_
            refine lv_lconst (v := 0) hx hb dM_times_48 (by decide) ?_
            refine W.lcmp hx hb dM_times_49 ?_
            refine lv_if_eq hx hb dM_times_50 rfl (fun h6 => ?_) (fun h6 => ?_)
            · rw [if_pos h6] at hf
              refine lv_iinc (v := v4 + (1 : Int32)) (lv' := [(4, .int (v4 + (1 : Int32))), (0, .ref mo), (1, .int ga), (2, .int gb), (3, .int gt), (5, .long v5), (7, .long v7), (9, .int v9)]) hx hb dM_times_126 hl (k := 4) rfl rfl (by decide) rfl (fun ls hl => ?_)
              refine lv_goto hx hb dM_times_129 rfl ?_
              exact ih8 ls _ _ (v4 + (1 : Int32)) lf hf (lv_sub hl [1, 2, 3, 4, 0] rfl) hP hD hS
            · rw [if_neg h6] at hf
              refine lv_lload hx hb dM_times_53 (lv_at hl 5 rfl) ?_
              refine lv_aload_n hx hb dM_times_55 rfl (lv_at hl 0 rfl) ?_
              refine va_get (D := (dC, dI)) (ci := 3) (v := .ref la) (C := RM) (T := TM) (N := 4) hx hb hww tqinM hown hK hP 0 rfl rfl 1 (by decide) (hww _ tqt_331) (fun _ h9 => h9) rfl dM_times_56 ?_
              refine lv_bipush (v := 40) hx hb dM_times_59 (by decide) ?_
              refine lv_iload_n hx hb dM_times_61 rfl (lv_at hl 2 rfl) ?_
              refine lv_imul hx hb dM_times_62 ?_
              refine lv_iload hx hb dM_times_63 (lv_at hl 7 rfl) ?_
              refine lv_iadd hx hb dM_times_65 ?_
              by_cases h7 : ((((40 : Int32) * gb) + v9) < 0 ∨ 200 ≤ (((40 : Int32) * gb) + v9).toNatClampNeg)
              · rw [if_pos h7] at hf
                cases hf
              · rw [if_neg h7] at hf
                refine va_iald hx hb hK hP 1 0 rfl rfl h7 dM_times_66 ?_
                refine lv_i2l hx hb dM_times_67 rfl ?_
                refine lv_lmul hx hb dM_times_68 ?_
                refine lv_aload_n hx hb dM_times_69 rfl (lv_at hl 0 rfl) ?_
                refine va_get (D := (dC, dI)) (ci := 3) (v := .ref la) (C := RM) (T := TM) (N := 4) hx hb hww tqinM hown hK hP 0 rfl rfl 1 (by decide) (hww _ tqt_331) (fun _ h9 => h9) rfl dM_times_70 ?_
                refine lv_bipush (v := 40) hx hb dM_times_73 (by decide) ?_
                refine lv_iload_n hx hb dM_times_75 rfl (lv_at hl 3 rfl) ?_
                refine lv_imul hx hb dM_times_76 ?_
                refine lv_iload hx hb dM_times_77 (lv_at hl 4 rfl) ?_
                refine lv_iadd hx hb dM_times_79 ?_
                refine lv_iload hx hb dM_times_80 (lv_at hl 7 rfl) ?_
                refine lv_iadd hx hb dM_times_82 ?_
                by_cases h8 : (((((40 : Int32) * gt) + v4) + v9) < 0 ∨ 200 ≤ ((((40 : Int32) * gt) + v4) + v9).toNatClampNeg)
                · rw [if_pos h8] at hf
                  cases hf
                · rw [if_neg h8] at hf
                  refine va_iald hx hb hK hP 1 0 rfl rfl h8 dM_times_83 ?_
                  refine lv_i2l hx hb dM_times_84 rfl ?_
                  refine lv_ladd hx hb dM_times_85 ?_
                  refine lv_lload hx hb dM_times_86 (lv_at hl 6 rfl) ?_
                  refine lv_ladd hx hb dM_times_88 ?_
                  refine lv_topl (fun x9 e9 => ?_)
                  have hf := tq_nm_at e9 hf
                  refine lv_lstore (lv' := [(10, .long x9), (0, .ref mo), (1, .int ga), (2, .int gb), (3, .int gt), (4, .int v4), (5, .long v5), (7, .long v7), (9, .int v9)]) hx hb dM_times_89 hl (by decide) rfl (fun ls hl => ?_)
                  refine lv_aload_n hx hb dM_times_91 rfl (lv_at hl 1 rfl) ?_
                  refine va_get (D := (dC, dI)) (ci := 3) (v := .ref la) (C := RM) (T := TM) (N := 4) hx hb hww tqinM hown hK hP 0 rfl rfl 1 (by decide) (hww _ tqt_331) (fun _ h9 => h9) rfl dM_times_92 ?_
                  refine lv_bipush (v := 40) hx hb dM_times_95 (by decide) ?_
                  refine lv_iload_n hx hb dM_times_97 rfl (lv_at hl 4 rfl) ?_
                  refine lv_imul hx hb dM_times_98 ?_
                  refine lv_iload hx hb dM_times_99 (lv_at hl 5 rfl) ?_
                  refine lv_iadd hx hb dM_times_101 ?_
                  refine lv_iload hx hb dM_times_102 (lv_at hl 8 rfl) ?_
                  refine lv_iadd hx hb dM_times_104 ?_
                  refine lv_lload hx hb dM_times_105 (lv_at hl 0 rfl) ?_
                  refine lv_ldc2 (v := 65535) hx hb hown (hww _ tqt_383) dM_times_107 ?_
                  refine lv_land hx hb dM_times_110 ?_
                  refine lv_l2i hx hb dM_times_111 rfl ?_
                  by_cases h10 : (((((40 : Int32) * gt) + v4) + v9) < 0 ∨ 200 ≤ ((((40 : Int32) * gt) + v4) + v9).toNatClampNeg)
                  · rw [if_pos h10] at hf
                    cases hf
                  · rw [if_neg h10] at hf
                    refine va_iast hx hb hK hP hD hS 1 0 rfl rfl h10 dM_times_112 (fun H locs hP hD hS => ?_)
                    have hP : va_P (dC, dI) tqCl [(mo, .inr (3, [.int nz, .ref la, .int sq, .ref sa])), (la, .inl (cI, 200, .inl (upd lf ((((40 : Int32) * gt) + v4) + v9).toNatClampNeg ((x9 &&& (65535 : Int64)).toInt32))))] H := hP
                    have hD : va_D A [(mo, .inr (3, [.int nz, .ref la, .int sq, .ref sa])), (la, .inl (cI, 200, .inl (upd lf ((((40 : Int32) * gt) + v4) + v9).toNatClampNeg ((x9 &&& (65535 : Int64)).toInt32))))] := hD
                    refine lv_lload hx hb dM_times_113 (lv_at hl 0 rfl) ?_
                    refine lv_bipush (v := 16) hx hb dM_times_115 (by decide) ?_
                    refine lv_lshr hx hb dM_times_117 rfl ?_
                    refine lv_topl (fun x11 e11 => ?_)
                    have hf := tq_nm_at e11 hf
                    refine lv_lstore (lv' := [(7, .long x11), (10, .long x9), (0, .ref mo), (1, .int ga), (2, .int gb), (3, .int gt), (4, .int v4), (5, .long v5), (9, .int v9)]) hx hb dM_times_118 hl (by decide) rfl (fun ls hl => ?_)
                    refine lv_iinc (v := v9 + (1 : Int32)) (lv' := [(9, .int (v9 + (1 : Int32))), (7, .long x11), (10, .long x9), (0, .ref mo), (1, .int ga), (2, .int gb), (3, .int gt), (4, .int v4), (5, .long v5)]) hx hb dM_times_120 hl (k := 8) rfl rfl (by decide) rfl (fun ls hl => ?_)
                    refine lv_goto hx hb dM_times_123 rfl ?_
                    exact ih36 ls _ _ v4 v5 x11 (v9 + (1 : Int32)) (upd lf ((((40 : Int32) * gt) + v4) + v9).toNatClampNeg ((x9 &&& (65535 : Int64)).toInt32)) hf (lv_sub hl [3, 4, 5, 6, 7, 8, 1, 0] rfl) hP hD hS
      intro ls H locs v4 lf hf hl hP hD hS
      unfold m_times_b8 at hf
      refine lv_iload hx hb dM_times_8 (lv_at hl 4 rfl) ?_
      refine lv_bipush (v := 40) hx hb dM_times_10 (by decide) ?_
      refine lv_icmp_ge hx hb dM_times_12 rfl (fun h2 => ?_) (fun h2 => ?_)
      · rw [if_pos h2] at hf
        have hf := Option.some.inj hf
        subst hf
        exact W.vret hx hb hr (fun t ht hW => ⟨⟨(), rfl, trivial, by rw [ht]; exact hP, va_K.moved hW.alike hK, hD⟩, hS.F ht⟩) hS.2.2 dM_times_132
      · rw [if_neg h2] at hf
        refine lv_aload_n hx hb dM_times_15 rfl (lv_at hl 0 rfl) ?_
        refine va_get (D := (dC, dI)) (ci := 3) (v := .ref la) (C := RM) (T := TM) (N := 4) hx hb hww tqinM hown hK hP 0 rfl rfl 1 (by decide) (hww _ tqt_331) (fun _ h9 => h9) rfl dM_times_16 ?_
        refine lv_bipush (v := 40) hx hb dM_times_19 (by decide) ?_
        refine lv_iload_n hx hb dM_times_21 rfl (lv_at hl 1 rfl) ?_
        refine lv_imul hx hb dM_times_22 ?_
        refine lv_iload hx hb dM_times_23 (lv_at hl 4 rfl) ?_
        refine lv_iadd hx hb dM_times_25 ?_
        by_cases h3 : ((((40 : Int32) * ga) + v4) < 0 ∨ 200 ≤ (((40 : Int32) * ga) + v4).toNatClampNeg)
        · rw [if_pos h3] at hf
          cases hf
        · rw [if_neg h3] at hf
          refine va_iald hx hb hK hP 1 0 rfl rfl h3 dM_times_26 ?_
          refine lv_i2l hx hb dM_times_27 rfl ?_
          refine lv_topl (fun x4 e4 => ?_)
          have hf := tq_nm_at e4 hf
          refine lv_lstore (lv' := [(5, .long x4), (0, .ref mo), (1, .int ga), (2, .int gb), (3, .int gt), (4, .int v4)]) hx hb dM_times_28 hl (by decide) rfl (fun ls hl => ?_)
          refine lv_lconst (v := 0) hx hb dM_times_30 (by decide) ?_
          refine lv_lstore (lv' := [(7, .long (0 : Int64)), (5, .long x4), (0, .ref mo), (1, .int ga), (2, .int gb), (3, .int gt), (4, .int v4)]) hx hb dM_times_31 hl (by decide) rfl (fun ls hl => ?_)
          refine lv_iconst (v := 0) hx hb dM_times_33 (by decide) ?_
          refine lv_istore (lv' := [(9, .int (0 : Int32)), (7, .long (0 : Int64)), (5, .long x4), (0, .ref mo), (1, .int ga), (2, .int gb), (3, .int gt), (4, .int v4)]) hx hb dM_times_34 hl (by decide) rfl (fun ls hl => ?_)
          exact B36 41 ls _ _ v4 x4 (0 : Int64) (0 : Int32) lf hf (lv_sub hl [3, 4, 5, 6, 7, 2, 1, 0] rfl) hP hD hS
  unfold m_times at hf
  refine lv_aload_n hx hb dM_times_0 rfl (lv_at hl 0 rfl) ?_
  refine lv_iload_n hx hb dM_times_1 rfl (lv_at hl 3 rfl) ?_
  obtain ⟨lf1, hu, hf⟩ := tq_bd_some hf
  have hPc := hP.sub (ws' := [(mo, .inr (3, [.int nz, .ref la, .int sq, .ref sa])), (la, .inl (cI, 200, .inl lf))]) [0, 1] rfl
  have hDc := hD.sub (ws' := [(mo, .inr (3, [.int nz, .ref la, .int sq, .ref sa])), (la, .inl (cI, 200, .inl lf))]) [0, 1] (by decide) rfl
  have hKc := hK.sub (tys' := [(cI, .int)]) [0] rfl
  have hFc := va_free (wc := [(mo, .inr (3, [.int nz, .ref la, .int sq, .ref sa])), (la, .inl (cI, 200, .inl lf))]) hD hS hA [0, 1] rfl
  refine va_callv (va_runV (As := [.int gt]) (rest := []) ⟨hx, hb, hml, hown, hww⟩ (c_m_zero l dC dI mo la sa cI s.heap.size gt nz sq lf lf1 hu) (cwV 1 hww (tq_gV tqt_371 tqt_373 tqt_9 tqt_35 tqt_374) rfl rfl rfl (by decide +kernel) ⟨Nat.le_of_ble_eq_true rfl, Nat.le_of_ble_eq_true rfl⟩) ⟨fun a U g mk q => by obtain ⟨q0, q1, qP, qK, qD, qN⟩ := q; exact ⟨q0, q1, qP, va_K.moved (u := U) (U := U.calling g mk a) (Vm.Alike.refl U.vm) qK, qD, tqN_same (u := U) (U := U.calling g mk a) rfl qN⟩, va_recv hK hP (ci := 3) rfl (q0 := 0) rfl, fun U hU hW => ⟨rfl, by rw [hU], by rw [hU]; exact hPc, va_K.moved hW.alike hKc, hDc.weaken (fun _ _ _ _ => trivial), tqN_warm hW hN⟩⟩ rfl rfl hl.1 rfl (lv_room (Nat.le_of_ble_eq_true rfl)) dM_times_2 ⟨Nat.zero_le _, Nat.zero_le _⟩) hS (fun q _ h => hFc q h) hFc (fun u0 t H1 locs ht hvm hpost hB hz1 hk1 hS => ?_)
  obtain ⟨hP1, hK1, hD1⟩ := hB
  rw [ht] at hP1
  obtain ⟨hP, hD⟩ := va_join (wr := []) (w1 := [(mo, .inr (3, [.int nz, .ref la, .int sq, .ref sa])), (la, .inl (cI, 200, .inl lf1))]) hP hD [0, 1] [] rfl rfl (by decide) (by decide) hk1 hFc hP1 hD1
  generalize H1 = H at hP hS ⊢
  have hP := hP.sub (ws' := [(mo, .inr (3, [.int nz, .ref la, .int sq, .ref sa])), (la, .inl (cI, 200, .inl lf1))]) [0, 1] rfl
  have hD := hD.sub (ws' := [(mo, .inr (3, [.int nz, .ref la, .int sq, .ref sa])), (la, .inl (cI, 200, .inl lf1))]) [0, 1] (by decide) rfl
  refine lv_iconst (v := 0) hx hb dM_times_5 (by decide) ?_
  refine lv_istore (lv' := [(4, .int (0 : Int32)), (0, .ref mo), (1, .int ga), (2, .int gb), (3, .int gt)]) hx hb dM_times_6 hl (by decide) rfl (fun ls hl => ?_)
  exact B8 41 ls _ _ (0 : Int32) lf1 hf (lv_sub hl [1, 2, 3, 4, 0] rfl) hP hD hS
set_option maxHeartbeats 4000000 in
set_option maxRecDepth 100000 in
theorem c_m_raise (l : Launch) (dC : Nat → ClassId) (dI : Nat → Nat → Nat) (mo : Nat) (la : Nat) (sa : Nat) (cI : ClassId) (sz : Nat) (rg : Int32) (my : Int32) (nz : Int32) (sq : Int32) (lf : Nat → Int32) (r : (Nat → Int32)) (hf : m_raise lf rg my = some r) : Met l yM_raise tqw_M_raise ({ frames := 0, cells := 0, slots := 0, locals := 0 }) (va_Pc [.ref mo, .int rg, .int my] (fun U => U.heap.size = sz ∧ va_P (dC, dI) tqCl [(mo, .inr (3, [.int nz, .ref la, .int sq, .ref sa])), (la, .inl (cI, 200, .inl lf))] U.heap ∧ va_K (dC, dI) tqCl [(cI, .int)] U ∧ va_D (fun _ => True) [(mo, .inr (3, [.int nz, .ref la, .int sq, .ref sa])), (la, .inl (cI, 200, .inl lf))] ∧ tqN U)) (va_Qv (fun (_ : Unit) => True) (fun (_ : Unit) (t : State) => va_P (dC, dI) tqCl [(mo, .inr (3, [.int nz, .ref la, .int sq, .ref sa])), (la, .inl (cI, 200, .inl r))] t.heap ∧ va_K (dC, dI) tqCl [(cI, .int)] t ∧ va_D (va_A [(mo, .inr (3, [.int nz, .ref la, .int sq, .ref sa])), (la, .inl (cI, 200, .inl lf))] sz) [(mo, .inr (3, [.int nz, .ref la, .int sq, .ref sa])), (la, .inl (cI, 200, .inl r))]) (va_A [(mo, .inr (3, [.int nz, .ref la, .int sq, .ref sa])), (la, .inl (cI, 200, .inl lf))] sz)) 0 0 (va_A [(mo, .inr (3, [.int nz, .ref la, .int sq, .ref sa])), (la, .inl (cI, 200, .inl lf))] sz) := by
  refine Met.ofW (cc := cM_raise) (maxL := 8) (ret := none) (by decide) rfl ?_
  intro p e s m args below meth c s₁ B hml hv
  obtain ⟨rfl, hsz, hP, hK, hD0, hN⟩ := hv
  have hx := B.exec
  have hb := B.bytes
  have hr := B.returns
  have hts := atoms_spec (ws := tqw_M_raise) B.pre
  have hww : ∀ w ∈ tqW, w.before _ s = true := fun w h => hts w (List.mem_cons_of_mem _ h)
  have hown : s.vm.findClass RM = some m.cls := findClass_of_methodNamed B.named
  have hlocks := B.notSynchronized
  subst hsz
  have hD := hD0.self (sz := s.heap.size)
  generalize hAe : va_A [(mo, .inr (3, [.int nz, .ref la, .int sq, .ref sa])), (la, .inl (cI, 200, .inl lf))] s.heap.size = A at hD ⊢
  have hA : ∀ q : Nat, s.heap.size ≤ q → A q := fun q h => by rw [← hAe]; exact Or.inr h
  have hS : va_S A s.heap s.heap [] := va_S.rf
  have hP : va_P (dC, dI) tqCl [(mo, .inr (3, [.int nz, .ref la, .int sq, .ref sa])), (la, .inl (cI, 200, .inl lf))] s.heap := hP
  have hl := lv_entry ([.ref mo, .int rg, .int my]) (n := 8) (Nat.le_of_ble_eq_true rfl)
  rw [lg_entry_eq]
  generalize (lg_sl ([.ref mo, .int rg, .int my]) ++ List.replicate (8 - (lg_sl ([.ref mo, .int rg, .int my])).length) Slot.unset).toArray = ls at hl ⊢
  have hl : lv_has ls 8 [(0, .ref mo), (1, .int rg), (2, .int my)] := hl
  have B15 : ∀ (n15 : Nat) (ls : Array Slot) (H : Heap) (locs : List Loc) (v3 : Int32) (v4 : Int32) (v5 : Int32) (lf : Nat → Int32), m_raise_b15 rg n15 v3 v4 v5 lf = some r → lv_has ls 8 [(0, .ref mo), (1, .int rg), (3, .int v3), (4, .int v4), (5, .int v5)] → va_P (dC, dI) tqCl [(mo, .inr (3, [.int nz, .ref la, .int sq, .ref sa])), (la, .inl (cI, 200, .inl lf))] H → va_D A [(mo, .inr (3, [.int nz, .ref la, .int sq, .ref sa])), (la, .inl (cI, 200, .inl lf))] → va_S A s.heap H locs → W p l e ({ frames := 0, cells := 0, slots := 0, locals := 0 }) s m ([.ref mo, .int rg, .int my] : List Value).toArray below meth c H locs 0 0 (MQ below (va_Qv (fun (_ : Unit) => True) (fun (_ : Unit) (t : State) => va_P (dC, dI) tqCl [(mo, .inr (3, [.int nz, .ref la, .int sq, .ref sa])), (la, .inl (cI, 200, .inl r))] t.heap ∧ va_K (dC, dI) tqCl [(cI, .int)] t ∧ va_D (A) [(mo, .inr (3, [.int nz, .ref la, .int sq, .ref sa])), (la, .inl (cI, 200, .inl r))]) (A)) ([.ref mo, .int rg, .int my] : List Value).toArray s 0 0 A) (F0 m 15 ls []) := by
    try clear hf
    intro n15
    induction n15 with
    | zero =>
      intro ls H locs v3 v4 v5 lf hf hl hP hD hS
      have hf : (none : Option ((Nat → Int32))) = some r := hf
      cases hf
    | succ n15 ih15 =>
      have B76 : ∀ (ls : Array Slot) (H : Heap) (locs : List Loc) (v3 : Int32) (v4 : Int32) (v5 : Int32) (v6 : Int32) (t0 : Int32) (lf : Nat → Int32), m_raise_b76 rg (m_raise_b15 rg n15) v3 v4 v5 v6 t0 lf = some r → lv_has ls 8 [(0, .ref mo), (1, .int rg), (3, .int v3), (4, .int v4), (5, .int v5), (6, .int v6)] → va_P (dC, dI) tqCl [(mo, .inr (3, [.int nz, .ref la, .int sq, .ref sa])), (la, .inl (cI, 200, .inl lf))] H → va_D A [(mo, .inr (3, [.int nz, .ref la, .int sq, .ref sa])), (la, .inl (cI, 200, .inl lf))] → va_S A s.heap H locs → W p l e ({ frames := 0, cells := 0, slots := 0, locals := 0 }) s m ([.ref mo, .int rg, .int my] : List Value).toArray below meth c H locs 0 0 (MQ below (va_Qv (fun (_ : Unit) => True) (fun (_ : Unit) (t : State) => va_P (dC, dI) tqCl [(mo, .inr (3, [.int nz, .ref la, .int sq, .ref sa])), (la, .inl (cI, 200, .inl r))] t.heap ∧ va_K (dC, dI) tqCl [(cI, .int)] t ∧ va_D (A) [(mo, .inr (3, [.int nz, .ref la, .int sq, .ref sa])), (la, .inl (cI, 200, .inl r))]) (A)) ([.ref mo, .int rg, .int my] : List Value).toArray s 0 0 A) (F0 m 76 ls [.int t0]) := by
        try clear hf
        intro ls H locs v3 v4 v5 v6 t0 lf hf hl hP hD hS
        unfold m_raise_b76 at hf
        refine lv_istore (lv' := [(7, .int t0), (0, .ref mo), (1, .int rg), (3, .int v3), (4, .int v4), (5, .int v5), (6, .int v6)]) hx hb dM_raise_76 hl (by decide) rfl (fun ls hl => ?_)
        refine lv_aload_n hx hb dM_raise_78 rfl (lv_at hl 1 rfl) ?_
        refine va_get (D := (dC, dI)) (ci := 3) (v := .ref la) (C := RM) (T := TM) (N := 4) hx hb hww tqinM hown hK hP 0 rfl rfl 1 (by decide) (hww _ tqt_331) (fun _ h9 => h9) rfl dM_raise_79 ?_
        refine lv_bipush (v := 40) hx hb dM_raise_82 (by decide) ?_
        refine lv_iload_n hx hb dM_raise_84 rfl (lv_at hl 2 rfl) ?_
        refine lv_imul hx hb dM_raise_85 ?_
        refine lv_iload hx hb dM_raise_86 (lv_at hl 5 rfl) ?_
        refine lv_iadd hx hb dM_raise_88 ?_
        refine lv_iload hx hb dM_raise_89 (lv_at hl 6 rfl) ?_
        refine lv_iload hx hb dM_raise_91 (lv_at hl 4 rfl) ?_
        refine lv_ishl hx hb dM_raise_93 ?_
        refine lv_iload hx hb dM_raise_94 (lv_at hl 0 rfl) ?_
        refine lv_bipush (v := 16) hx hb dM_raise_96 (by decide) ?_
        refine lv_iload hx hb dM_raise_98 (lv_at hl 4 rfl) ?_
        refine lv_isub hx hb dM_raise_100 ?_
        refine lv_ishr hx hb dM_raise_101 ?_
        refine lv_ior hx hb dM_raise_102 ?_
        refine lv_ldc (v := 65535) hx hb hown (hww _ tqt_388) dM_raise_103 ?_
        refine lv_iand hx hb dM_raise_105 ?_
        by_cases h6 : ((((40 : Int32) * rg) + v5) < 0 ∨ 200 ≤ (((40 : Int32) * rg) + v5).toNatClampNeg)
        · rw [if_pos h6] at hf
          cases hf
        · rw [if_neg h6] at hf
          refine va_iast hx hb hK hP hD hS 1 0 rfl rfl h6 dM_raise_106 (fun H locs hP hD hS => ?_)
          have hP : va_P (dC, dI) tqCl [(mo, .inr (3, [.int nz, .ref la, .int sq, .ref sa])), (la, .inl (cI, 200, .inl (upd lf (((40 : Int32) * rg) + v5).toNatClampNeg (((v6 <<< (v4 &&& 31)) ||| (t0 >>> (((16 : Int32) - v4) &&& 31))) &&& (65535 : Int32)))))] H := hP
          have hD : va_D A [(mo, .inr (3, [.int nz, .ref la, .int sq, .ref sa])), (la, .inl (cI, 200, .inl (upd lf (((40 : Int32) * rg) + v5).toNatClampNeg (((v6 <<< (v4 &&& 31)) ||| (t0 >>> (((16 : Int32) - v4) &&& 31))) &&& (65535 : Int32)))))] := hD
          refine lv_iinc (v := v5 + (-1 : Int32)) (lv' := [(5, .int (v5 + (-1 : Int32))), (7, .int t0), (0, .ref mo), (1, .int rg), (3, .int v3), (4, .int v4), (6, .int v6)]) hx hb dM_raise_107 hl (k := 5) rfl rfl (by decide) rfl (fun ls hl => ?_)
          refine lv_goto hx hb dM_raise_110 rfl ?_
          exact ih15 ls _ _ v3 v4 (v5 + (-1 : Int32)) (upd lf (((40 : Int32) * rg) + v5).toNatClampNeg (((v6 <<< (v4 &&& 31)) ||| (t0 >>> (((16 : Int32) - v4) &&& 31))) &&& (65535 : Int32))) hf (lv_sub hl [2, 3, 4, 5, 0] rfl) hP hD hS
      have B45 : ∀ (ls : Array Slot) (H : Heap) (locs : List Loc) (v3 : Int32) (v4 : Int32) (v5 : Int32) (t0 : Int32) (lf : Nat → Int32), m_raise_b45 rg (m_raise_b15 rg n15) v3 v4 v5 t0 lf = some r → lv_has ls 8 [(0, .ref mo), (1, .int rg), (3, .int v3), (4, .int v4), (5, .int v5)] → va_P (dC, dI) tqCl [(mo, .inr (3, [.int nz, .ref la, .int sq, .ref sa])), (la, .inl (cI, 200, .inl lf))] H → va_D A [(mo, .inr (3, [.int nz, .ref la, .int sq, .ref sa])), (la, .inl (cI, 200, .inl lf))] → va_S A s.heap H locs → W p l e ({ frames := 0, cells := 0, slots := 0, locals := 0 }) s m ([.ref mo, .int rg, .int my] : List Value).toArray below meth c H locs 0 0 (MQ below (va_Qv (fun (_ : Unit) => True) (fun (_ : Unit) (t : State) => va_P (dC, dI) tqCl [(mo, .inr (3, [.int nz, .ref la, .int sq, .ref sa])), (la, .inl (cI, 200, .inl r))] t.heap ∧ va_K (dC, dI) tqCl [(cI, .int)] t ∧ va_D (A) [(mo, .inr (3, [.int nz, .ref la, .int sq, .ref sa])), (la, .inl (cI, 200, .inl r))]) (A)) ([.ref mo, .int rg, .int my] : List Value).toArray s 0 0 A) (F0 m 45 ls [.int t0]) := by
        try clear hf
        intro ls H locs v3 v4 v5 t0 lf hf hl hP hD hS
        unfold m_raise_b45 at hf
        refine lv_istore (lv' := [(6, .int t0), (0, .ref mo), (1, .int rg), (3, .int v3), (4, .int v4), (5, .int v5)]) hx hb dM_raise_45 hl (by decide) rfl (fun ls hl => ?_)
        refine lv_iload hx hb dM_raise_47 (lv_at hl 5 rfl) ?_
        refine lv_iload_n hx hb dM_raise_49 rfl (lv_at hl 3 rfl) ?_
        refine lv_isub hx hb dM_raise_50 ?_
        refine lv_iconst (v := 1) hx hb dM_raise_51 (by decide) ?_
        refine lv_isub hx hb dM_raise_52 ?_
        refine lv_if_lt hx hb dM_raise_53 rfl (fun h5 => ?_) (fun h5 => ?_)
        · rw [if_pos h5] at hf
          refine lv_iconst (v := 0) hx hb dM_raise_75 (by decide) ?_
          exact B76 ls _ _ v3 v4 v5 t0 (0 : Int32) lf hf (lv_sub hl [1, 2, 3, 4, 5, 0] rfl) hP hD hS
        · rw [if_neg h5] at hf
          refine lv_aload_n hx hb dM_raise_56 rfl (lv_at hl 1 rfl) ?_
          refine va_get (D := (dC, dI)) (ci := 3) (v := .ref la) (C := RM) (T := TM) (N := 4) hx hb hww tqinM hown hK hP 0 rfl rfl 1 (by decide) (hww _ tqt_331) (fun _ h9 => h9) rfl dM_raise_57 ?_
          refine lv_bipush (v := 40) hx hb dM_raise_60 (by decide) ?_
          refine lv_iload_n hx hb dM_raise_62 rfl (lv_at hl 2 rfl) ?_
          refine lv_imul hx hb dM_raise_63 ?_
          refine lv_iload hx hb dM_raise_64 (lv_at hl 5 rfl) ?_
          refine lv_iadd hx hb dM_raise_66 ?_
          refine lv_iload_n hx hb dM_raise_67 rfl (lv_at hl 3 rfl) ?_
          refine lv_isub hx hb dM_raise_68 ?_
          refine lv_iconst (v := 1) hx hb dM_raise_69 (by decide) ?_
          refine lv_isub hx hb dM_raise_70 ?_
          by_cases h7 : ((((((40 : Int32) * rg) + v5) - v3) - (1 : Int32)) < 0 ∨ 200 ≤ (((((40 : Int32) * rg) + v5) - v3) - (1 : Int32)).toNatClampNeg)
          · rw [if_pos h7] at hf
            cases hf
          · rw [if_neg h7] at hf
            refine va_iald hx hb hK hP 1 0 rfl rfl h7 dM_raise_71 ?_
            refine lv_goto hx hb dM_raise_72 rfl ?_
            exact B76 ls _ _ v3 v4 v5 t0 (lf (((((40 : Int32) * rg) + v5) - v3) - (1 : Int32)).toNatClampNeg) lf hf (lv_sub hl [1, 2, 3, 4, 5, 0] rfl) hP hD hS
      intro ls H locs v3 v4 v5 lf hf hl hP hD hS
      unfold m_raise_b15 at hf
      refine lv_iload hx hb dM_raise_15 (lv_at hl 4 rfl) ?_
      refine lv_if_lt hx hb dM_raise_17 rfl (fun h3 => ?_) (fun h3 => ?_)
      · rw [if_pos h3] at hf
        have hf := Option.some.inj hf
        subst hf
        exact W.vret hx hb hr (fun t ht hW => ⟨⟨(), rfl, trivial, by rw [ht]; exact hP, va_K.moved hW.alike hK, hD⟩, hS.F ht⟩) hS.2.2 dM_raise_113
      · rw [if_neg h3] at hf
        refine lv_iload hx hb dM_raise_20 (lv_at hl 4 rfl) ?_
        refine lv_iload_n hx hb dM_raise_22 rfl (lv_at hl 2 rfl) ?_
        refine lv_isub hx hb dM_raise_23 ?_
        refine lv_if_lt hx hb dM_raise_24 rfl (fun h4 => ?_) (fun h4 => ?_)
        · rw [if_pos h4] at hf
          refine lv_iconst (v := 0) hx hb dM_raise_44 (by decide) ?_
          exact B45 ls _ _ v3 v4 v5 (0 : Int32) lf hf (lv_sub hl [0, 1, 2, 3, 4] rfl) hP hD hS
        · rw [if_neg h4] at hf
          refine lv_aload_n hx hb dM_raise_27 rfl (lv_at hl 0 rfl) ?_
          refine va_get (D := (dC, dI)) (ci := 3) (v := .ref la) (C := RM) (T := TM) (N := 4) hx hb hww tqinM hown hK hP 0 rfl rfl 1 (by decide) (hww _ tqt_331) (fun _ h9 => h9) rfl dM_raise_28 ?_
          refine lv_bipush (v := 40) hx hb dM_raise_31 (by decide) ?_
          refine lv_iload_n hx hb dM_raise_33 rfl (lv_at hl 1 rfl) ?_
          refine lv_imul hx hb dM_raise_34 ?_
          refine lv_iload hx hb dM_raise_35 (lv_at hl 4 rfl) ?_
          refine lv_iadd hx hb dM_raise_37 ?_
          refine lv_iload_n hx hb dM_raise_38 rfl (lv_at hl 2 rfl) ?_
          refine lv_isub hx hb dM_raise_39 ?_
          by_cases h8 : (((((40 : Int32) * rg) + v5) - v3) < 0 ∨ 200 ≤ ((((40 : Int32) * rg) + v5) - v3).toNatClampNeg)
          · rw [if_pos h8] at hf
            cases hf
          · rw [if_neg h8] at hf
            refine va_iald hx hb hK hP 1 0 rfl rfl h8 dM_raise_40 ?_
            refine lv_goto hx hb dM_raise_41 rfl ?_
            exact B45 ls _ _ v3 v4 v5 (lf ((((40 : Int32) * rg) + v5) - v3).toNatClampNeg) lf hf (lv_sub hl [0, 1, 2, 3, 4] rfl) hP hD hS
  unfold m_raise at hf
  refine lv_iload_n hx hb dM_raise_0 rfl (lv_at hl 2 rfl) ?_
  refine lv_bipush (v := 16) hx hb dM_raise_1 (by decide) ?_
  refine lv_idiv hx hb dM_raise_3 (by decide) ?_
  refine lv_topi (fun x1 e1 => ?_)
  have hf := tq_nm_at e1 hf
  refine lv_istore_n (lv' := [(3, .int x1), (0, .ref mo), (1, .int rg), (2, .int my)]) hx hb dM_raise_4 rfl hl (by decide) rfl (fun ls hl => ?_)
  refine lv_iload_n hx hb dM_raise_5 rfl (lv_at hl 3 rfl) ?_
  refine lv_bipush (v := 16) hx hb dM_raise_6 (by decide) ?_
  refine lv_irem hx hb dM_raise_8 (by decide) ?_
  refine lv_topi (fun x2 e2 => ?_)
  have hf := tq_nm_at e2 hf
  refine lv_istore (lv' := [(4, .int x2), (3, .int x1), (0, .ref mo), (1, .int rg), (2, .int my)]) hx hb dM_raise_9 hl (by decide) rfl (fun ls hl => ?_)
  refine lv_bipush (v := 39) hx hb dM_raise_11 (by decide) ?_
  refine lv_istore (lv' := [(5, .int (39 : Int32)), (4, .int x2), (3, .int x1), (0, .ref mo), (1, .int rg), (2, .int my)]) hx hb dM_raise_13 hl (by decide) rfl (fun ls hl => ?_)
  exact B15 41 ls _ _ x1 x2 (39 : Int32) lf hf (lv_sub hl [3, 4, 2, 1, 0] rfl) hP hD hS
set_option maxHeartbeats 4000000 in
set_option maxRecDepth 100000 in
theorem c_m_lower (l : Launch) (dC : Nat → ClassId) (dI : Nat → Nat → Nat) (mo : Nat) (la : Nat) (sa : Nat) (cI : ClassId) (sz : Nat) (rg : Int32) (my : Int32) (nz : Int32) (sq : Int32) (lf : Nat → Int32) (r : (Nat → Int32)) (hf : m_lower lf rg my = some r) : Met l yM_lower tqw_M_lower ({ frames := 0, cells := 0, slots := 0, locals := 0 }) (va_Pc [.ref mo, .int rg, .int my] (fun U => U.heap.size = sz ∧ va_P (dC, dI) tqCl [(mo, .inr (3, [.int nz, .ref la, .int sq, .ref sa])), (la, .inl (cI, 200, .inl lf))] U.heap ∧ va_K (dC, dI) tqCl [(cI, .int)] U ∧ va_D (fun _ => True) [(mo, .inr (3, [.int nz, .ref la, .int sq, .ref sa])), (la, .inl (cI, 200, .inl lf))] ∧ tqN U)) (va_Qv (fun (_ : Unit) => True) (fun (_ : Unit) (t : State) => va_P (dC, dI) tqCl [(mo, .inr (3, [.int nz, .ref la, .int sq, .ref sa])), (la, .inl (cI, 200, .inl r))] t.heap ∧ va_K (dC, dI) tqCl [(cI, .int)] t ∧ va_D (va_A [(mo, .inr (3, [.int nz, .ref la, .int sq, .ref sa])), (la, .inl (cI, 200, .inl lf))] sz) [(mo, .inr (3, [.int nz, .ref la, .int sq, .ref sa])), (la, .inl (cI, 200, .inl r))]) (va_A [(mo, .inr (3, [.int nz, .ref la, .int sq, .ref sa])), (la, .inl (cI, 200, .inl lf))] sz)) 0 0 (va_A [(mo, .inr (3, [.int nz, .ref la, .int sq, .ref sa])), (la, .inl (cI, 200, .inl lf))] sz) := by
  refine Met.ofW (cc := cM_lower) (maxL := 8) (ret := none) (by decide) rfl ?_
  intro p e s m args below meth c s₁ B hml hv
  obtain ⟨rfl, hsz, hP, hK, hD0, hN⟩ := hv
  have hx := B.exec
  have hb := B.bytes
  have hr := B.returns
  have hts := atoms_spec (ws := tqw_M_lower) B.pre
  have hww : ∀ w ∈ tqW, w.before _ s = true := fun w h => hts w (List.mem_cons_of_mem _ h)
  have hown : s.vm.findClass RM = some m.cls := findClass_of_methodNamed B.named
  have hlocks := B.notSynchronized
  subst hsz
  have hD := hD0.self (sz := s.heap.size)
  generalize hAe : va_A [(mo, .inr (3, [.int nz, .ref la, .int sq, .ref sa])), (la, .inl (cI, 200, .inl lf))] s.heap.size = A at hD ⊢
  have hA : ∀ q : Nat, s.heap.size ≤ q → A q := fun q h => by rw [← hAe]; exact Or.inr h
  have hS : va_S A s.heap s.heap [] := va_S.rf
  have hP : va_P (dC, dI) tqCl [(mo, .inr (3, [.int nz, .ref la, .int sq, .ref sa])), (la, .inl (cI, 200, .inl lf))] s.heap := hP
  have hl := lv_entry ([.ref mo, .int rg, .int my]) (n := 8) (Nat.le_of_ble_eq_true rfl)
  rw [lg_entry_eq]
  generalize (lg_sl ([.ref mo, .int rg, .int my]) ++ List.replicate (8 - (lg_sl ([.ref mo, .int rg, .int my])).length) Slot.unset).toArray = ls at hl ⊢
  have hl : lv_has ls 8 [(0, .ref mo), (1, .int rg), (2, .int my)] := hl
  have B14 : ∀ (n14 : Nat) (ls : Array Slot) (H : Heap) (locs : List Loc) (v3 : Int32) (v4 : Int32) (v5 : Int32) (lf : Nat → Int32), m_lower_b14 rg n14 v3 v4 v5 lf = some r → lv_has ls 8 [(0, .ref mo), (1, .int rg), (3, .int v3), (4, .int v4), (5, .int v5)] → va_P (dC, dI) tqCl [(mo, .inr (3, [.int nz, .ref la, .int sq, .ref sa])), (la, .inl (cI, 200, .inl lf))] H → va_D A [(mo, .inr (3, [.int nz, .ref la, .int sq, .ref sa])), (la, .inl (cI, 200, .inl lf))] → va_S A s.heap H locs → W p l e ({ frames := 0, cells := 0, slots := 0, locals := 0 }) s m ([.ref mo, .int rg, .int my] : List Value).toArray below meth c H locs 0 0 (MQ below (va_Qv (fun (_ : Unit) => True) (fun (_ : Unit) (t : State) => va_P (dC, dI) tqCl [(mo, .inr (3, [.int nz, .ref la, .int sq, .ref sa])), (la, .inl (cI, 200, .inl r))] t.heap ∧ va_K (dC, dI) tqCl [(cI, .int)] t ∧ va_D (A) [(mo, .inr (3, [.int nz, .ref la, .int sq, .ref sa])), (la, .inl (cI, 200, .inl r))]) (A)) ([.ref mo, .int rg, .int my] : List Value).toArray s 0 0 A) (F0 m 14 ls []) := by
    try clear hf
    intro n14
    induction n14 with
    | zero =>
      intro ls H locs v3 v4 v5 lf hf hl hP hD hS
      have hf : (none : Option ((Nat → Int32))) = some r := hf
      cases hf
    | succ n14 ih14 =>
      have B81 : ∀ (ls : Array Slot) (H : Heap) (locs : List Loc) (v3 : Int32) (v4 : Int32) (v5 : Int32) (v6 : Int32) (t0 : Int32) (lf : Nat → Int32), m_lower_b81 rg (m_lower_b14 rg n14) v3 v4 v5 v6 t0 lf = some r → lv_has ls 8 [(0, .ref mo), (1, .int rg), (3, .int v3), (4, .int v4), (5, .int v5), (6, .int v6)] → va_P (dC, dI) tqCl [(mo, .inr (3, [.int nz, .ref la, .int sq, .ref sa])), (la, .inl (cI, 200, .inl lf))] H → va_D A [(mo, .inr (3, [.int nz, .ref la, .int sq, .ref sa])), (la, .inl (cI, 200, .inl lf))] → va_S A s.heap H locs → W p l e ({ frames := 0, cells := 0, slots := 0, locals := 0 }) s m ([.ref mo, .int rg, .int my] : List Value).toArray below meth c H locs 0 0 (MQ below (va_Qv (fun (_ : Unit) => True) (fun (_ : Unit) (t : State) => va_P (dC, dI) tqCl [(mo, .inr (3, [.int nz, .ref la, .int sq, .ref sa])), (la, .inl (cI, 200, .inl r))] t.heap ∧ va_K (dC, dI) tqCl [(cI, .int)] t ∧ va_D (A) [(mo, .inr (3, [.int nz, .ref la, .int sq, .ref sa])), (la, .inl (cI, 200, .inl r))]) (A)) ([.ref mo, .int rg, .int my] : List Value).toArray s 0 0 A) (F0 m 81 ls [.int t0]) := by
        try clear hf
        intro ls H locs v3 v4 v5 v6 t0 lf hf hl hP hD hS
        unfold m_lower_b81 at hf
        refine lv_istore (lv' := [(7, .int t0), (0, .ref mo), (1, .int rg), (3, .int v3), (4, .int v4), (5, .int v5), (6, .int v6)]) hx hb dM_lower_81 hl (by decide) rfl (fun ls hl => ?_)
        refine lv_aload_n hx hb dM_lower_83 rfl (lv_at hl 1 rfl) ?_
        refine va_get (D := (dC, dI)) (ci := 3) (v := .ref la) (C := RM) (T := TM) (N := 4) hx hb hww tqinM hown hK hP 0 rfl rfl 1 (by decide) (hww _ tqt_331) (fun _ h9 => h9) rfl dM_lower_84 ?_
        refine lv_bipush (v := 40) hx hb dM_lower_87 (by decide) ?_
        refine lv_iload_n hx hb dM_lower_89 rfl (lv_at hl 2 rfl) ?_
        refine lv_imul hx hb dM_lower_90 ?_
        refine lv_iload hx hb dM_lower_91 (lv_at hl 5 rfl) ?_
        refine lv_iadd hx hb dM_lower_93 ?_
        refine lv_iload hx hb dM_lower_94 (lv_at hl 6 rfl) ?_
        refine lv_iload hx hb dM_lower_96 (lv_at hl 4 rfl) ?_
        refine lv_ishr hx hb dM_lower_98 ?_
        refine lv_iload hx hb dM_lower_99 (lv_at hl 0 rfl) ?_
        refine lv_bipush (v := 16) hx hb dM_lower_101 (by decide) ?_
        refine lv_iload hx hb dM_lower_103 (lv_at hl 4 rfl) ?_
        refine lv_isub hx hb dM_lower_105 ?_
        refine lv_ishl hx hb dM_lower_106 ?_
        refine lv_ior hx hb dM_lower_107 ?_
        refine lv_ldc (v := 65535) hx hb hown (hww _ tqt_388) dM_lower_108 ?_
        refine lv_iand hx hb dM_lower_110 ?_
        by_cases h6 : ((((40 : Int32) * rg) + v5) < 0 ∨ 200 ≤ (((40 : Int32) * rg) + v5).toNatClampNeg)
        · rw [if_pos h6] at hf
          cases hf
        · rw [if_neg h6] at hf
          refine va_iast hx hb hK hP hD hS 1 0 rfl rfl h6 dM_lower_111 (fun H locs hP hD hS => ?_)
          have hP : va_P (dC, dI) tqCl [(mo, .inr (3, [.int nz, .ref la, .int sq, .ref sa])), (la, .inl (cI, 200, .inl (upd lf (((40 : Int32) * rg) + v5).toNatClampNeg (((v6 >>> (v4 &&& 31)) ||| (t0 <<< (((16 : Int32) - v4) &&& 31))) &&& (65535 : Int32)))))] H := hP
          have hD : va_D A [(mo, .inr (3, [.int nz, .ref la, .int sq, .ref sa])), (la, .inl (cI, 200, .inl (upd lf (((40 : Int32) * rg) + v5).toNatClampNeg (((v6 >>> (v4 &&& 31)) ||| (t0 <<< (((16 : Int32) - v4) &&& 31))) &&& (65535 : Int32)))))] := hD
          refine lv_iinc (v := v5 + (1 : Int32)) (lv' := [(5, .int (v5 + (1 : Int32))), (7, .int t0), (0, .ref mo), (1, .int rg), (3, .int v3), (4, .int v4), (6, .int v6)]) hx hb dM_lower_112 hl (k := 5) rfl rfl (by decide) rfl (fun ls hl => ?_)
          refine lv_goto hx hb dM_lower_115 rfl ?_
          exact ih14 ls _ _ v3 v4 (v5 + (1 : Int32)) (upd lf (((40 : Int32) * rg) + v5).toNatClampNeg (((v6 >>> (v4 &&& 31)) ||| (t0 <<< (((16 : Int32) - v4) &&& 31))) &&& (65535 : Int32))) hf (lv_sub hl [2, 3, 4, 5, 0] rfl) hP hD hS
      have B48 : ∀ (ls : Array Slot) (H : Heap) (locs : List Loc) (v3 : Int32) (v4 : Int32) (v5 : Int32) (t0 : Int32) (lf : Nat → Int32), m_lower_b48 rg (m_lower_b14 rg n14) v3 v4 v5 t0 lf = some r → lv_has ls 8 [(0, .ref mo), (1, .int rg), (3, .int v3), (4, .int v4), (5, .int v5)] → va_P (dC, dI) tqCl [(mo, .inr (3, [.int nz, .ref la, .int sq, .ref sa])), (la, .inl (cI, 200, .inl lf))] H → va_D A [(mo, .inr (3, [.int nz, .ref la, .int sq, .ref sa])), (la, .inl (cI, 200, .inl lf))] → va_S A s.heap H locs → W p l e ({ frames := 0, cells := 0, slots := 0, locals := 0 }) s m ([.ref mo, .int rg, .int my] : List Value).toArray below meth c H locs 0 0 (MQ below (va_Qv (fun (_ : Unit) => True) (fun (_ : Unit) (t : State) => va_P (dC, dI) tqCl [(mo, .inr (3, [.int nz, .ref la, .int sq, .ref sa])), (la, .inl (cI, 200, .inl r))] t.heap ∧ va_K (dC, dI) tqCl [(cI, .int)] t ∧ va_D (A) [(mo, .inr (3, [.int nz, .ref la, .int sq, .ref sa])), (la, .inl (cI, 200, .inl r))]) (A)) ([.ref mo, .int rg, .int my] : List Value).toArray s 0 0 A) (F0 m 48 ls [.int t0]) := by
        try clear hf
        intro ls H locs v3 v4 v5 t0 lf hf hl hP hD hS
        unfold m_lower_b48 at hf
        refine lv_istore (lv' := [(6, .int t0), (0, .ref mo), (1, .int rg), (3, .int v3), (4, .int v4), (5, .int v5)]) hx hb dM_lower_48 hl (by decide) rfl (fun ls hl => ?_)
        refine lv_iload hx hb dM_lower_50 (lv_at hl 5 rfl) ?_
        refine lv_iload_n hx hb dM_lower_52 rfl (lv_at hl 3 rfl) ?_
        refine lv_iadd hx hb dM_lower_53 ?_
        refine lv_iconst (v := 1) hx hb dM_lower_54 (by decide) ?_
        refine lv_iadd hx hb dM_lower_55 ?_
        refine lv_bipush (v := 40) hx hb dM_lower_56 (by decide) ?_
        refine lv_icmp_ge hx hb dM_lower_58 rfl (fun h5 => ?_) (fun h5 => ?_)
        · rw [if_pos h5] at hf
          refine lv_iconst (v := 0) hx hb dM_lower_80 (by decide) ?_
          exact B81 ls _ _ v3 v4 v5 t0 (0 : Int32) lf hf (lv_sub hl [1, 2, 3, 4, 5, 0] rfl) hP hD hS
        · rw [if_neg h5] at hf
          refine lv_aload_n hx hb dM_lower_61 rfl (lv_at hl 1 rfl) ?_
          refine va_get (D := (dC, dI)) (ci := 3) (v := .ref la) (C := RM) (T := TM) (N := 4) hx hb hww tqinM hown hK hP 0 rfl rfl 1 (by decide) (hww _ tqt_331) (fun _ h9 => h9) rfl dM_lower_62 ?_
          refine lv_bipush (v := 40) hx hb dM_lower_65 (by decide) ?_
          refine lv_iload_n hx hb dM_lower_67 rfl (lv_at hl 2 rfl) ?_
          refine lv_imul hx hb dM_lower_68 ?_
          refine lv_iload hx hb dM_lower_69 (lv_at hl 5 rfl) ?_
          refine lv_iadd hx hb dM_lower_71 ?_
          refine lv_iload_n hx hb dM_lower_72 rfl (lv_at hl 3 rfl) ?_
          refine lv_iadd hx hb dM_lower_73 ?_
          refine lv_iconst (v := 1) hx hb dM_lower_74 (by decide) ?_
          refine lv_iadd hx hb dM_lower_75 ?_
          by_cases h7 : ((((((40 : Int32) * rg) + v5) + v3) + (1 : Int32)) < 0 ∨ 200 ≤ (((((40 : Int32) * rg) + v5) + v3) + (1 : Int32)).toNatClampNeg)
          · rw [if_pos h7] at hf
            cases hf
          · rw [if_neg h7] at hf
            refine va_iald hx hb hK hP 1 0 rfl rfl h7 dM_lower_76 ?_
            refine lv_goto hx hb dM_lower_77 rfl ?_
            exact B81 ls _ _ v3 v4 v5 t0 (lf (((((40 : Int32) * rg) + v5) + v3) + (1 : Int32)).toNatClampNeg) lf hf (lv_sub hl [1, 2, 3, 4, 5, 0] rfl) hP hD hS
      intro ls H locs v3 v4 v5 lf hf hl hP hD hS
      unfold m_lower_b14 at hf
      refine lv_iload hx hb dM_lower_14 (lv_at hl 4 rfl) ?_
      refine lv_bipush (v := 40) hx hb dM_lower_16 (by decide) ?_
      refine lv_icmp_ge hx hb dM_lower_18 rfl (fun h3 => ?_) (fun h3 => ?_)
      · rw [if_pos h3] at hf
        have hf := Option.some.inj hf
        subst hf
        exact W.vret hx hb hr (fun t ht hW => ⟨⟨(), rfl, trivial, by rw [ht]; exact hP, va_K.moved hW.alike hK, hD⟩, hS.F ht⟩) hS.2.2 dM_lower_118
      · rw [if_neg h3] at hf
        refine lv_iload hx hb dM_lower_21 (lv_at hl 4 rfl) ?_
        refine lv_iload_n hx hb dM_lower_23 rfl (lv_at hl 2 rfl) ?_
        refine lv_iadd hx hb dM_lower_24 ?_
        refine lv_bipush (v := 40) hx hb dM_lower_25 (by decide) ?_
        refine lv_icmp_ge hx hb dM_lower_27 rfl (fun h4 => ?_) (fun h4 => ?_)
        · rw [if_pos h4] at hf
          refine lv_iconst (v := 0) hx hb dM_lower_47 (by decide) ?_
          exact B48 ls _ _ v3 v4 v5 (0 : Int32) lf hf (lv_sub hl [0, 1, 2, 3, 4] rfl) hP hD hS
        · rw [if_neg h4] at hf
          refine lv_aload_n hx hb dM_lower_30 rfl (lv_at hl 0 rfl) ?_
          refine va_get (D := (dC, dI)) (ci := 3) (v := .ref la) (C := RM) (T := TM) (N := 4) hx hb hww tqinM hown hK hP 0 rfl rfl 1 (by decide) (hww _ tqt_331) (fun _ h9 => h9) rfl dM_lower_31 ?_
          refine lv_bipush (v := 40) hx hb dM_lower_34 (by decide) ?_
          refine lv_iload_n hx hb dM_lower_36 rfl (lv_at hl 1 rfl) ?_
          refine lv_imul hx hb dM_lower_37 ?_
          refine lv_iload hx hb dM_lower_38 (lv_at hl 4 rfl) ?_
          refine lv_iadd hx hb dM_lower_40 ?_
          refine lv_iload_n hx hb dM_lower_41 rfl (lv_at hl 2 rfl) ?_
          refine lv_iadd hx hb dM_lower_42 ?_
          by_cases h8 : (((((40 : Int32) * rg) + v5) + v3) < 0 ∨ 200 ≤ ((((40 : Int32) * rg) + v5) + v3).toNatClampNeg)
          · rw [if_pos h8] at hf
            cases hf
          · rw [if_neg h8] at hf
            refine va_iald hx hb hK hP 1 0 rfl rfl h8 dM_lower_43 ?_
            refine lv_goto hx hb dM_lower_44 rfl ?_
            exact B48 ls _ _ v3 v4 v5 (lf ((((40 : Int32) * rg) + v5) + v3).toNatClampNeg) lf hf (lv_sub hl [0, 1, 2, 3, 4] rfl) hP hD hS
  unfold m_lower at hf
  refine lv_iload_n hx hb dM_lower_0 rfl (lv_at hl 2 rfl) ?_
  refine lv_bipush (v := 16) hx hb dM_lower_1 (by decide) ?_
  refine lv_idiv hx hb dM_lower_3 (by decide) ?_
  refine lv_topi (fun x1 e1 => ?_)
  have hf := tq_nm_at e1 hf
  refine lv_istore_n (lv' := [(3, .int x1), (0, .ref mo), (1, .int rg), (2, .int my)]) hx hb dM_lower_4 rfl hl (by decide) rfl (fun ls hl => ?_)
  refine lv_iload_n hx hb dM_lower_5 rfl (lv_at hl 3 rfl) ?_
  refine lv_bipush (v := 16) hx hb dM_lower_6 (by decide) ?_
  refine lv_irem hx hb dM_lower_8 (by decide) ?_
  refine lv_topi (fun x2 e2 => ?_)
  have hf := tq_nm_at e2 hf
  refine lv_istore (lv' := [(4, .int x2), (3, .int x1), (0, .ref mo), (1, .int rg), (2, .int my)]) hx hb dM_lower_9 hl (by decide) rfl (fun ls hl => ?_)
  refine lv_iconst (v := 0) hx hb dM_lower_11 (by decide) ?_
  refine lv_istore (lv' := [(5, .int (0 : Int32)), (4, .int x2), (3, .int x1), (0, .ref mo), (1, .int rg), (2, .int my)]) hx hb dM_lower_12 hl (by decide) rfl (fun ls hl => ?_)
  exact B14 41 ls _ _ x1 x2 (0 : Int32) lf hf (lv_sub hl [3, 4, 2, 1, 0] rfl) hP hD hS
set_option maxHeartbeats 4000000 in
set_option maxRecDepth 100000 in
theorem c_m_bit (l : Launch) (dC : Nat → ClassId) (dI : Nat → Nat → Nat) (mo : Nat) (la : Nat) (sa : Nat) (cI : ClassId) (sz : Nat) (rg : Int32) (kx : Int32) (nz : Int32) (sq : Int32) (lf : Nat → Int32) (r : Int32) (hf : m_bit lf rg kx = some r) : Met l yM_bit tqw_M_bit ({ frames := 0, cells := 0, slots := 0, locals := 0 }) (va_Pc [.ref mo, .int rg, .int kx] (fun U => U.heap.size = sz ∧ va_P (dC, dI) tqCl [(mo, .inr (3, [.int nz, .ref la, .int sq, .ref sa])), (la, .inl (cI, 200, .inl lf))] U.heap ∧ va_K (dC, dI) tqCl [(cI, .int)] U ∧ va_D (fun _ => True) [(mo, .inr (3, [.int nz, .ref la, .int sq, .ref sa])), (la, .inl (cI, 200, .inl lf))] ∧ tqN U)) (va_Qi (fun (a : Int32) (_ : Unit) => a = r) (fun (_ : Unit) (t : State) => va_P (dC, dI) tqCl [(mo, .inr (3, [.int nz, .ref la, .int sq, .ref sa])), (la, .inl (cI, 200, .inl lf))] t.heap ∧ va_K (dC, dI) tqCl [(cI, .int)] t ∧ va_D (va_A [(mo, .inr (3, [.int nz, .ref la, .int sq, .ref sa])), (la, .inl (cI, 200, .inl lf))] sz) [(mo, .inr (3, [.int nz, .ref la, .int sq, .ref sa])), (la, .inl (cI, 200, .inl lf))]) (va_A [(mo, .inr (3, [.int nz, .ref la, .int sq, .ref sa])), (la, .inl (cI, 200, .inl lf))] sz)) 0 0 (va_A [(mo, .inr (3, [.int nz, .ref la, .int sq, .ref sa])), (la, .inl (cI, 200, .inl lf))] sz) := by
  refine Met.ofW (cc := cM_bit) (maxL := 3) (ret := (some .int)) (by decide) rfl ?_
  intro p e s m args below meth c s₁ B hml hv
  obtain ⟨rfl, hsz, hP, hK, hD0, hN⟩ := hv
  have hx := B.exec
  have hb := B.bytes
  have hr := B.returns
  have hts := atoms_spec (ws := tqw_M_bit) B.pre
  have hww : ∀ w ∈ tqW, w.before _ s = true := fun w h => hts w (List.mem_cons_of_mem _ h)
  have hown : s.vm.findClass RM = some m.cls := findClass_of_methodNamed B.named
  have hlocks := B.notSynchronized
  subst hsz
  have hD := hD0.self (sz := s.heap.size)
  generalize hAe : va_A [(mo, .inr (3, [.int nz, .ref la, .int sq, .ref sa])), (la, .inl (cI, 200, .inl lf))] s.heap.size = A at hD ⊢
  have hA : ∀ q : Nat, s.heap.size ≤ q → A q := fun q h => by rw [← hAe]; exact Or.inr h
  have hS : va_S A s.heap s.heap [] := va_S.rf
  have hP : va_P (dC, dI) tqCl [(mo, .inr (3, [.int nz, .ref la, .int sq, .ref sa])), (la, .inl (cI, 200, .inl lf))] s.heap := hP
  have hl := lv_entry ([.ref mo, .int rg, .int kx]) (n := 3) (Nat.le_of_ble_eq_true rfl)
  rw [lg_entry_eq]
  generalize (lg_sl ([.ref mo, .int rg, .int kx]) ++ List.replicate (3 - (lg_sl ([.ref mo, .int rg, .int kx])).length) Slot.unset).toArray = ls at hl ⊢
  have hl : lv_has ls 3 [(0, .ref mo), (1, .int rg), (2, .int kx)] := hl
  unfold m_bit at hf
  refine lv_aload_n hx hb dM_bit_0 rfl (lv_at hl 0 rfl) ?_
  refine va_get (D := (dC, dI)) (ci := 3) (v := .ref la) (C := RM) (T := TM) (N := 4) hx hb hww tqinM hown hK hP 0 rfl rfl 1 (by decide) (hww _ tqt_331) (fun _ h9 => h9) rfl dM_bit_1 ?_
  refine lv_bipush (v := 40) hx hb dM_bit_4 (by decide) ?_
  refine lv_iload_n hx hb dM_bit_6 rfl (lv_at hl 1 rfl) ?_
  refine lv_imul hx hb dM_bit_7 ?_
  refine lv_iload_n hx hb dM_bit_8 rfl (lv_at hl 2 rfl) ?_
  refine lv_bipush (v := 16) hx hb dM_bit_9 (by decide) ?_
  refine lv_idiv hx hb dM_bit_11 (by decide) ?_
  refine lv_iadd hx hb dM_bit_12 ?_
  by_cases h1 : ((((40 : Int32) * rg) + (kx / (16 : Int32))) < 0 ∨ 200 ≤ (((40 : Int32) * rg) + (kx / (16 : Int32))).toNatClampNeg)
  · rw [if_pos h1] at hf
    cases hf
  · rw [if_neg h1] at hf
    refine va_iald hx hb hK hP 1 0 rfl rfl h1 dM_bit_13 ?_
    refine lv_iload_n hx hb dM_bit_14 rfl (lv_at hl 2 rfl) ?_
    refine lv_bipush (v := 16) hx hb dM_bit_15 (by decide) ?_
    refine lv_irem hx hb dM_bit_17 (by decide) ?_
    refine lv_ishr hx hb dM_bit_18 ?_
    refine lv_iconst (v := 1) hx hb dM_bit_19 (by decide) ?_
    refine lv_iand hx hb dM_bit_20 ?_
    have hf := Option.some.inj hf
    subst hf
    exact W.iret (v := ((lf (((40 : Int32) * rg) + (kx / (16 : Int32))).toNatClampNeg) >>> ((kx - kx / (16 : Int32) * (16 : Int32)) &&& 31)) &&& (1 : Int32)) hx hb hr (fun t ht hW => ⟨⟨((lf (((40 : Int32) * rg) + (kx / (16 : Int32))).toNatClampNeg) >>> ((kx - kx / (16 : Int32) * (16 : Int32)) &&& 31)) &&& (1 : Int32), (), rfl, rfl, by rw [ht]; exact hP, va_K.moved hW.alike hK, hD⟩, hS.F ht⟩) hS.2.2 dM_bit_21
set_option maxHeartbeats 4000000 in
set_option maxRecDepth 100000 in
theorem c_m_setLong (l : Launch) (dC : Nat → ClassId) (dI : Nat → Nat → Nat) (mo : Nat) (la : Nat) (sa : Nat) (cI : ClassId) (sz : Nat) (rg : Int32) (v : Int64) (nz : Int32) (sq : Int32) (lf : Nat → Int32) (r : (Nat → Int32)) (hf : m_setLong lf rg v = some r) : Met l yM_setLong tqw_M_setLong ({ frames := 1, cells := 0, slots := 0, locals := 22 }) (va_Pc [.ref mo, .int rg, .long v] (fun U => U.heap.size = sz ∧ va_P (dC, dI) tqCl [(mo, .inr (3, [.int nz, .ref la, .int sq, .ref sa])), (la, .inl (cI, 200, .inl lf))] U.heap ∧ va_K (dC, dI) tqCl [(cI, .int)] U ∧ va_D (fun _ => True) [(mo, .inr (3, [.int nz, .ref la, .int sq, .ref sa])), (la, .inl (cI, 200, .inl lf))] ∧ tqN U)) (va_Qv (fun (_ : Unit) => True) (fun (_ : Unit) (t : State) => va_P (dC, dI) tqCl [(mo, .inr (3, [.int nz, .ref la, .int sq, .ref sa])), (la, .inl (cI, 200, .inl r))] t.heap ∧ va_K (dC, dI) tqCl [(cI, .int)] t ∧ va_D (va_A [(mo, .inr (3, [.int nz, .ref la, .int sq, .ref sa])), (la, .inl (cI, 200, .inl lf))] sz) [(mo, .inr (3, [.int nz, .ref la, .int sq, .ref sa])), (la, .inl (cI, 200, .inl r))]) (va_A [(mo, .inr (3, [.int nz, .ref la, .int sq, .ref sa])), (la, .inl (cI, 200, .inl lf))] sz)) 0 0 (va_A [(mo, .inr (3, [.int nz, .ref la, .int sq, .ref sa])), (la, .inl (cI, 200, .inl lf))] sz) := by
  refine Met.ofW (cc := cM_setLong) (maxL := 5) (ret := none) (by decide) rfl ?_
  intro p e s m args below meth c s₁ B hml hv
  obtain ⟨rfl, hsz, hP, hK, hD0, hN⟩ := hv
  have hx := B.exec
  have hb := B.bytes
  have hr := B.returns
  have hts := atoms_spec (ws := tqw_M_setLong) B.pre
  have hww : ∀ w ∈ tqW, w.before _ s = true := fun w h => hts w (List.mem_cons_of_mem _ h)
  have hown : s.vm.findClass RM = some m.cls := findClass_of_methodNamed B.named
  have hlocks := B.notSynchronized
  subst hsz
  have hD := hD0.self (sz := s.heap.size)
  generalize hAe : va_A [(mo, .inr (3, [.int nz, .ref la, .int sq, .ref sa])), (la, .inl (cI, 200, .inl lf))] s.heap.size = A at hD ⊢
  have hA : ∀ q : Nat, s.heap.size ≤ q → A q := fun q h => by rw [← hAe]; exact Or.inr h
  have hS : va_S A s.heap s.heap [] := va_S.rf
  have hP : va_P (dC, dI) tqCl [(mo, .inr (3, [.int nz, .ref la, .int sq, .ref sa])), (la, .inl (cI, 200, .inl lf))] s.heap := hP
  have hl := lv_entry ([.ref mo, .int rg, .long v]) (n := 5) (Nat.le_of_ble_eq_true rfl)
  rw [lg_entry_eq]
  generalize (lg_sl ([.ref mo, .int rg, .long v]) ++ List.replicate (5 - (lg_sl ([.ref mo, .int rg, .long v])).length) Slot.unset).toArray = ls at hl ⊢
  have hl : lv_has ls 5 [(0, .ref mo), (1, .int rg), (2, .long v)] := hl
  have B8 : ∀ (n8 : Nat) (ls : Array Slot) (H : Heap) (locs : List Loc) (v4 : Int32) (lf : Nat → Int32), m_setLong_b8 rg v n8 v4 lf = some r → lv_has ls 5 [(0, .ref mo), (1, .int rg), (2, .long v), (4, .int v4)] → va_P (dC, dI) tqCl [(mo, .inr (3, [.int nz, .ref la, .int sq, .ref sa])), (la, .inl (cI, 200, .inl lf))] H → va_D A [(mo, .inr (3, [.int nz, .ref la, .int sq, .ref sa])), (la, .inl (cI, 200, .inl lf))] → va_S A s.heap H locs → W p l e ({ frames := 1, cells := 0, slots := 0, locals := 22 }) s m ([.ref mo, .int rg, .long v] : List Value).toArray below meth c H locs 0 0 (MQ below (va_Qv (fun (_ : Unit) => True) (fun (_ : Unit) (t : State) => va_P (dC, dI) tqCl [(mo, .inr (3, [.int nz, .ref la, .int sq, .ref sa])), (la, .inl (cI, 200, .inl r))] t.heap ∧ va_K (dC, dI) tqCl [(cI, .int)] t ∧ va_D (A) [(mo, .inr (3, [.int nz, .ref la, .int sq, .ref sa])), (la, .inl (cI, 200, .inl r))]) (A)) ([.ref mo, .int rg, .long v] : List Value).toArray s 0 0 A) (F0 m 8 ls []) := by
    try clear hf
    intro n8
    induction n8 with
    | zero =>
      intro ls H locs v4 lf hf hl hP hD hS
      have hf : (none : Option ((Nat → Int32))) = some r := hf
      cases hf
    | succ n8 ih8 =>
      intro ls H locs v4 lf hf hl hP hD hS
      unfold m_setLong_b8 at hf
      refine lv_iload hx hb dM_setLong_8 (lv_at hl 3 rfl) ?_
      refine lv_iconst (v := 4) hx hb dM_setLong_10 (by decide) ?_
      refine lv_icmp_ge hx hb dM_setLong_11 rfl (fun h2 => ?_) (fun h2 => ?_)
      · rw [if_pos h2] at hf
        have hf := Option.some.inj hf
        subst hf
        exact W.vret hx hb hr (fun t ht hW => ⟨⟨(), rfl, trivial, by rw [ht]; exact hP, va_K.moved hW.alike hK, hD⟩, hS.F ht⟩) hS.2.2 dM_setLong_44
      · rw [if_neg h2] at hf
        refine lv_aload_n hx hb dM_setLong_14 rfl (lv_at hl 0 rfl) ?_
        refine va_get (D := (dC, dI)) (ci := 3) (v := .ref la) (C := RM) (T := TM) (N := 4) hx hb hww tqinM hown hK hP 0 rfl rfl 1 (by decide) (hww _ tqt_331) (fun _ h9 => h9) rfl dM_setLong_15 ?_
        refine lv_bipush (v := 40) hx hb dM_setLong_18 (by decide) ?_
        refine lv_iload_n hx hb dM_setLong_20 rfl (lv_at hl 1 rfl) ?_
        refine lv_imul hx hb dM_setLong_21 ?_
        refine lv_iload hx hb dM_setLong_22 (lv_at hl 3 rfl) ?_
        refine lv_iadd hx hb dM_setLong_24 ?_
        refine lv_lload_n hx hb dM_setLong_25 rfl (lv_at hl 2 rfl) ?_
        refine lv_bipush (v := 16) hx hb dM_setLong_26 (by decide) ?_
        refine lv_iload hx hb dM_setLong_28 (lv_at hl 3 rfl) ?_
        refine lv_imul hx hb dM_setLong_30 ?_
        refine lv_lshr hx hb dM_setLong_31 rfl ?_
        refine lv_ldc2 (v := 65535) hx hb hown (hww _ tqt_383) dM_setLong_32 ?_
        refine lv_land hx hb dM_setLong_35 ?_
        refine lv_l2i hx hb dM_setLong_36 rfl ?_
        by_cases h3 : ((((40 : Int32) * rg) + v4) < 0 ∨ 200 ≤ (((40 : Int32) * rg) + v4).toNatClampNeg)
        · rw [if_pos h3] at hf
          cases hf
        · rw [if_neg h3] at hf
          refine va_iast hx hb hK hP hD hS 1 0 rfl rfl h3 dM_setLong_37 (fun H locs hP hD hS => ?_)
          have hP : va_P (dC, dI) tqCl [(mo, .inr (3, [.int nz, .ref la, .int sq, .ref sa])), (la, .inl (cI, 200, .inl (upd lf (((40 : Int32) * rg) + v4).toNatClampNeg (((v >>> (((16 : Int32) * v4).toInt64 &&& 63)) &&& (65535 : Int64)).toInt32))))] H := hP
          have hD : va_D A [(mo, .inr (3, [.int nz, .ref la, .int sq, .ref sa])), (la, .inl (cI, 200, .inl (upd lf (((40 : Int32) * rg) + v4).toNatClampNeg (((v >>> (((16 : Int32) * v4).toInt64 &&& 63)) &&& (65535 : Int64)).toInt32))))] := hD
          refine lv_iinc (v := v4 + (1 : Int32)) (lv' := [(4, .int (v4 + (1 : Int32))), (0, .ref mo), (1, .int rg), (2, .long v)]) hx hb dM_setLong_38 hl (k := 3) rfl rfl (by decide) rfl (fun ls hl => ?_)
          refine lv_goto hx hb dM_setLong_41 rfl ?_
          exact ih8 ls _ _ (v4 + (1 : Int32)) (upd lf (((40 : Int32) * rg) + v4).toNatClampNeg (((v >>> (((16 : Int32) * v4).toInt64 &&& 63)) &&& (65535 : Int64)).toInt32)) hf (lv_sub hl [1, 2, 3, 0] rfl) hP hD hS
  unfold m_setLong at hf
  refine lv_aload_n hx hb dM_setLong_0 rfl (lv_at hl 0 rfl) ?_
  refine lv_iload_n hx hb dM_setLong_1 rfl (lv_at hl 1 rfl) ?_
  obtain ⟨lf1, hu, hf⟩ := tq_bd_some hf
  have hPc := hP.sub (ws' := [(mo, .inr (3, [.int nz, .ref la, .int sq, .ref sa])), (la, .inl (cI, 200, .inl lf))]) [0, 1] rfl
  have hDc := hD.sub (ws' := [(mo, .inr (3, [.int nz, .ref la, .int sq, .ref sa])), (la, .inl (cI, 200, .inl lf))]) [0, 1] (by decide) rfl
  have hKc := hK.sub (tys' := [(cI, .int)]) [0] rfl
  have hFc := va_free (wc := [(mo, .inr (3, [.int nz, .ref la, .int sq, .ref sa])), (la, .inl (cI, 200, .inl lf))]) hD hS hA [0, 1] rfl
  refine va_callv (va_runV (As := [.int rg]) (rest := []) ⟨hx, hb, hml, hown, hww⟩ (c_m_zero l dC dI mo la sa cI s.heap.size rg nz sq lf lf1 hu) (cwV 1 hww (tq_gV tqt_371 tqt_373 tqt_9 tqt_35 tqt_374) rfl rfl rfl (by decide +kernel) ⟨Nat.le_of_ble_eq_true rfl, Nat.le_of_ble_eq_true rfl⟩) ⟨fun a U g mk q => by obtain ⟨q0, q1, qP, qK, qD, qN⟩ := q; exact ⟨q0, q1, qP, va_K.moved (u := U) (U := U.calling g mk a) (Vm.Alike.refl U.vm) qK, qD, tqN_same (u := U) (U := U.calling g mk a) rfl qN⟩, va_recv hK hP (ci := 3) rfl (q0 := 0) rfl, fun U hU hW => ⟨rfl, by rw [hU], by rw [hU]; exact hPc, va_K.moved hW.alike hKc, hDc.weaken (fun _ _ _ _ => trivial), tqN_warm hW hN⟩⟩ rfl rfl hl.1 rfl (lv_room (Nat.le_of_ble_eq_true rfl)) dM_setLong_2 ⟨Nat.zero_le _, Nat.zero_le _⟩) hS (fun q _ h => hFc q h) hFc (fun u0 t H1 locs ht hvm hpost hB hz1 hk1 hS => ?_)
  obtain ⟨hP1, hK1, hD1⟩ := hB
  rw [ht] at hP1
  obtain ⟨hP, hD⟩ := va_join (wr := []) (w1 := [(mo, .inr (3, [.int nz, .ref la, .int sq, .ref sa])), (la, .inl (cI, 200, .inl lf1))]) hP hD [0, 1] [] rfl rfl (by decide) (by decide) hk1 hFc hP1 hD1
  generalize H1 = H at hP hS ⊢
  have hP := hP.sub (ws' := [(mo, .inr (3, [.int nz, .ref la, .int sq, .ref sa])), (la, .inl (cI, 200, .inl lf1))]) [0, 1] rfl
  have hD := hD.sub (ws' := [(mo, .inr (3, [.int nz, .ref la, .int sq, .ref sa])), (la, .inl (cI, 200, .inl lf1))]) [0, 1] (by decide) rfl
  refine lv_iconst (v := 0) hx hb dM_setLong_5 (by decide) ?_
  refine lv_istore (lv' := [(4, .int (0 : Int32)), (0, .ref mo), (1, .int rg), (2, .long v)]) hx hb dM_setLong_6 hl (by decide) rfl (fun ls hl => ?_)
  exact B8 41 ls _ _ (0 : Int32) lf1 hf (lv_sub hl [1, 2, 3, 0] rfl) hP hD hS
set_option maxHeartbeats 4000000 in
set_option maxRecDepth 100000 in
theorem c_m_value (l : Launch) (dC : Nat → ClassId) (dI : Nat → Nat → Nat) (mo : Nat) (la : Nat) (sa : Nat) (cI : ClassId) (sz : Nat) (rg : Int32) (pv : Int64) (size : Int32) (un : Int32) (nz : Int32) (sq : Int32) (lf : Nat → Int32) (r : (Nat → Int32)) (hf : m_value lf rg pv size un = some r) : Met l yM_value tqw_M_value ({ frames := 2, cells := 0, slots := 0, locals := 46 }) (va_Pc [.ref mo, .int rg, .long pv, .int size, .int un] (fun U => U.heap.size = sz ∧ va_P (dC, dI) tqCl [(mo, .inr (3, [.int nz, .ref la, .int sq, .ref sa])), (la, .inl (cI, 200, .inl lf))] U.heap ∧ va_K (dC, dI) tqCl [(cI, .int)] U ∧ va_D (fun _ => True) [(mo, .inr (3, [.int nz, .ref la, .int sq, .ref sa])), (la, .inl (cI, 200, .inl lf))] ∧ tqN U)) (va_Qv (fun (_ : Unit) => True) (fun (_ : Unit) (t : State) => va_P (dC, dI) tqCl [(mo, .inr (3, [.int nz, .ref la, .int sq, .ref sa])), (la, .inl (cI, 200, .inl r))] t.heap ∧ va_K (dC, dI) tqCl [(cI, .int)] t ∧ va_D (va_A [(mo, .inr (3, [.int nz, .ref la, .int sq, .ref sa])), (la, .inl (cI, 200, .inl lf))] sz) [(mo, .inr (3, [.int nz, .ref la, .int sq, .ref sa])), (la, .inl (cI, 200, .inl r))]) (va_A [(mo, .inr (3, [.int nz, .ref la, .int sq, .ref sa])), (la, .inl (cI, 200, .inl lf))] sz)) 0 0 (va_A [(mo, .inr (3, [.int nz, .ref la, .int sq, .ref sa])), (la, .inl (cI, 200, .inl lf))] sz) := by
  refine Met.ofW (cc := cM_value) (maxL := 14) (ret := none) (by decide) rfl ?_
  intro p e s m args below meth c s₁ B hml hv
  obtain ⟨rfl, hsz, hP, hK, hD0, hN⟩ := hv
  have hx := B.exec
  have hb := B.bytes
  have hr := B.returns
  have hts := atoms_spec (ws := tqw_M_value) B.pre
  have hww : ∀ w ∈ tqW, w.before _ s = true := fun w h => hts w (List.mem_cons_of_mem _ h)
  have hown : s.vm.findClass RM = some m.cls := findClass_of_methodNamed B.named
  have hlocks := B.notSynchronized
  subst hsz
  have hD := hD0.self (sz := s.heap.size)
  generalize hAe : va_A [(mo, .inr (3, [.int nz, .ref la, .int sq, .ref sa])), (la, .inl (cI, 200, .inl lf))] s.heap.size = A at hD ⊢
  have hA : ∀ q : Nat, s.heap.size ≤ q → A q := fun q h => by rw [← hAe]; exact Or.inr h
  have hS : va_S A s.heap s.heap [] := va_S.rf
  have hP : va_P (dC, dI) tqCl [(mo, .inr (3, [.int nz, .ref la, .int sq, .ref sa])), (la, .inl (cI, 200, .inl lf))] s.heap := hP
  have hl := lv_entry ([.ref mo, .int rg, .long pv, .int size, .int un]) (n := 14) (Nat.le_of_ble_eq_true rfl)
  rw [lg_entry_eq]
  generalize (lg_sl ([.ref mo, .int rg, .long pv, .int size, .int un]) ++ List.replicate (14 - (lg_sl ([.ref mo, .int rg, .long pv, .int size, .int un])).length) Slot.unset).toArray = ls at hl ⊢
  have hl : lv_has ls 14 [(0, .ref mo), (1, .int rg), (2, .long pv), (4, .int size), (5, .int un)] := hl
  have B121 : ∀ (ls : Array Slot) (H : Heap) (locs : List Loc) (v10 : Int32) (v11 : Int32) (t0 : Int32) (lf : Nat → Int32), m_value_b121 rg pv un v10 v11 t0 lf = some r → lv_has ls 14 [(0, .ref mo), (1, .int rg), (2, .long pv), (5, .int un), (10, .int v10), (11, .int v11)] → va_P (dC, dI) tqCl [(mo, .inr (3, [.int nz, .ref la, .int sq, .ref sa])), (la, .inl (cI, 200, .inl lf))] H → va_D A [(mo, .inr (3, [.int nz, .ref la, .int sq, .ref sa])), (la, .inl (cI, 200, .inl lf))] → va_S A s.heap H locs → W p l e ({ frames := 2, cells := 0, slots := 0, locals := 46 }) s m ([.ref mo, .int rg, .long pv, .int size, .int un] : List Value).toArray below meth c H locs 0 0 (MQ below (va_Qv (fun (_ : Unit) => True) (fun (_ : Unit) (t : State) => va_P (dC, dI) tqCl [(mo, .inr (3, [.int nz, .ref la, .int sq, .ref sa])), (la, .inl (cI, 200, .inl r))] t.heap ∧ va_K (dC, dI) tqCl [(cI, .int)] t ∧ va_D (A) [(mo, .inr (3, [.int nz, .ref la, .int sq, .ref sa])), (la, .inl (cI, 200, .inl r))]) (A)) ([.ref mo, .int rg, .long pv, .int size, .int un] : List Value).toArray s 0 0 A) (F0 m 121 ls [.int t0]) := by
    try clear hf
    intro ls H locs v10 v11 t0 lf hf hl hP hD hS
    unfold m_value_b121 at hf
    refine lv_istore (lv' := [(12, .int t0), (0, .ref mo), (1, .int rg), (2, .long pv), (5, .int un), (10, .int v10), (11, .int v11)]) hx hb dM_value_121 hl (by decide) rfl (fun ls hl => ?_)
    refine lv_aload_n hx hb dM_value_123 rfl (lv_at hl 1 rfl) ?_
    refine lv_iload_n hx hb dM_value_124 rfl (lv_at hl 2 rfl) ?_
    refine lv_lconst (v := 1) hx hb dM_value_125 (by decide) ?_
    refine lv_iload hx hb dM_value_126 (lv_at hl 0 rfl) ?_
    refine lv_lshl hx hb dM_value_128 rfl ?_
    refine lv_lload_n hx hb dM_value_129 rfl (lv_at hl 3 rfl) ?_
    refine lv_lconst (v := 1) hx hb dM_value_130 (by decide) ?_
    refine lv_iload hx hb dM_value_131 (lv_at hl 0 rfl) ?_
    refine lv_lshl hx hb dM_value_133 rfl ?_
    refine lv_lconst (v := 1) hx hb dM_value_134 (by decide) ?_
    refine lv_lsub hx hb dM_value_135 ?_
    refine lv_land hx hb dM_value_136 ?_
    refine lv_ladd hx hb dM_value_137 ?_
    obtain ⟨lf9, hu, hf⟩ := tq_bd_some hf
    have hPc := hP.sub (ws' := [(mo, .inr (3, [.int nz, .ref la, .int sq, .ref sa])), (la, .inl (cI, 200, .inl lf))]) [0, 1] rfl
    have hDc := hD.sub (ws' := [(mo, .inr (3, [.int nz, .ref la, .int sq, .ref sa])), (la, .inl (cI, 200, .inl lf))]) [0, 1] (by decide) rfl
    have hKc := hK.sub (tys' := [(cI, .int)]) [0] rfl
    have hFc := va_free (wc := [(mo, .inr (3, [.int nz, .ref la, .int sq, .ref sa])), (la, .inl (cI, 200, .inl lf))]) hD hS hA [0, 1] rfl
    refine va_callv (va_runV (As := [.int rg, .long (((1 : Int64) <<< (t0.toInt64 &&& 63)) + (pv &&& (((1 : Int64) <<< (t0.toInt64 &&& 63)) - (1 : Int64))))]) (rest := []) ⟨hx, hb, hml, hown, hww⟩ (c_m_setLong l dC dI mo la sa cI H.size rg (((1 : Int64) <<< (t0.toInt64 &&& 63)) + (pv &&& (((1 : Int64) <<< (t0.toInt64 &&& 63)) - (1 : Int64)))) nz sq lf lf9 hu) (cwV 2 hww (tq_gV tqt_379 tqt_381 tqt_11 tqt_35 tqt_382) rfl rfl rfl (by decide +kernel) ⟨Nat.le_of_ble_eq_true rfl, Nat.le_of_ble_eq_true rfl⟩) ⟨fun a U g mk q => by obtain ⟨q0, q1, qP, qK, qD, qN⟩ := q; exact ⟨q0, q1, qP, va_K.moved (u := U) (U := U.calling g mk a) (Vm.Alike.refl U.vm) qK, qD, tqN_same (u := U) (U := U.calling g mk a) rfl qN⟩, va_recv hK hP (ci := 3) rfl (q0 := 0) rfl, fun U hU hW => ⟨rfl, by rw [hU], by rw [hU]; exact hPc, va_K.moved hW.alike hKc, hDc.weaken (fun _ _ _ _ => trivial), tqN_warm hW hN⟩⟩ rfl rfl hl.1 rfl (lv_room (Nat.le_of_ble_eq_true rfl)) dM_value_138 ⟨Nat.zero_le _, Nat.zero_le _⟩) hS (fun q _ h => hFc q h) hFc (fun u0 t H1 locs ht hvm hpost hB hz1 hk1 hS => ?_)
    obtain ⟨hP1, hK1, hD1⟩ := hB
    rw [ht] at hP1
    obtain ⟨hP, hD⟩ := va_join (wr := []) (w1 := [(mo, .inr (3, [.int nz, .ref la, .int sq, .ref sa])), (la, .inl (cI, 200, .inl lf9))]) hP hD [0, 1] [] rfl rfl (by decide) (by decide) hk1 hFc hP1 hD1
    generalize H1 = H at hP hS ⊢
    have hP := hP.sub (ws' := [(mo, .inr (3, [.int nz, .ref la, .int sq, .ref sa])), (la, .inl (cI, 200, .inl lf9))]) [0, 1] rfl
    have hD := hD.sub (ws' := [(mo, .inr (3, [.int nz, .ref la, .int sq, .ref sa])), (la, .inl (cI, 200, .inl lf9))]) [0, 1] (by decide) rfl
    refine lv_iconst (v := 4) hx hb dM_value_141 (by decide) ?_
    refine lv_iload hx hb dM_value_142 (lv_at hl 5 rfl) ?_
    refine lv_imul hx hb dM_value_144 ?_
    refine lv_iload hx hb dM_value_145 (lv_at hl 6 rfl) ?_
    refine lv_iadd hx hb dM_value_147 ?_
    refine lv_iload hx hb dM_value_148 (lv_at hl 0 rfl) ?_
    refine lv_isub hx hb dM_value_150 ?_
    refine lv_iload hx hb dM_value_151 (lv_at hl 4 rfl) ?_
    refine lv_iadd hx hb dM_value_153 ?_
    refine lv_topi (fun x10 e10 => ?_)
    have hf := tq_nm_at e10 hf
    refine lv_istore (lv' := [(13, .int x10), (12, .int t0), (0, .ref mo), (1, .int rg), (2, .long pv), (5, .int un), (10, .int v10), (11, .int v11)]) hx hb dM_value_154 hl (by decide) rfl (fun ls hl => ?_)
    refine lv_iload hx hb dM_value_156 (lv_at hl 0 rfl) ?_
    refine lv_if_lt hx hb dM_value_158 rfl (fun h11 => ?_) (fun h11 => ?_)
    · rw [if_pos h11] at hf
      refine lv_aload_n hx hb dM_value_171 rfl (lv_at hl 2 rfl) ?_
      refine lv_iload_n hx hb dM_value_172 rfl (lv_at hl 3 rfl) ?_
      refine lv_iload hx hb dM_value_173 (lv_at hl 0 rfl) ?_
      refine lv_ineg hx hb dM_value_175 ?_
      obtain ⟨lf12, hu, hf⟩ := tq_bd_some hf
      have hPc := hP.sub (ws' := [(mo, .inr (3, [.int nz, .ref la, .int sq, .ref sa])), (la, .inl (cI, 200, .inl lf9))]) [0, 1] rfl
      have hDc := hD.sub (ws' := [(mo, .inr (3, [.int nz, .ref la, .int sq, .ref sa])), (la, .inl (cI, 200, .inl lf9))]) [0, 1] (by decide) rfl
      have hKc := hK.sub (tys' := [(cI, .int)]) [0] rfl
      have hFc := va_free (wc := [(mo, .inr (3, [.int nz, .ref la, .int sq, .ref sa])), (la, .inl (cI, 200, .inl lf9))]) hD hS hA [0, 1] rfl
      refine va_callv (va_runV (As := [.int rg, .int (-x10)]) (rest := []) ⟨hx, hb, hml, hown, hww⟩ (c_m_lower l dC dI mo la sa cI H.size rg (-x10) nz sq lf9 lf12 hu) (cwV 2 hww (tq_gV tqt_389 tqt_391 tqt_13 tqt_35 tqt_392) rfl rfl rfl (by decide +kernel) ⟨Nat.le_of_ble_eq_true rfl, Nat.le_of_ble_eq_true rfl⟩) ⟨fun a U g mk q => by obtain ⟨q0, q1, qP, qK, qD, qN⟩ := q; exact ⟨q0, q1, qP, va_K.moved (u := U) (U := U.calling g mk a) (Vm.Alike.refl U.vm) qK, qD, tqN_same (u := U) (U := U.calling g mk a) rfl qN⟩, va_recv hK hP (ci := 3) rfl (q0 := 0) rfl, fun U hU hW => ⟨rfl, by rw [hU], by rw [hU]; exact hPc, va_K.moved hW.alike hKc, hDc.weaken (fun _ _ _ _ => trivial), tqN_warm hW hN⟩⟩ rfl rfl hl.1 rfl (lv_room (Nat.le_of_ble_eq_true rfl)) dM_value_176 ⟨Nat.zero_le _, Nat.zero_le _⟩) hS (fun q _ h => hFc q h) hFc (fun u0 t H1 locs ht hvm hpost hB hz1 hk1 hS => ?_)
      obtain ⟨hP1, hK1, hD1⟩ := hB
      rw [ht] at hP1
      obtain ⟨hP, hD⟩ := va_join (wr := []) (w1 := [(mo, .inr (3, [.int nz, .ref la, .int sq, .ref sa])), (la, .inl (cI, 200, .inl lf12))]) hP hD [0, 1] [] rfl rfl (by decide) (by decide) hk1 hFc hP1 hD1
      generalize H1 = H at hP hS ⊢
      have hP := hP.sub (ws' := [(mo, .inr (3, [.int nz, .ref la, .int sq, .ref sa])), (la, .inl (cI, 200, .inl lf12))]) [0, 1] rfl
      have hD := hD.sub (ws' := [(mo, .inr (3, [.int nz, .ref la, .int sq, .ref sa])), (la, .inl (cI, 200, .inl lf12))]) [0, 1] (by decide) rfl
      have hf := Option.some.inj hf
      subst hf
      exact W.vret hx hb hr (fun t ht hW => ⟨⟨(), rfl, trivial, by rw [ht]; exact hP, va_K.moved hW.alike hK, hD⟩, hS.F ht⟩) hS.2.2 dM_value_179
    · rw [if_neg h11] at hf
      refine lv_aload_n hx hb dM_value_161 rfl (lv_at hl 2 rfl) ?_
      refine lv_iload_n hx hb dM_value_162 rfl (lv_at hl 3 rfl) ?_
      refine lv_iload hx hb dM_value_163 (lv_at hl 0 rfl) ?_
      obtain ⟨lf13, hu, hf⟩ := tq_bd_some hf
      have hPc := hP.sub (ws' := [(mo, .inr (3, [.int nz, .ref la, .int sq, .ref sa])), (la, .inl (cI, 200, .inl lf9))]) [0, 1] rfl
      have hDc := hD.sub (ws' := [(mo, .inr (3, [.int nz, .ref la, .int sq, .ref sa])), (la, .inl (cI, 200, .inl lf9))]) [0, 1] (by decide) rfl
      have hKc := hK.sub (tys' := [(cI, .int)]) [0] rfl
      have hFc := va_free (wc := [(mo, .inr (3, [.int nz, .ref la, .int sq, .ref sa])), (la, .inl (cI, 200, .inl lf9))]) hD hS hA [0, 1] rfl
      refine va_callv (va_runV (As := [.int rg, .int x10]) (rest := []) ⟨hx, hb, hml, hown, hww⟩ (c_m_raise l dC dI mo la sa cI H.size rg x10 nz sq lf9 lf13 hu) (cwV 2 hww (tq_gV tqt_384 tqt_386 tqt_12 tqt_35 tqt_387) rfl rfl rfl (by decide +kernel) ⟨Nat.le_of_ble_eq_true rfl, Nat.le_of_ble_eq_true rfl⟩) ⟨fun a U g mk q => by obtain ⟨q0, q1, qP, qK, qD, qN⟩ := q; exact ⟨q0, q1, qP, va_K.moved (u := U) (U := U.calling g mk a) (Vm.Alike.refl U.vm) qK, qD, tqN_same (u := U) (U := U.calling g mk a) rfl qN⟩, va_recv hK hP (ci := 3) rfl (q0 := 0) rfl, fun U hU hW => ⟨rfl, by rw [hU], by rw [hU]; exact hPc, va_K.moved hW.alike hKc, hDc.weaken (fun _ _ _ _ => trivial), tqN_warm hW hN⟩⟩ rfl rfl hl.1 rfl (lv_room (Nat.le_of_ble_eq_true rfl)) dM_value_165 ⟨Nat.zero_le _, Nat.zero_le _⟩) hS (fun q _ h => hFc q h) hFc (fun u0 t H1 locs ht hvm hpost hB hz1 hk1 hS => ?_)
      obtain ⟨hP1, hK1, hD1⟩ := hB
      rw [ht] at hP1
      obtain ⟨hP, hD⟩ := va_join (wr := []) (w1 := [(mo, .inr (3, [.int nz, .ref la, .int sq, .ref sa])), (la, .inl (cI, 200, .inl lf13))]) hP hD [0, 1] [] rfl rfl (by decide) (by decide) hk1 hFc hP1 hD1
      generalize H1 = H at hP hS ⊢
      have hP := hP.sub (ws' := [(mo, .inr (3, [.int nz, .ref la, .int sq, .ref sa])), (la, .inl (cI, 200, .inl lf13))]) [0, 1] rfl
      have hD := hD.sub (ws' := [(mo, .inr (3, [.int nz, .ref la, .int sq, .ref sa])), (la, .inl (cI, 200, .inl lf13))]) [0, 1] (by decide) rfl
      refine lv_goto hx hb dM_value_168 rfl ?_
      have hf := Option.some.inj hf
      subst hf
      exact W.vret hx hb hr (fun t ht hW => ⟨⟨(), rfl, trivial, by rw [ht]; exact hP, va_K.moved hW.alike hK, hD⟩, hS.F ht⟩) hS.2.2 dM_value_179
  have B102 : ∀ (ls : Array Slot) (H : Heap) (locs : List Loc) (v6 : Int32) (v10 : Int32) (t0 : Int32) (t1 : Int32) (lf : Nat → Int32), m_value_b102 rg pv un v6 v10 t0 t1 lf = some r → lv_has ls 14 [(0, .ref mo), (1, .int rg), (2, .long pv), (5, .int un), (6, .int v6), (10, .int v10)] → va_P (dC, dI) tqCl [(mo, .inr (3, [.int nz, .ref la, .int sq, .ref sa])), (la, .inl (cI, 200, .inl lf))] H → va_D A [(mo, .inr (3, [.int nz, .ref la, .int sq, .ref sa])), (la, .inl (cI, 200, .inl lf))] → va_S A s.heap H locs → W p l e ({ frames := 2, cells := 0, slots := 0, locals := 46 }) s m ([.ref mo, .int rg, .long pv, .int size, .int un] : List Value).toArray below meth c H locs 0 0 (MQ below (va_Qv (fun (_ : Unit) => True) (fun (_ : Unit) (t : State) => va_P (dC, dI) tqCl [(mo, .inr (3, [.int nz, .ref la, .int sq, .ref sa])), (la, .inl (cI, 200, .inl r))] t.heap ∧ va_K (dC, dI) tqCl [(cI, .int)] t ∧ va_D (A) [(mo, .inr (3, [.int nz, .ref la, .int sq, .ref sa])), (la, .inl (cI, 200, .inl r))]) (A)) ([.ref mo, .int rg, .long pv, .int size, .int un] : List Value).toArray s 0 0 A) (F0 m 102 ls [.int t0, .int t1]) := by
    try clear hf
    intro ls H locs v6 v10 t0 t1 lf hf hl hP hD hS
    unfold m_value_b102 at hf
    refine lv_iadd hx hb dM_value_102 ?_
    refine lv_topi (fun x7 e7 => ?_)
    have hf := tq_nm_at e7 hf
    refine lv_istore (lv' := [(11, .int x7), (0, .ref mo), (1, .int rg), (2, .long pv), (5, .int un), (6, .int v6), (10, .int v10)]) hx hb dM_value_103 hl (by decide) rfl (fun ls hl => ?_)
    refine lv_iinc (v := v6 + (-2 : Int32)) (lv' := [(6, .int (v6 + (-2 : Int32))), (11, .int x7), (0, .ref mo), (1, .int rg), (2, .long pv), (5, .int un), (10, .int v10)]) hx hb dM_value_105 hl (k := 5) rfl rfl (by decide) rfl (fun ls hl => ?_)
    refine lv_iload hx hb dM_value_108 (lv_at hl 0 rfl) ?_
    refine lv_if_lt hx hb dM_value_110 rfl (fun h8 => ?_) (fun h8 => ?_)
    · rw [if_pos h8] at hf
      refine lv_iconst (v := 0) hx hb dM_value_120 (by decide) ?_
      exact B121 ls _ _ v10 x7 (0 : Int32) lf hf (lv_sub hl [2, 3, 4, 5, 6, 1] rfl) hP hD hS
    · rw [if_neg h8] at hf
      refine lv_iload hx hb dM_value_113 (lv_at hl 0 rfl) ?_
      refine lv_iconst (v := 1) hx hb dM_value_115 (by decide) ?_
      refine lv_iadd hx hb dM_value_116 ?_
      refine lv_goto hx hb dM_value_117 rfl ?_
      exact B121 ls _ _ v10 x7 ((v6 + (-2 : Int32)) + (1 : Int32)) lf hf (lv_sub hl [2, 3, 4, 5, 6, 1] rfl) hP hD hS
  have B83 : ∀ (ls : Array Slot) (H : Heap) (locs : List Loc) (v6 : Int32) (v10 : Int32) (t0 : Int32) (lf : Nat → Int32), m_value_b83 rg pv un v6 v10 t0 lf = some r → lv_has ls 14 [(0, .ref mo), (1, .int rg), (2, .long pv), (5, .int un), (6, .int v6), (10, .int v10)] → va_P (dC, dI) tqCl [(mo, .inr (3, [.int nz, .ref la, .int sq, .ref sa])), (la, .inl (cI, 200, .inl lf))] H → va_D A [(mo, .inr (3, [.int nz, .ref la, .int sq, .ref sa])), (la, .inl (cI, 200, .inl lf))] → va_S A s.heap H locs → W p l e ({ frames := 2, cells := 0, slots := 0, locals := 46 }) s m ([.ref mo, .int rg, .long pv, .int size, .int un] : List Value).toArray below meth c H locs 0 0 (MQ below (va_Qv (fun (_ : Unit) => True) (fun (_ : Unit) (t : State) => va_P (dC, dI) tqCl [(mo, .inr (3, [.int nz, .ref la, .int sq, .ref sa])), (la, .inl (cI, 200, .inl r))] t.heap ∧ va_K (dC, dI) tqCl [(cI, .int)] t ∧ va_D (A) [(mo, .inr (3, [.int nz, .ref la, .int sq, .ref sa])), (la, .inl (cI, 200, .inl r))]) (A)) ([.ref mo, .int rg, .long pv, .int size, .int un] : List Value).toArray s 0 0 A) (F0 m 83 ls [.int t0]) := by
    try clear hf
    intro ls H locs v6 v10 t0 lf hf hl hP hD hS
    unfold m_value_b83 at hf
    refine lv_iload hx hb dM_value_83 (lv_at hl 4 rfl) ?_
    refine lv_iconst (v := 1) hx hb dM_value_85 (by decide) ?_
    refine lv_icmp_lt hx hb dM_value_86 rfl (fun h6 => ?_) (fun h6 => ?_)
    · rw [if_pos h6] at hf
      refine lv_iconst (v := 0) hx hb dM_value_101 (by decide) ?_
      exact B102 ls _ _ v6 v10 (0 : Int32) t0 lf hf (lv_sub hl [0, 1, 2, 3, 4, 5] rfl) hP hD hS
    · rw [if_neg h6] at hf
      refine lv_lload_n hx hb dM_value_89 rfl (lv_at hl 2 rfl) ?_
      refine lv_iload hx hb dM_value_90 (lv_at hl 4 rfl) ?_
      refine lv_iconst (v := 1) hx hb dM_value_92 (by decide) ?_
      refine lv_isub hx hb dM_value_93 ?_
      refine lv_lshr hx hb dM_value_94 rfl ?_
      refine lv_lconst (v := 1) hx hb dM_value_95 (by decide) ?_
      refine lv_land hx hb dM_value_96 ?_
      refine lv_l2i hx hb dM_value_97 rfl ?_
      refine lv_goto hx hb dM_value_98 rfl ?_
      exact B102 ls _ _ v6 v10 (((pv >>> ((v6 - (1 : Int32)).toInt64 &&& 63)) &&& (1 : Int64)).toInt32) t0 lf hf (lv_sub hl [0, 1, 2, 3, 4, 5] rfl) hP hD hS
  have B60 : ∀ (ls : Array Slot) (H : Heap) (locs : List Loc) (v6 : Int32) (t0 : Int32) (lf : Nat → Int32), m_value_b60 rg pv un v6 t0 lf = some r → lv_has ls 14 [(0, .ref mo), (1, .int rg), (2, .long pv), (5, .int un), (6, .int v6)] → va_P (dC, dI) tqCl [(mo, .inr (3, [.int nz, .ref la, .int sq, .ref sa])), (la, .inl (cI, 200, .inl lf))] H → va_D A [(mo, .inr (3, [.int nz, .ref la, .int sq, .ref sa])), (la, .inl (cI, 200, .inl lf))] → va_S A s.heap H locs → W p l e ({ frames := 2, cells := 0, slots := 0, locals := 46 }) s m ([.ref mo, .int rg, .long pv, .int size, .int un] : List Value).toArray below meth c H locs 0 0 (MQ below (va_Qv (fun (_ : Unit) => True) (fun (_ : Unit) (t : State) => va_P (dC, dI) tqCl [(mo, .inr (3, [.int nz, .ref la, .int sq, .ref sa])), (la, .inl (cI, 200, .inl r))] t.heap ∧ va_K (dC, dI) tqCl [(cI, .int)] t ∧ va_D (A) [(mo, .inr (3, [.int nz, .ref la, .int sq, .ref sa])), (la, .inl (cI, 200, .inl r))]) (A)) ([.ref mo, .int rg, .long pv, .int size, .int un] : List Value).toArray s 0 0 A) (F0 m 60 ls [.int t0]) := by
    try clear hf
    intro ls H locs v6 t0 lf hf hl hP hD hS
    unfold m_value_b60 at hf
    refine lv_istore (lv' := [(10, .int t0), (0, .ref mo), (1, .int rg), (2, .long pv), (5, .int un), (6, .int v6)]) hx hb dM_value_60 hl (by decide) rfl (fun ls hl => ?_)
    refine lv_iinc (v := v6 + (-1 : Int32)) (lv' := [(6, .int (v6 + (-1 : Int32))), (10, .int t0), (0, .ref mo), (1, .int rg), (2, .long pv), (5, .int un)]) hx hb dM_value_62 hl (k := 5) rfl rfl (by decide) rfl (fun ls hl => ?_)
    refine lv_iload hx hb dM_value_65 (lv_at hl 0 rfl) ?_
    refine lv_if_lt hx hb dM_value_67 rfl (fun h5 => ?_) (fun h5 => ?_)
    · rw [if_pos h5] at hf
      refine lv_iconst (v := 0) hx hb dM_value_82 (by decide) ?_
      exact B83 ls _ _ (v6 + (-1 : Int32)) t0 (0 : Int32) lf hf (lv_sub hl [2, 3, 4, 5, 0, 1] rfl) hP hD hS
    · rw [if_neg h5] at hf
      refine lv_iconst (v := 2) hx hb dM_value_70 (by decide) ?_
      refine lv_lload_n hx hb dM_value_71 rfl (lv_at hl 4 rfl) ?_
      refine lv_iload hx hb dM_value_72 (lv_at hl 0 rfl) ?_
      refine lv_lshr hx hb dM_value_74 rfl ?_
      refine lv_lconst (v := 1) hx hb dM_value_75 (by decide) ?_
      refine lv_land hx hb dM_value_76 ?_
      refine lv_l2i hx hb dM_value_77 rfl ?_
      refine lv_imul hx hb dM_value_78 ?_
      refine lv_goto hx hb dM_value_79 rfl ?_
      exact B83 ls _ _ (v6 + (-1 : Int32)) t0 ((2 : Int32) * (((pv >>> ((v6 + (-1 : Int32)).toInt64 &&& 63)) &&& (1 : Int64)).toInt32)) lf hf (lv_sub hl [2, 3, 4, 5, 0, 1] rfl) hP hD hS
  have B43 : ∀ (ls : Array Slot) (H : Heap) (locs : List Loc) (v6 : Int32) (v7 : Int64) (v9 : Int32) (lf : Nat → Int32), m_value_b43 rg pv un v6 v7 v9 lf = some r → lv_has ls 14 [(0, .ref mo), (1, .int rg), (2, .long pv), (5, .int un), (6, .int v6), (7, .long v7), (9, .int v9)] → va_P (dC, dI) tqCl [(mo, .inr (3, [.int nz, .ref la, .int sq, .ref sa])), (la, .inl (cI, 200, .inl lf))] H → va_D A [(mo, .inr (3, [.int nz, .ref la, .int sq, .ref sa])), (la, .inl (cI, 200, .inl lf))] → va_S A s.heap H locs → W p l e ({ frames := 2, cells := 0, slots := 0, locals := 46 }) s m ([.ref mo, .int rg, .long pv, .int size, .int un] : List Value).toArray below meth c H locs 0 0 (MQ below (va_Qv (fun (_ : Unit) => True) (fun (_ : Unit) (t : State) => va_P (dC, dI) tqCl [(mo, .inr (3, [.int nz, .ref la, .int sq, .ref sa])), (la, .inl (cI, 200, .inl r))] t.heap ∧ va_K (dC, dI) tqCl [(cI, .int)] t ∧ va_D (A) [(mo, .inr (3, [.int nz, .ref la, .int sq, .ref sa])), (la, .inl (cI, 200, .inl r))]) (A)) ([.ref mo, .int rg, .long pv, .int size, .int un] : List Value).toArray s 0 0 A) (F0 m 43 ls []) := by
    try clear hf
    intro ls H locs v6 v7 v9 lf hf hl hP hD hS
    unfold m_value_b43 at hf
    refine lv_lload hx hb dM_value_43 (lv_at hl 5 rfl) ?_
    refine lv_lconst (v := 1) hx hb dM_value_45 (by decide) ?_
    refine W.lcmp hx hb dM_value_46 ?_
    refine lv_if_ne hx hb dM_value_47 rfl (fun h4 => ?_) (fun h4 => ?_)
    · rw [if_pos h4] at hf
      refine lv_iload hx hb dM_value_57 (lv_at hl 6 rfl) ?_
      refine lv_ineg hx hb dM_value_59 ?_
      exact B60 ls _ _ v6 (-v9) lf hf (lv_sub hl [0, 1, 2, 3, 4] rfl) hP hD hS
    · rw [if_neg (fun q : ¬ (lg_cmp v7 (1 : Int64)) = 0 => q h4)] at hf
      refine lv_iload hx hb dM_value_50 (lv_at hl 6 rfl) ?_
      refine lv_iconst (v := 1) hx hb dM_value_52 (by decide) ?_
      refine lv_isub hx hb dM_value_53 ?_
      refine lv_goto hx hb dM_value_54 rfl ?_
      exact B60 ls _ _ v6 (v9 - (1 : Int32)) lf hf (lv_sub hl [0, 1, 2, 3, 4] rfl) hP hD hS
  have B17 : ∀ (n17 : Nat) (ls : Array Slot) (H : Heap) (locs : List Loc) (v6 : Int32) (v7 : Int64) (v9 : Int32) (lf : Nat → Int32), m_value_b17 rg pv un n17 v6 v7 v9 lf = some r → lv_has ls 14 [(0, .ref mo), (1, .int rg), (2, .long pv), (5, .int un), (6, .int v6), (7, .long v7), (9, .int v9)] → va_P (dC, dI) tqCl [(mo, .inr (3, [.int nz, .ref la, .int sq, .ref sa])), (la, .inl (cI, 200, .inl lf))] H → va_D A [(mo, .inr (3, [.int nz, .ref la, .int sq, .ref sa])), (la, .inl (cI, 200, .inl lf))] → va_S A s.heap H locs → W p l e ({ frames := 2, cells := 0, slots := 0, locals := 46 }) s m ([.ref mo, .int rg, .long pv, .int size, .int un] : List Value).toArray below meth c H locs 0 0 (MQ below (va_Qv (fun (_ : Unit) => True) (fun (_ : Unit) (t : State) => va_P (dC, dI) tqCl [(mo, .inr (3, [.int nz, .ref la, .int sq, .ref sa])), (la, .inl (cI, 200, .inl r))] t.heap ∧ va_K (dC, dI) tqCl [(cI, .int)] t ∧ va_D (A) [(mo, .inr (3, [.int nz, .ref la, .int sq, .ref sa])), (la, .inl (cI, 200, .inl r))]) (A)) ([.ref mo, .int rg, .long pv, .int size, .int un] : List Value).toArray s 0 0 A) (F0 m 17 ls []) := by
    try clear hf
    intro n17
    induction n17 with
    | zero =>
      intro ls H locs v6 v7 v9 lf hf hl hP hD hS
      have hf : (none : Option ((Nat → Int32))) = some r := hf
      cases hf
    | succ n17 ih17 =>
      intro ls H locs v6 v7 v9 lf hf hl hP hD hS
      unfold m_value_b17 at hf
      refine lv_iload hx hb dM_value_17 (lv_at hl 4 rfl) ?_
      refine lv_if_lt hx hb dM_value_19 rfl (fun h3 => ?_) (fun h3 => ?_)
      · rw [if_pos h3] at hf
        exact B43 ls _ _ v6 v7 v9 lf hf (lv_sub hl [0, 1, 2, 3, 4, 5, 6] rfl) hP hD hS
      · rw [if_neg h3] at hf
        refine lv_lload_n hx hb dM_value_22 rfl (lv_at hl 2 rfl) ?_
        refine lv_iload hx hb dM_value_23 (lv_at hl 4 rfl) ?_
        refine lv_lshr hx hb dM_value_25 rfl ?_
        refine lv_lconst (v := 1) hx hb dM_value_26 (by decide) ?_
        refine lv_land hx hb dM_value_27 ?_
        refine lv_lload hx hb dM_value_28 (lv_at hl 5 rfl) ?_
        refine W.lcmp hx hb dM_value_30 ?_
        refine lv_if_ne hx hb dM_value_31 rfl (fun h14 => ?_) (fun h14 => ?_)
        · rw [if_pos h14] at hf
          exact B43 ls _ _ v6 v7 v9 lf hf (lv_sub hl [0, 1, 2, 3, 4, 5, 6] rfl) hP hD hS
        · rw [if_neg (fun q : ¬ (lg_cmp ((pv >>> (v6.toInt64 &&& 63)) &&& (1 : Int64)) v7) = 0 => q h14)] at hf
          refine lv_iinc (v := v9 + (1 : Int32)) (lv' := [(9, .int (v9 + (1 : Int32))), (0, .ref mo), (1, .int rg), (2, .long pv), (5, .int un), (6, .int v6), (7, .long v7)]) hx hb dM_value_34 hl (k := 6) rfl rfl (by decide) rfl (fun ls hl => ?_)
          refine lv_iinc (v := v6 + (-1 : Int32)) (lv' := [(6, .int (v6 + (-1 : Int32))), (9, .int (v9 + (1 : Int32))), (0, .ref mo), (1, .int rg), (2, .long pv), (5, .int un), (7, .long v7)]) hx hb dM_value_37 hl (k := 5) rfl rfl (by decide) rfl (fun ls hl => ?_)
          refine lv_goto hx hb dM_value_40 rfl ?_
          exact ih17 ls _ _ (v6 + (-1 : Int32)) v7 (v9 + (1 : Int32)) lf hf (lv_sub hl [2, 3, 4, 5, 0, 6, 1] rfl) hP hD hS
  unfold m_value at hf
  refine lv_iload hx hb dM_value_0 (lv_at hl 3 rfl) ?_
  refine lv_iconst (v := 2) hx hb dM_value_2 (by decide) ?_
  refine lv_isub hx hb dM_value_3 ?_
  refine lv_topi (fun x1 e1 => ?_)
  have hf := tq_nm_at e1 hf
  refine lv_istore (lv' := [(6, .int x1), (0, .ref mo), (1, .int rg), (2, .long pv), (4, .int size), (5, .int un)]) hx hb dM_value_4 hl (by decide) rfl (fun ls hl => ?_)
  refine lv_lload_n hx hb dM_value_6 rfl (lv_at hl 3 rfl) ?_
  refine lv_iload hx hb dM_value_7 (lv_at hl 0 rfl) ?_
  refine lv_lshr hx hb dM_value_9 rfl ?_
  refine lv_lconst (v := 1) hx hb dM_value_10 (by decide) ?_
  refine lv_land hx hb dM_value_11 ?_
  refine lv_topl (fun x2 e2 => ?_)
  have hf := tq_nm_at e2 hf
  refine lv_lstore (lv' := [(7, .long x2), (6, .int x1), (0, .ref mo), (1, .int rg), (2, .long pv), (4, .int size), (5, .int un)]) hx hb dM_value_12 hl (by decide) rfl (fun ls hl => ?_)
  refine lv_iconst (v := 0) hx hb dM_value_14 (by decide) ?_
  refine lv_istore (lv' := [(9, .int (0 : Int32)), (7, .long x2), (6, .int x1), (0, .ref mo), (1, .int rg), (2, .long pv), (4, .int size), (5, .int un)]) hx hb dM_value_15 hl (by decide) rfl (fun ls hl => ?_)
  exact B17 41 ls _ _ x1 x2 (0 : Int32) lf hf (lv_sub hl [3, 4, 5, 7, 2, 1, 0] rfl) hP hD hS
