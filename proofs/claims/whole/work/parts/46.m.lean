set_option maxHeartbeats 4000000 in
set_option maxRecDepth 100000 in
theorem c_m_lost (l : Launch) (dC : Nat → ClassId) (dI : Nat → Nat → Nat) (mo : Nat) (la : Nat) (sa : Nat) (cI : ClassId) (sz : Nat) (q : Int32) (nz : Int32) (sq : Int32) (sf : Nat → Int32) (r : Int32) (hf : m_lost nz sf q = some r) : Met l yM_lost tqw_M_lost ({ frames := 0, cells := 0, slots := 0, locals := 0 }) (va_Pc [.ref mo, .int q] (fun U => U.heap.size = sz ∧ va_P (dC, dI) tqCl [(mo, .inr (3, [.int nz, .ref la, .int sq, .ref sa])), (sa, .inl (cI, 64, .inl sf))] U.heap ∧ va_K (dC, dI) tqCl [(cI, .int)] U ∧ va_D (fun _ => True) [(mo, .inr (3, [.int nz, .ref la, .int sq, .ref sa])), (sa, .inl (cI, 64, .inl sf))] ∧ tqN U)) (va_Qi (fun (a : Int32) (_ : Unit) => a = r) (fun (_ : Unit) (t : State) => va_P (dC, dI) tqCl [(mo, .inr (3, [.int nz, .ref la, .int sq, .ref sa])), (sa, .inl (cI, 64, .inl sf))] t.heap ∧ va_K (dC, dI) tqCl [(cI, .int)] t ∧ va_D (va_A [(mo, .inr (3, [.int nz, .ref la, .int sq, .ref sa])), (sa, .inl (cI, 64, .inl sf))] sz) [(mo, .inr (3, [.int nz, .ref la, .int sq, .ref sa])), (sa, .inl (cI, 64, .inl sf))]) (va_A [(mo, .inr (3, [.int nz, .ref la, .int sq, .ref sa])), (sa, .inl (cI, 64, .inl sf))] sz)) 0 0 (va_A [(mo, .inr (3, [.int nz, .ref la, .int sq, .ref sa])), (sa, .inl (cI, 64, .inl sf))] sz) := by
  refine Met.ofW (cc := cM_lost) (maxL := 4) (ret := (some .boolean)) (by decide) rfl ?_
  intro p e s m args below meth c s₁ B hml hv
  obtain ⟨rfl, hsz, hP, hK, hD0, hN⟩ := hv
  have hx := B.exec
  have hb := B.bytes
  have hr := B.returns
  have hts := atoms_spec (ws := tqw_M_lost) B.pre
  have hww : ∀ w ∈ tqW, w.before _ s = true := fun w h => hts w (List.mem_cons_of_mem _ h)
  have hown : s.vm.findClass RM = some m.cls := findClass_of_methodNamed B.named
  have hlocks := B.notSynchronized
  subst hsz
  have hD := hD0.self (sz := s.heap.size)
  generalize hAe : va_A [(mo, .inr (3, [.int nz, .ref la, .int sq, .ref sa])), (sa, .inl (cI, 64, .inl sf))] s.heap.size = A at hD ⊢
  have hA : ∀ q : Nat, s.heap.size ≤ q → A q := fun q h => by rw [← hAe]; exact Or.inr h
  have hS : va_S A s.heap s.heap [] := va_S.rf
  have hP : va_P (dC, dI) tqCl [(mo, .inr (3, [.int nz, .ref la, .int sq, .ref sa])), (sa, .inl (cI, 64, .inl sf))] s.heap := hP
  have hl := lv_entry ([.ref mo, .int q]) (n := 4) (Nat.le_of_ble_eq_true rfl)
  rw [lg_entry_eq]
  generalize (lg_sl ([.ref mo, .int q]) ++ List.replicate (4 - (lg_sl ([.ref mo, .int q])).length) Slot.unset).toArray = ls at hl ⊢
  have hl : lv_has ls 4 [(0, .ref mo), (1, .int q)] := hl
  have B29 : ∀ (n29 : Nat) (ls : Array Slot) (H : Heap) (locs : List Loc) (v2 : Int32) (v3 : Int32), m_lost_b29 nz sf q n29 v2 v3 = some r → lv_has ls 4 [(0, .ref mo), (1, .int q), (2, .int v2), (3, .int v3)] → va_P (dC, dI) tqCl [(mo, .inr (3, [.int nz, .ref la, .int sq, .ref sa])), (sa, .inl (cI, 64, .inl sf))] H → va_D A [(mo, .inr (3, [.int nz, .ref la, .int sq, .ref sa])), (sa, .inl (cI, 64, .inl sf))] → va_S A s.heap H locs → (v2 = 0 ∨ v2 = 1) → W p l e ({ frames := 0, cells := 0, slots := 0, locals := 0 }) s m ([.ref mo, .int q] : List Value).toArray below meth c H locs 0 0 (MQ below (va_Qi (fun (a : Int32) (_ : Unit) => a = r) (fun (_ : Unit) (t : State) => va_P (dC, dI) tqCl [(mo, .inr (3, [.int nz, .ref la, .int sq, .ref sa])), (sa, .inl (cI, 64, .inl sf))] t.heap ∧ va_K (dC, dI) tqCl [(cI, .int)] t ∧ va_D (A) [(mo, .inr (3, [.int nz, .ref la, .int sq, .ref sa])), (sa, .inl (cI, 64, .inl sf))]) (A)) ([.ref mo, .int q] : List Value).toArray s 0 0 A) (F0 m 29 ls []) := by
    try clear hf
    intro n29
    induction n29 with
    | zero =>
      intro ls H locs v2 v3 hf hl hP hD hS hb_v2
      have hf : (none : Option (Int32)) = some r := hf
      cases hf
    | succ n29 ih29 =>
      have B62 : ∀ (ls : Array Slot) (H : Heap) (locs : List Loc) (v3 : Int32) (t0 : Int32), m_lost_b62 (m_lost_b29 nz sf q n29) v3 t0 = some r → lv_has ls 4 [(0, .ref mo), (1, .int q), (3, .int v3)] → va_P (dC, dI) tqCl [(mo, .inr (3, [.int nz, .ref la, .int sq, .ref sa])), (sa, .inl (cI, 64, .inl sf))] H → va_D A [(mo, .inr (3, [.int nz, .ref la, .int sq, .ref sa])), (sa, .inl (cI, 64, .inl sf))] → va_S A s.heap H locs → (t0 = 0 ∨ t0 = 1) → W p l e ({ frames := 0, cells := 0, slots := 0, locals := 0 }) s m ([.ref mo, .int q] : List Value).toArray below meth c H locs 0 0 (MQ below (va_Qi (fun (a : Int32) (_ : Unit) => a = r) (fun (_ : Unit) (t : State) => va_P (dC, dI) tqCl [(mo, .inr (3, [.int nz, .ref la, .int sq, .ref sa])), (sa, .inl (cI, 64, .inl sf))] t.heap ∧ va_K (dC, dI) tqCl [(cI, .int)] t ∧ va_D (A) [(mo, .inr (3, [.int nz, .ref la, .int sq, .ref sa])), (sa, .inl (cI, 64, .inl sf))]) (A)) ([.ref mo, .int q] : List Value).toArray s 0 0 A) (F0 m 62 ls [.int t0]) := by
        try clear hf
        intro ls H locs v3 t0 hf hl hP hD hS hb_t0
        unfold m_lost_b62 at hf
        refine lv_istore_n (lv' := [(2, .int t0), (0, .ref mo), (1, .int q), (3, .int v3)]) hx hb dM_lost_62 rfl hl (by decide) rfl (fun ls hl => ?_)
        refine lv_iinc (v := v3 + (1 : Int32)) (lv' := [(3, .int (v3 + (1 : Int32))), (2, .int t0), (0, .ref mo), (1, .int q)]) hx hb dM_lost_63 hl (k := 3) rfl rfl (by decide) rfl (fun ls hl => ?_)
        refine lv_goto hx hb dM_lost_66 rfl ?_
        exact ih29 ls _ _ t0 (v3 + (1 : Int32)) hf (lv_sub hl [2, 3, 1, 0] rfl) hP hD hS hb_t0
      intro ls H locs v2 v3 hf hl hP hD hS hb_v2
      unfold m_lost_b29 at hf
      refine lv_iload_n hx hb dM_lost_29 rfl (lv_at hl 3 rfl) ?_
      refine lv_aload_n hx hb dM_lost_30 rfl (lv_at hl 0 rfl) ?_
      refine va_get (D := (dC, dI)) (ci := 3) (v := .int nz) (C := RM) (T := TM) (N := 4) hx hb hww tqinM hown hK hP 0 rfl rfl 0 (by decide) (hww _ tqt_330) (fun _ h9 => h9) rfl dM_lost_31 ?_
      refine lv_iconst (v := 1) hx hb dM_lost_34 (by decide) ?_
      refine lv_isub hx hb dM_lost_35 ?_
      refine lv_icmp_ge hx hb dM_lost_36 rfl (fun h7 => ?_) (fun h7 => ?_)
      · rw [if_pos h7] at hf
        refine lv_iload_n hx hb dM_lost_69 rfl (lv_at hl 2 rfl) ?_
        have hf := Option.some.inj hf
        subst hf
        exact W.zret (v := v2) hx hb hr (tq_nb_bool hb_v2) (fun t ht hW => ⟨⟨v2, (), rfl, rfl, by rw [ht]; exact hP, va_K.moved hW.alike hK, hD⟩, hS.F ht⟩) hS.2.2 dM_lost_70
      · rw [if_neg h7] at hf
        refine lv_iload_n hx hb dM_lost_39 rfl (lv_at hl 2 rfl) ?_
        refine lv_if_eq hx hb dM_lost_40 rfl (fun h8 => ?_) (fun h8 => ?_)
        · rw [if_pos h8] at hf
          refine lv_iconst (v := 0) hx hb dM_lost_61 (by decide) ?_
          exact B62 ls _ _ v3 (0 : Int32) hf (lv_sub hl [0, 1, 3] rfl) hP hD hS (by decide)
        · rw [if_neg h8] at hf
          refine lv_aload_n hx hb dM_lost_43 rfl (lv_at hl 0 rfl) ?_
          refine va_get (D := (dC, dI)) (ci := 3) (v := .ref sa) (C := RM) (T := TM) (N := 4) hx hb hww tqinM hown hK hP 0 rfl rfl 3 (by decide) (hww _ tqt_333) (fun _ h9 => h9) rfl dM_lost_44 ?_
          refine lv_bipush (v := 32) hx hb dM_lost_47 (by decide) ?_
          refine lv_iload_n hx hb dM_lost_49 rfl (lv_at hl 1 rfl) ?_
          refine lv_imul hx hb dM_lost_50 ?_
          refine lv_iload_n hx hb dM_lost_51 rfl (lv_at hl 3 rfl) ?_
          refine lv_iadd hx hb dM_lost_52 ?_
          by_cases h9 : ((((32 : Int32) * q) + v3) < 0 ∨ 64 ≤ (((32 : Int32) * q) + v3).toNatClampNeg)
          · rw [if_pos h9] at hf
            cases hf
          · rw [if_neg h9] at hf
            refine va_iald hx hb hK hP 1 0 rfl rfl h9 dM_lost_53 ?_
            refine lv_if_ne hx hb dM_lost_54 rfl (fun h10 => ?_) (fun h10 => ?_)
            · rw [if_pos h10] at hf
              refine lv_iconst (v := 0) hx hb dM_lost_61 (by decide) ?_
              exact B62 ls _ _ v3 (0 : Int32) hf (lv_sub hl [0, 1, 3] rfl) hP hD hS (by decide)
            · rw [if_neg (fun q : ¬ (sf (((32 : Int32) * q) + v3).toNatClampNeg) = 0 => q h10)] at hf
              refine lv_iconst (v := 1) hx hb dM_lost_57 (by decide) ?_
              refine lv_goto hx hb dM_lost_58 rfl ?_
              exact B62 ls _ _ v3 (1 : Int32) hf (lv_sub hl [0, 1, 3] rfl) hP hD hS (by decide)
  have B26 : ∀ (ls : Array Slot) (H : Heap) (locs : List Loc) (t0 : Int32), m_lost_b26 nz sf q t0 = some r → lv_has ls 4 [(0, .ref mo), (1, .int q)] → va_P (dC, dI) tqCl [(mo, .inr (3, [.int nz, .ref la, .int sq, .ref sa])), (sa, .inl (cI, 64, .inl sf))] H → va_D A [(mo, .inr (3, [.int nz, .ref la, .int sq, .ref sa])), (sa, .inl (cI, 64, .inl sf))] → va_S A s.heap H locs → (t0 = 0 ∨ t0 = 1) → W p l e ({ frames := 0, cells := 0, slots := 0, locals := 0 }) s m ([.ref mo, .int q] : List Value).toArray below meth c H locs 0 0 (MQ below (va_Qi (fun (a : Int32) (_ : Unit) => a = r) (fun (_ : Unit) (t : State) => va_P (dC, dI) tqCl [(mo, .inr (3, [.int nz, .ref la, .int sq, .ref sa])), (sa, .inl (cI, 64, .inl sf))] t.heap ∧ va_K (dC, dI) tqCl [(cI, .int)] t ∧ va_D (A) [(mo, .inr (3, [.int nz, .ref la, .int sq, .ref sa])), (sa, .inl (cI, 64, .inl sf))]) (A)) ([.ref mo, .int q] : List Value).toArray s 0 0 A) (F0 m 26 ls [.int t0]) := by
    try clear hf
    intro ls H locs t0 hf hl hP hD hS hb_t0
    unfold m_lost_b26 at hf
    refine lv_istore_n (lv' := [(2, .int t0), (0, .ref mo), (1, .int q)]) hx hb dM_lost_26 rfl hl (by decide) rfl (fun ls hl => ?_)
    refine lv_iconst (v := 0) hx hb dM_lost_27 (by decide) ?_
    refine lv_istore_n (lv' := [(3, .int (0 : Int32)), (2, .int t0), (0, .ref mo), (1, .int q)]) hx hb dM_lost_28 rfl hl (by decide) rfl (fun ls hl => ?_)
    exact B29 41 ls _ _ t0 (0 : Int32) hf (lv_sub hl [2, 3, 1, 0] rfl) hP hD hS hb_t0
  unfold m_lost at hf
  refine lv_aload_n hx hb dM_lost_0 rfl (lv_at hl 0 rfl) ?_
  refine va_get (D := (dC, dI)) (ci := 3) (v := .ref sa) (C := RM) (T := TM) (N := 4) hx hb hww tqinM hown hK hP 0 rfl rfl 3 (by decide) (hww _ tqt_333) (fun _ h9 => h9) rfl dM_lost_1 ?_
  refine lv_bipush (v := 32) hx hb dM_lost_4 (by decide) ?_
  refine lv_iload_n hx hb dM_lost_6 rfl (lv_at hl 1 rfl) ?_
  refine lv_imul hx hb dM_lost_7 ?_
  refine lv_aload_n hx hb dM_lost_8 rfl (lv_at hl 0 rfl) ?_
  refine va_get (D := (dC, dI)) (ci := 3) (v := .int nz) (C := RM) (T := TM) (N := 4) hx hb hww tqinM hown hK hP 0 rfl rfl 0 (by decide) (hww _ tqt_330) (fun _ h9 => h9) rfl dM_lost_9 ?_
  refine lv_iadd hx hb dM_lost_12 ?_
  refine lv_iconst (v := 1) hx hb dM_lost_13 (by decide) ?_
  refine lv_isub hx hb dM_lost_14 ?_
  by_cases h1 : (((((32 : Int32) * q) + nz) - (1 : Int32)) < 0 ∨ 64 ≤ ((((32 : Int32) * q) + nz) - (1 : Int32)).toNatClampNeg)
  · rw [if_pos h1] at hf
    cases hf
  · rw [if_neg h1] at hf
    refine va_iald hx hb hK hP 1 0 rfl rfl h1 dM_lost_15 ?_
    refine lv_ldc (v := 32768) hx hb hown (hww _ tqt_499) dM_lost_16 ?_
    refine lv_icmp_ne hx hb dM_lost_18 rfl (fun h2 => ?_) (fun h2 => ?_)
    · rw [if_pos h2] at hf
      refine lv_iconst (v := 0) hx hb dM_lost_25 (by decide) ?_
      exact B26 ls _ _ (0 : Int32) hf (lv_sub hl [0, 1] rfl) hP hD hS (by decide)
    · rw [if_neg (fun q : ¬ (sf ((((32 : Int32) * q) + nz) - (1 : Int32)).toNatClampNeg) = (32768 : Int32) => q h2)] at hf
      refine lv_iconst (v := 1) hx hb dM_lost_21 (by decide) ?_
      refine lv_goto hx hb dM_lost_22 rfl ?_
      exact B26 ls _ _ (1 : Int32) hf (lv_sub hl [0, 1] rfl) hP hD hS (by decide)
set_option maxHeartbeats 4000000 in
set_option maxRecDepth 100000 in
theorem c_m_lose (l : Launch) (dC : Nat → ClassId) (dI : Nat → Nat → Nat) (mo : Nat) (la : Nat) (sa : Nat) (cI : ClassId) (sz : Nat) (q : Int32) (nz : Int32) (sq : Int32) (sf : Nat → Int32) (r : (Nat → Int32)) (hf : m_lose nz sf q = some r) : Met l yM_lose tqw_M_lose ({ frames := 0, cells := 0, slots := 0, locals := 0 }) (va_Pc [.ref mo, .int q] (fun U => U.heap.size = sz ∧ va_P (dC, dI) tqCl [(mo, .inr (3, [.int nz, .ref la, .int sq, .ref sa])), (sa, .inl (cI, 64, .inl sf))] U.heap ∧ va_K (dC, dI) tqCl [(cI, .int)] U ∧ va_D (fun _ => True) [(mo, .inr (3, [.int nz, .ref la, .int sq, .ref sa])), (sa, .inl (cI, 64, .inl sf))] ∧ tqN U)) (va_Qv (fun (_ : Unit) => True) (fun (_ : Unit) (t : State) => va_P (dC, dI) tqCl [(mo, .inr (3, [.int nz, .ref la, .int sq, .ref sa])), (sa, .inl (cI, 64, .inl r))] t.heap ∧ va_K (dC, dI) tqCl [(cI, .int)] t ∧ va_D (va_A [(mo, .inr (3, [.int nz, .ref la, .int sq, .ref sa])), (sa, .inl (cI, 64, .inl sf))] sz) [(mo, .inr (3, [.int nz, .ref la, .int sq, .ref sa])), (sa, .inl (cI, 64, .inl r))]) (va_A [(mo, .inr (3, [.int nz, .ref la, .int sq, .ref sa])), (sa, .inl (cI, 64, .inl sf))] sz)) 0 0 (va_A [(mo, .inr (3, [.int nz, .ref la, .int sq, .ref sa])), (sa, .inl (cI, 64, .inl sf))] sz) := by
  refine Met.ofW (cc := cM_lose) (maxL := 3) (ret := none) (by decide) rfl ?_
  intro p e s m args below meth c s₁ B hml hv
  obtain ⟨rfl, hsz, hP, hK, hD0, hN⟩ := hv
  have hx := B.exec
  have hb := B.bytes
  have hr := B.returns
  have hts := atoms_spec (ws := tqw_M_lose) B.pre
  have hww : ∀ w ∈ tqW, w.before _ s = true := fun w h => hts w (List.mem_cons_of_mem _ h)
  have hown : s.vm.findClass RM = some m.cls := findClass_of_methodNamed B.named
  have hlocks := B.notSynchronized
  subst hsz
  have hD := hD0.self (sz := s.heap.size)
  generalize hAe : va_A [(mo, .inr (3, [.int nz, .ref la, .int sq, .ref sa])), (sa, .inl (cI, 64, .inl sf))] s.heap.size = A at hD ⊢
  have hA : ∀ q : Nat, s.heap.size ≤ q → A q := fun q h => by rw [← hAe]; exact Or.inr h
  have hS : va_S A s.heap s.heap [] := va_S.rf
  have hP : va_P (dC, dI) tqCl [(mo, .inr (3, [.int nz, .ref la, .int sq, .ref sa])), (sa, .inl (cI, 64, .inl sf))] s.heap := hP
  have hl := lv_entry ([.ref mo, .int q]) (n := 3) (Nat.le_of_ble_eq_true rfl)
  rw [lg_entry_eq]
  generalize (lg_sl ([.ref mo, .int q]) ++ List.replicate (3 - (lg_sl ([.ref mo, .int q])).length) Slot.unset).toArray = ls at hl ⊢
  have hl : lv_has ls 3 [(0, .ref mo), (1, .int q)] := hl
  have B2 : ∀ (n2 : Nat) (ls : Array Slot) (H : Heap) (locs : List Loc) (v2 : Int32) (sf : Nat → Int32), m_lose_b2 nz q n2 v2 sf = some r → lv_has ls 3 [(0, .ref mo), (1, .int q), (2, .int v2)] → va_P (dC, dI) tqCl [(mo, .inr (3, [.int nz, .ref la, .int sq, .ref sa])), (sa, .inl (cI, 64, .inl sf))] H → va_D A [(mo, .inr (3, [.int nz, .ref la, .int sq, .ref sa])), (sa, .inl (cI, 64, .inl sf))] → va_S A s.heap H locs → W p l e ({ frames := 0, cells := 0, slots := 0, locals := 0 }) s m ([.ref mo, .int q] : List Value).toArray below meth c H locs 0 0 (MQ below (va_Qv (fun (_ : Unit) => True) (fun (_ : Unit) (t : State) => va_P (dC, dI) tqCl [(mo, .inr (3, [.int nz, .ref la, .int sq, .ref sa])), (sa, .inl (cI, 64, .inl r))] t.heap ∧ va_K (dC, dI) tqCl [(cI, .int)] t ∧ va_D (A) [(mo, .inr (3, [.int nz, .ref la, .int sq, .ref sa])), (sa, .inl (cI, 64, .inl r))]) (A)) ([.ref mo, .int q] : List Value).toArray s 0 0 A) (F0 m 2 ls []) := by
    try clear hf
    intro n2
    induction n2 with
    | zero =>
      intro ls H locs v2 sf hf hl hP hD hS
      have hf : (none : Option ((Nat → Int32))) = some r := hf
      cases hf
    | succ n2 ih2 =>
      have B36 : ∀ (ls : Array Slot) (H : Heap) (locs : List Loc) (v2 : Int32) (t0 : Int32) (t1 : Int32) (sf : Nat → Int32), m_lose_b36 (m_lose_b2 nz q n2) v2 t0 t1 sf = some r → lv_has ls 3 [(0, .ref mo), (1, .int q), (2, .int v2)] → va_P (dC, dI) tqCl [(mo, .inr (3, [.int nz, .ref la, .int sq, .ref sa])), (sa, .inl (cI, 64, .inl sf))] H → va_D A [(mo, .inr (3, [.int nz, .ref la, .int sq, .ref sa])), (sa, .inl (cI, 64, .inl sf))] → va_S A s.heap H locs → W p l e ({ frames := 0, cells := 0, slots := 0, locals := 0 }) s m ([.ref mo, .int q] : List Value).toArray below meth c H locs 0 0 (MQ below (va_Qv (fun (_ : Unit) => True) (fun (_ : Unit) (t : State) => va_P (dC, dI) tqCl [(mo, .inr (3, [.int nz, .ref la, .int sq, .ref sa])), (sa, .inl (cI, 64, .inl r))] t.heap ∧ va_K (dC, dI) tqCl [(cI, .int)] t ∧ va_D (A) [(mo, .inr (3, [.int nz, .ref la, .int sq, .ref sa])), (sa, .inl (cI, 64, .inl r))]) (A)) ([.ref mo, .int q] : List Value).toArray s 0 0 A) (F0 m 36 ls [.int t0, .int t1, .ref sa]) := by
        try clear hf
        intro ls H locs v2 t0 t1 sf hf hl hP hD hS
        unfold m_lose_b36 at hf
        by_cases h3 : (t1 < 0 ∨ 64 ≤ t1.toNatClampNeg)
        · rw [if_pos h3] at hf
          cases hf
        · rw [if_neg h3] at hf
          refine va_iast hx hb hK hP hD hS 1 0 rfl rfl h3 dM_lose_36 (fun H locs hP hD hS => ?_)
          have hP : va_P (dC, dI) tqCl [(mo, .inr (3, [.int nz, .ref la, .int sq, .ref sa])), (sa, .inl (cI, 64, .inl (upd sf t1.toNatClampNeg t0)))] H := hP
          have hD : va_D A [(mo, .inr (3, [.int nz, .ref la, .int sq, .ref sa])), (sa, .inl (cI, 64, .inl (upd sf t1.toNatClampNeg t0)))] := hD
          refine lv_iinc (v := v2 + (1 : Int32)) (lv' := [(2, .int (v2 + (1 : Int32))), (0, .ref mo), (1, .int q)]) hx hb dM_lose_37 hl (k := 2) rfl rfl (by decide) rfl (fun ls hl => ?_)
          refine lv_goto hx hb dM_lose_40 rfl ?_
          exact ih2 ls _ _ (v2 + (1 : Int32)) (upd sf t1.toNatClampNeg t0) hf (lv_sub hl [1, 2, 0] rfl) hP hD hS
      intro ls H locs v2 sf hf hl hP hD hS
      unfold m_lose_b2 at hf
      refine lv_iload_n hx hb dM_lose_2 rfl (lv_at hl 2 rfl) ?_
      refine lv_aload_n hx hb dM_lose_3 rfl (lv_at hl 0 rfl) ?_
      refine va_get (D := (dC, dI)) (ci := 3) (v := .int nz) (C := RM) (T := TM) (N := 4) hx hb hww tqinM hown hK hP 0 rfl rfl 0 (by decide) (hww _ tqt_330) (fun _ h9 => h9) rfl dM_lose_4 ?_
      refine lv_icmp_ge hx hb dM_lose_7 rfl (fun h1 => ?_) (fun h1 => ?_)
      · rw [if_pos h1] at hf
        have hf := Option.some.inj hf
        subst hf
        exact W.vret hx hb hr (fun t ht hW => ⟨⟨(), rfl, trivial, by rw [ht]; exact hP, va_K.moved hW.alike hK, hD⟩, hS.F ht⟩) hS.2.2 dM_lose_43
      · rw [if_neg h1] at hf
        refine lv_aload_n hx hb dM_lose_10 rfl (lv_at hl 0 rfl) ?_
        refine va_get (D := (dC, dI)) (ci := 3) (v := .ref sa) (C := RM) (T := TM) (N := 4) hx hb hww tqinM hown hK hP 0 rfl rfl 3 (by decide) (hww _ tqt_333) (fun _ h9 => h9) rfl dM_lose_11 ?_
        refine lv_bipush (v := 32) hx hb dM_lose_14 (by decide) ?_
        refine lv_iload_n hx hb dM_lose_16 rfl (lv_at hl 1 rfl) ?_
        refine lv_imul hx hb dM_lose_17 ?_
        refine lv_iload_n hx hb dM_lose_18 rfl (lv_at hl 2 rfl) ?_
        refine lv_iadd hx hb dM_lose_19 ?_
        refine lv_iload_n hx hb dM_lose_20 rfl (lv_at hl 2 rfl) ?_
        refine lv_aload_n hx hb dM_lose_21 rfl (lv_at hl 0 rfl) ?_
        refine va_get (D := (dC, dI)) (ci := 3) (v := .int nz) (C := RM) (T := TM) (N := 4) hx hb hww tqinM hown hK hP 0 rfl rfl 0 (by decide) (hww _ tqt_330) (fun _ h9 => h9) rfl dM_lose_22 ?_
        refine lv_iconst (v := 1) hx hb dM_lose_25 (by decide) ?_
        refine lv_isub hx hb dM_lose_26 ?_
        refine lv_icmp_ne hx hb dM_lose_27 rfl (fun h2 => ?_) (fun h2 => ?_)
        · rw [if_pos h2] at hf
          refine lv_iconst (v := 0) hx hb dM_lose_35 (by decide) ?_
          exact B36 ls _ _ v2 (0 : Int32) (((32 : Int32) * q) + v2) sf hf (lv_sub hl [0, 1, 2] rfl) hP hD hS
        · rw [if_neg (fun q : ¬ v2 = (nz - (1 : Int32)) => q h2)] at hf
          refine lv_ldc (v := 32768) hx hb hown (hww _ tqt_499) dM_lose_30 ?_
          refine lv_goto hx hb dM_lose_32 rfl ?_
          exact B36 ls _ _ v2 (32768 : Int32) (((32 : Int32) * q) + v2) sf hf (lv_sub hl [0, 1, 2] rfl) hP hD hS
  unfold m_lose at hf
  refine lv_iconst (v := 0) hx hb dM_lose_0 (by decide) ?_
  refine lv_istore_n (lv' := [(2, .int (0 : Int32)), (0, .ref mo), (1, .int q)]) hx hb dM_lose_1 rfl hl (by decide) rfl (fun ls hl => ?_)
  exact B2 41 ls _ _ (0 : Int32) sf hf (lv_sub hl [1, 2, 0] rfl) hP hD hS
set_option maxHeartbeats 4000000 in
set_option maxRecDepth 100000 in
theorem c_m_clear (l : Launch) (dC : Nat → ClassId) (dI : Nat → Nat → Nat) (mo : Nat) (la : Nat) (sa : Nat) (cI : ClassId) (sz : Nat) (q : Int32) (nz : Int32) (sq : Int32) (sf : Nat → Int32) (r : Int32 × (Nat → Int32)) (hf : m_clear nz sf q = some r) : Met l yM_clear tqw_M_clear ({ frames := 1, cells := 0, slots := 0, locals := 20 }) (va_Pc [.ref mo, .int q] (fun U => U.heap.size = sz ∧ va_P (dC, dI) tqCl [(mo, .inr (3, [.int nz, .ref la, .int sq, .ref sa])), (sa, .inl (cI, 64, .inl sf))] U.heap ∧ va_K (dC, dI) tqCl [(cI, .int)] U ∧ va_D (fun _ => True) [(mo, .inr (3, [.int nz, .ref la, .int sq, .ref sa])), (sa, .inl (cI, 64, .inl sf))] ∧ tqN U)) (va_Qi (fun (a : Int32) (_ : Unit) => a = r.1) (fun (_ : Unit) (t : State) => va_P (dC, dI) tqCl [(mo, .inr (3, [.int nz, .ref la, .int sq, .ref sa])), (sa, .inl (cI, 64, .inl r.2))] t.heap ∧ va_K (dC, dI) tqCl [(cI, .int)] t ∧ va_D (va_A [(mo, .inr (3, [.int nz, .ref la, .int sq, .ref sa])), (sa, .inl (cI, 64, .inl sf))] sz) [(mo, .inr (3, [.int nz, .ref la, .int sq, .ref sa])), (sa, .inl (cI, 64, .inl r.2))]) (va_A [(mo, .inr (3, [.int nz, .ref la, .int sq, .ref sa])), (sa, .inl (cI, 64, .inl sf))] sz)) 0 0 (va_A [(mo, .inr (3, [.int nz, .ref la, .int sq, .ref sa])), (sa, .inl (cI, 64, .inl sf))] sz) := by
  refine Met.ofW (cc := cM_clear) (maxL := 3) (ret := (some .boolean)) (by decide) rfl ?_
  intro p e s m args below meth c s₁ B hml hv
  obtain ⟨rfl, hsz, hP, hK, hD0, hN⟩ := hv
  have hx := B.exec
  have hb := B.bytes
  have hr := B.returns
  have hts := atoms_spec (ws := tqw_M_clear) B.pre
  have hww : ∀ w ∈ tqW, w.before _ s = true := fun w h => hts w (List.mem_cons_of_mem _ h)
  have hown : s.vm.findClass RM = some m.cls := findClass_of_methodNamed B.named
  have hlocks := B.notSynchronized
  subst hsz
  have hD := hD0.self (sz := s.heap.size)
  generalize hAe : va_A [(mo, .inr (3, [.int nz, .ref la, .int sq, .ref sa])), (sa, .inl (cI, 64, .inl sf))] s.heap.size = A at hD ⊢
  have hA : ∀ q : Nat, s.heap.size ≤ q → A q := fun q h => by rw [← hAe]; exact Or.inr h
  have hS : va_S A s.heap s.heap [] := va_S.rf
  have hP : va_P (dC, dI) tqCl [(mo, .inr (3, [.int nz, .ref la, .int sq, .ref sa])), (sa, .inl (cI, 64, .inl sf))] s.heap := hP
  have hl := lv_entry ([.ref mo, .int q]) (n := 3) (Nat.le_of_ble_eq_true rfl)
  rw [lg_entry_eq]
  generalize (lg_sl ([.ref mo, .int q]) ++ List.replicate (3 - (lg_sl ([.ref mo, .int q])).length) Slot.unset).toArray = ls at hl ⊢
  have hl : lv_has ls 3 [(0, .ref mo), (1, .int q)] := hl
  have B11 : ∀ (n11 : Nat) (ls : Array Slot) (H : Heap) (locs : List Loc) (v2 : Int32) (sf : Nat → Int32), m_clear_b11 nz q n11 v2 sf = some r → lv_has ls 3 [(0, .ref mo), (1, .int q), (2, .int v2)] → va_P (dC, dI) tqCl [(mo, .inr (3, [.int nz, .ref la, .int sq, .ref sa])), (sa, .inl (cI, 64, .inl sf))] H → va_D A [(mo, .inr (3, [.int nz, .ref la, .int sq, .ref sa])), (sa, .inl (cI, 64, .inl sf))] → va_S A s.heap H locs → W p l e ({ frames := 1, cells := 0, slots := 0, locals := 20 }) s m ([.ref mo, .int q] : List Value).toArray below meth c H locs 0 0 (MQ below (va_Qi (fun (a : Int32) (_ : Unit) => a = r.1) (fun (_ : Unit) (t : State) => va_P (dC, dI) tqCl [(mo, .inr (3, [.int nz, .ref la, .int sq, .ref sa])), (sa, .inl (cI, 64, .inl r.2))] t.heap ∧ va_K (dC, dI) tqCl [(cI, .int)] t ∧ va_D (A) [(mo, .inr (3, [.int nz, .ref la, .int sq, .ref sa])), (sa, .inl (cI, 64, .inl r.2))]) (A)) ([.ref mo, .int q] : List Value).toArray s 0 0 A) (F0 m 11 ls []) := by
    try clear hf
    intro n11
    induction n11 with
    | zero =>
      intro ls H locs v2 sf hf hl hP hD hS
      have hf : (none : Option (Int32 × (Nat → Int32))) = some r := hf
      cases hf
    | succ n11 ih11 =>
      intro ls H locs v2 sf hf hl hP hD hS
      unfold m_clear_b11 at hf
      refine lv_iload_n hx hb dM_clear_11 rfl (lv_at hl 2 rfl) ?_
      refine lv_aload_n hx hb dM_clear_12 rfl (lv_at hl 0 rfl) ?_
      refine va_get (D := (dC, dI)) (ci := 3) (v := .int nz) (C := RM) (T := TM) (N := 4) hx hb hww tqinM hown hK hP 0 rfl rfl 0 (by decide) (hww _ tqt_330) (fun _ h9 => h9) rfl dM_clear_13 ?_
      refine lv_icmp_ge hx hb dM_clear_16 rfl (fun h3 => ?_) (fun h3 => ?_)
      · rw [if_pos h3] at hf
        refine lv_iconst (v := 1) hx hb dM_clear_37 (by decide) ?_
        have hf := Option.some.inj hf
        subst hf
        exact W.zret (v := (1 : Int32)) hx hb hr (tq_nb_bool (by decide)) (fun t ht hW => ⟨⟨(1 : Int32), (), rfl, rfl, by rw [ht]; exact hP, va_K.moved hW.alike hK, hD⟩, hS.F ht⟩) hS.2.2 dM_clear_38
      · rw [if_neg h3] at hf
        refine lv_aload_n hx hb dM_clear_19 rfl (lv_at hl 0 rfl) ?_
        refine va_get (D := (dC, dI)) (ci := 3) (v := .ref sa) (C := RM) (T := TM) (N := 4) hx hb hww tqinM hown hK hP 0 rfl rfl 3 (by decide) (hww _ tqt_333) (fun _ h9 => h9) rfl dM_clear_20 ?_
        refine lv_bipush (v := 32) hx hb dM_clear_23 (by decide) ?_
        refine lv_iload_n hx hb dM_clear_25 rfl (lv_at hl 1 rfl) ?_
        refine lv_imul hx hb dM_clear_26 ?_
        refine lv_iload_n hx hb dM_clear_27 rfl (lv_at hl 2 rfl) ?_
        refine lv_iadd hx hb dM_clear_28 ?_
        refine lv_iconst (v := 0) hx hb dM_clear_29 (by decide) ?_
        by_cases h4 : ((((32 : Int32) * q) + v2) < 0 ∨ 64 ≤ (((32 : Int32) * q) + v2).toNatClampNeg)
        · rw [if_pos h4] at hf
          cases hf
        · rw [if_neg h4] at hf
          refine va_iast hx hb hK hP hD hS 1 0 rfl rfl h4 dM_clear_30 (fun H locs hP hD hS => ?_)
          have hP : va_P (dC, dI) tqCl [(mo, .inr (3, [.int nz, .ref la, .int sq, .ref sa])), (sa, .inl (cI, 64, .inl (upd sf (((32 : Int32) * q) + v2).toNatClampNeg (0 : Int32))))] H := hP
          have hD : va_D A [(mo, .inr (3, [.int nz, .ref la, .int sq, .ref sa])), (sa, .inl (cI, 64, .inl (upd sf (((32 : Int32) * q) + v2).toNatClampNeg (0 : Int32))))] := hD
          refine lv_iinc (v := v2 + (1 : Int32)) (lv' := [(2, .int (v2 + (1 : Int32))), (0, .ref mo), (1, .int q)]) hx hb dM_clear_31 hl (k := 2) rfl rfl (by decide) rfl (fun ls hl => ?_)
          refine lv_goto hx hb dM_clear_34 rfl ?_
          exact ih11 ls _ _ (v2 + (1 : Int32)) (upd sf (((32 : Int32) * q) + v2).toNatClampNeg (0 : Int32)) hf (lv_sub hl [1, 2, 0] rfl) hP hD hS
  unfold m_clear at hf
  refine lv_iload_n hx hb dM_clear_0 rfl (lv_at hl 1 rfl) ?_
  have hPc := hP.sub (ws' := []) [] rfl
  have hDc := hD.sub (ws' := []) [] (by decide) rfl
  have hKc := hK.sub (tys' := []) [] rfl
  have hFc := va_free (wc := []) hD hS hA [] rfl
  refine va_calli (va_runS (As := [.int q]) (rest := []) ⟨hx, hb, hml, hown, hww⟩ (c_m_isSum l dC dI s.heap.size q (m_isSum q) rfl) (va_cwS 1 hww (tq_gS tqt_488 tqt_489 tqt_35 tqt_490) rfl rfl rfl (by decide +kernel) ⟨Nat.le_of_ble_eq_true rfl, Nat.le_of_ble_eq_true rfl⟩) ⟨fun a U g mk q => by obtain ⟨q0, q1, qP, qK, qD, qN⟩ := q; exact ⟨q0, q1, qP, va_K.moved (u := U) (U := U.calling g mk a) (Vm.Alike.refl U.vm) qK, qD, tqN_same (u := U) (U := U.calling g mk a) rfl qN⟩, fun U hU hW => ⟨rfl, by rw [hU], by rw [hU]; exact hPc, va_K.moved hW.alike hKc, hDc.weaken (fun _ _ _ _ => trivial), tqN_warm hW hN⟩⟩ rfl rfl hl.1 rfl (lv_room (Nat.le_of_ble_eq_true rfl)) dM_clear_1 ⟨Nat.zero_le _, Nat.zero_le _⟩) hS (fun q _ h => hFc q h) hFc (fun ra u0 t H1 locs ht hvm hpost hB hz1 hk1 hS => ?_)
  have hpost : (m_isSum q) = ra := (show ra = (m_isSum q) from hpost).symm
  subst hpost
  obtain ⟨hP1, hK1, hD1⟩ := hB
  rw [ht] at hP1
  obtain ⟨hP, hD⟩ := va_join (wr := [(mo, .inr (3, [.int nz, .ref la, .int sq, .ref sa])), (sa, .inl (cI, 64, .inl sf))]) (w1 := []) hP hD [] [0, 1] rfl rfl (by decide) (by decide) hk1 hFc hP1 hD1
  generalize H1 = H at hP hS ⊢
  have hP := hP.sub (ws' := [(mo, .inr (3, [.int nz, .ref la, .int sq, .ref sa])), (sa, .inl (cI, 64, .inl sf))]) [0, 1] rfl
  have hD := hD.sub (ws' := [(mo, .inr (3, [.int nz, .ref la, .int sq, .ref sa])), (sa, .inl (cI, 64, .inl sf))]) [0, 1] (by decide) rfl
  refine lv_if_ne hx hb dM_clear_4 rfl (fun h2 => ?_) (fun h2 => ?_)
  · rw [if_pos h2] at hf
    refine lv_iconst (v := 0) hx hb dM_clear_9 (by decide) ?_
    refine lv_istore_n (lv' := [(2, .int (0 : Int32)), (0, .ref mo), (1, .int q)]) hx hb dM_clear_10 rfl hl (by decide) rfl (fun ls hl => ?_)
    exact B11 41 ls _ _ (0 : Int32) sf hf (lv_sub hl [1, 2, 0] rfl) hP hD hS
  · rw [if_neg (fun q : ¬ (m_isSum q) = 0 => q h2)] at hf
    refine lv_iconst (v := 0) hx hb dM_clear_7 (by decide) ?_
    have hf := Option.some.inj hf
    subst hf
    exact W.zret (v := (0 : Int32)) hx hb hr (tq_nb_bool (by decide)) (fun t ht hW => ⟨⟨(0 : Int32), (), rfl, rfl, by rw [ht]; exact hP, va_K.moved hW.alike hK, hD⟩, hS.F ht⟩) hS.2.2 dM_clear_8
set_option maxHeartbeats 4000000 in
set_option maxRecDepth 100000 in
theorem c_m_pour (l : Launch) (dC : Nat → ClassId) (dI : Nat → Nat → Nat) (mo : Nat) (la : Nat) (sa : Nat) (cI : ClassId) (sz : Nat) (q : Int32) (rg : Int32) (mi : Int32) (nz : Int32) (sq : Int32) (lf : Nat → Int32) (sf : Nat → Int32) (r : (Nat → Int32)) (hf : m_pour nz lf sf q rg mi = some r) : Met l yM_pour tqw_M_pour ({ frames := 0, cells := 0, slots := 0, locals := 0 }) (va_Pc [.ref mo, .int q, .int rg, .int mi] (fun U => U.heap.size = sz ∧ va_P (dC, dI) tqCl [(mo, .inr (3, [.int nz, .ref la, .int sq, .ref sa])), (la, .inl (cI, 200, .inl lf)), (sa, .inl (cI, 64, .inl sf))] U.heap ∧ va_K (dC, dI) tqCl [(cI, .int)] U ∧ va_D (fun _ => True) [(mo, .inr (3, [.int nz, .ref la, .int sq, .ref sa])), (la, .inl (cI, 200, .inl lf)), (sa, .inl (cI, 64, .inl sf))] ∧ tqN U)) (va_Qv (fun (_ : Unit) => True) (fun (_ : Unit) (t : State) => va_P (dC, dI) tqCl [(mo, .inr (3, [.int nz, .ref la, .int sq, .ref sa])), (la, .inl (cI, 200, .inl lf)), (sa, .inl (cI, 64, .inl r))] t.heap ∧ va_K (dC, dI) tqCl [(cI, .int)] t ∧ va_D (va_A [(mo, .inr (3, [.int nz, .ref la, .int sq, .ref sa])), (la, .inl (cI, 200, .inl lf)), (sa, .inl (cI, 64, .inl sf))] sz) [(mo, .inr (3, [.int nz, .ref la, .int sq, .ref sa])), (la, .inl (cI, 200, .inl lf)), (sa, .inl (cI, 64, .inl r))]) (va_A [(mo, .inr (3, [.int nz, .ref la, .int sq, .ref sa])), (la, .inl (cI, 200, .inl lf)), (sa, .inl (cI, 64, .inl sf))] sz)) 0 0 (va_A [(mo, .inr (3, [.int nz, .ref la, .int sq, .ref sa])), (la, .inl (cI, 200, .inl lf)), (sa, .inl (cI, 64, .inl sf))] sz) := by
  refine Met.ofW (cc := cM_pour) (maxL := 7) (ret := none) (by decide) rfl ?_
  intro p e s m args below meth c s₁ B hml hv
  obtain ⟨rfl, hsz, hP, hK, hD0, hN⟩ := hv
  have hx := B.exec
  have hb := B.bytes
  have hr := B.returns
  have hts := atoms_spec (ws := tqw_M_pour) B.pre
  have hww : ∀ w ∈ tqW, w.before _ s = true := fun w h => hts w (List.mem_cons_of_mem _ h)
  have hown : s.vm.findClass RM = some m.cls := findClass_of_methodNamed B.named
  have hlocks := B.notSynchronized
  subst hsz
  have hD := hD0.self (sz := s.heap.size)
  generalize hAe : va_A [(mo, .inr (3, [.int nz, .ref la, .int sq, .ref sa])), (la, .inl (cI, 200, .inl lf)), (sa, .inl (cI, 64, .inl sf))] s.heap.size = A at hD ⊢
  have hA : ∀ q : Nat, s.heap.size ≤ q → A q := fun q h => by rw [← hAe]; exact Or.inr h
  have hS : va_S A s.heap s.heap [] := va_S.rf
  have hP : va_P (dC, dI) tqCl [(mo, .inr (3, [.int nz, .ref la, .int sq, .ref sa])), (la, .inl (cI, 200, .inl lf)), (sa, .inl (cI, 64, .inl sf))] s.heap := hP
  have hl := lv_entry ([.ref mo, .int q, .int rg, .int mi]) (n := 7) (Nat.le_of_ble_eq_true rfl)
  rw [lg_entry_eq]
  generalize (lg_sl ([.ref mo, .int q, .int rg, .int mi]) ++ List.replicate (7 - (lg_sl ([.ref mo, .int q, .int rg, .int mi])).length) Slot.unset).toArray = ls at hl ⊢
  have hl : lv_has ls 7 [(0, .ref mo), (1, .int q), (2, .int rg), (3, .int mi)] := hl
  have B6 : ∀ (n6 : Nat) (ls : Array Slot) (H : Heap) (locs : List Loc) (v4 : Int32) (v5 : Int32) (sf : Nat → Int32), m_pour_b6 nz lf q rg mi n6 v4 v5 sf = some r → lv_has ls 7 [(0, .ref mo), (1, .int q), (2, .int rg), (3, .int mi), (4, .int v4), (5, .int v5)] → va_P (dC, dI) tqCl [(mo, .inr (3, [.int nz, .ref la, .int sq, .ref sa])), (la, .inl (cI, 200, .inl lf)), (sa, .inl (cI, 64, .inl sf))] H → va_D A [(mo, .inr (3, [.int nz, .ref la, .int sq, .ref sa])), (la, .inl (cI, 200, .inl lf)), (sa, .inl (cI, 64, .inl sf))] → va_S A s.heap H locs → W p l e ({ frames := 0, cells := 0, slots := 0, locals := 0 }) s m ([.ref mo, .int q, .int rg, .int mi] : List Value).toArray below meth c H locs 0 0 (MQ below (va_Qv (fun (_ : Unit) => True) (fun (_ : Unit) (t : State) => va_P (dC, dI) tqCl [(mo, .inr (3, [.int nz, .ref la, .int sq, .ref sa])), (la, .inl (cI, 200, .inl lf)), (sa, .inl (cI, 64, .inl r))] t.heap ∧ va_K (dC, dI) tqCl [(cI, .int)] t ∧ va_D (A) [(mo, .inr (3, [.int nz, .ref la, .int sq, .ref sa])), (la, .inl (cI, 200, .inl lf)), (sa, .inl (cI, 64, .inl r))]) (A)) ([.ref mo, .int q, .int rg, .int mi] : List Value).toArray s 0 0 A) (F0 m 6 ls []) := by
    try clear hf
    intro n6
    induction n6 with
    | zero =>
      intro ls H locs v4 v5 sf hf hl hP hD hS
      have hf : (none : Option ((Nat → Int32))) = some r := hf
      cases hf
    | succ n6 ih6 =>
      have B59 : ∀ (ls : Array Slot) (H : Heap) (locs : List Loc) (v4 : Int32) (v5 : Int32) (t0 : Int32) (t1 : Int32) (sf : Nat → Int32), m_pour_b59 q (m_pour_b6 nz lf q rg mi n6) v4 v5 t0 t1 sf = some r → lv_has ls 7 [(0, .ref mo), (1, .int q), (2, .int rg), (3, .int mi), (4, .int v4), (5, .int v5)] → va_P (dC, dI) tqCl [(mo, .inr (3, [.int nz, .ref la, .int sq, .ref sa])), (la, .inl (cI, 200, .inl lf)), (sa, .inl (cI, 64, .inl sf))] H → va_D A [(mo, .inr (3, [.int nz, .ref la, .int sq, .ref sa])), (la, .inl (cI, 200, .inl lf)), (sa, .inl (cI, 64, .inl sf))] → va_S A s.heap H locs → W p l e ({ frames := 0, cells := 0, slots := 0, locals := 0 }) s m ([.ref mo, .int q, .int rg, .int mi] : List Value).toArray below meth c H locs 0 0 (MQ below (va_Qv (fun (_ : Unit) => True) (fun (_ : Unit) (t : State) => va_P (dC, dI) tqCl [(mo, .inr (3, [.int nz, .ref la, .int sq, .ref sa])), (la, .inl (cI, 200, .inl lf)), (sa, .inl (cI, 64, .inl r))] t.heap ∧ va_K (dC, dI) tqCl [(cI, .int)] t ∧ va_D (A) [(mo, .inr (3, [.int nz, .ref la, .int sq, .ref sa])), (la, .inl (cI, 200, .inl lf)), (sa, .inl (cI, 64, .inl r))]) (A)) ([.ref mo, .int q, .int rg, .int mi] : List Value).toArray s 0 0 A) (F0 m 59 ls [.int t0, .int t1]) := by
        try clear hf
        intro ls H locs v4 v5 t0 t1 sf hf hl hP hD hS
        unfold m_pour_b59 at hf
        refine lv_iadd hx hb dM_pour_59 ?_
        refine lv_iload hx hb dM_pour_60 (lv_at hl 4 rfl) ?_
        refine lv_iadd hx hb dM_pour_62 ?_
        refine lv_topi (fun x5 e5 => ?_)
        have hf := tq_nm_at e5 hf
        refine lv_istore (lv' := [(6, .int x5), (0, .ref mo), (1, .int q), (2, .int rg), (3, .int mi), (4, .int v4), (5, .int v5)]) hx hb dM_pour_63 hl (by decide) rfl (fun ls hl => ?_)
        refine lv_aload_n hx hb dM_pour_65 rfl (lv_at hl 1 rfl) ?_
        refine va_get (D := (dC, dI)) (ci := 3) (v := .ref sa) (C := RM) (T := TM) (N := 4) hx hb hww tqinM hown hK hP 0 rfl rfl 3 (by decide) (hww _ tqt_333) (fun _ h9 => h9) rfl dM_pour_66 ?_
        refine lv_bipush (v := 32) hx hb dM_pour_69 (by decide) ?_
        refine lv_iload_n hx hb dM_pour_71 rfl (lv_at hl 2 rfl) ?_
        refine lv_imul hx hb dM_pour_72 ?_
        refine lv_iload hx hb dM_pour_73 (lv_at hl 6 rfl) ?_
        refine lv_iadd hx hb dM_pour_75 ?_
        refine lv_iload hx hb dM_pour_76 (lv_at hl 0 rfl) ?_
        refine lv_ldc (v := 65535) hx hb hown (hww _ tqt_388) dM_pour_78 ?_
        refine lv_iand hx hb dM_pour_80 ?_
        by_cases h6 : ((((32 : Int32) * q) + v5) < 0 ∨ 64 ≤ (((32 : Int32) * q) + v5).toNatClampNeg)
        · rw [if_pos h6] at hf
          cases hf
        · rw [if_neg h6] at hf
          refine va_iast hx hb hK hP hD hS 2 0 rfl rfl h6 dM_pour_81 (fun H locs hP hD hS => ?_)
          have hP : va_P (dC, dI) tqCl [(mo, .inr (3, [.int nz, .ref la, .int sq, .ref sa])), (la, .inl (cI, 200, .inl lf)), (sa, .inl (cI, 64, .inl (upd sf (((32 : Int32) * q) + v5).toNatClampNeg (x5 &&& (65535 : Int32)))))] H := hP
          have hD : va_D A [(mo, .inr (3, [.int nz, .ref la, .int sq, .ref sa])), (la, .inl (cI, 200, .inl lf)), (sa, .inl (cI, 64, .inl (upd sf (((32 : Int32) * q) + v5).toNatClampNeg (x5 &&& (65535 : Int32)))))] := hD
          refine lv_iload hx hb dM_pour_82 (lv_at hl 0 rfl) ?_
          refine lv_bipush (v := 16) hx hb dM_pour_84 (by decide) ?_
          refine lv_ishr hx hb dM_pour_86 ?_
          refine lv_topi (fun x7 e7 => ?_)
          have hf := tq_nm_at e7 hf
          refine lv_istore (lv' := [(4, .int x7), (6, .int x5), (0, .ref mo), (1, .int q), (2, .int rg), (3, .int mi), (5, .int v5)]) hx hb dM_pour_87 hl (by decide) rfl (fun ls hl => ?_)
          refine lv_iinc (v := v5 + (1 : Int32)) (lv' := [(5, .int (v5 + (1 : Int32))), (4, .int x7), (6, .int x5), (0, .ref mo), (1, .int q), (2, .int rg), (3, .int mi)]) hx hb dM_pour_89 hl (k := 6) rfl rfl (by decide) rfl (fun ls hl => ?_)
          refine lv_goto hx hb dM_pour_92 rfl ?_
          exact ih6 ls _ _ x7 (v5 + (1 : Int32)) (upd sf (((32 : Int32) * q) + v5).toNatClampNeg (x5 &&& (65535 : Int32))) hf (lv_sub hl [3, 4, 5, 6, 1, 0] rfl) hP hD hS
      intro ls H locs v4 v5 sf hf hl hP hD hS
      unfold m_pour_b6 at hf
      refine lv_iload hx hb dM_pour_6 (lv_at hl 5 rfl) ?_
      refine lv_aload_n hx hb dM_pour_8 rfl (lv_at hl 0 rfl) ?_
      refine va_get (D := (dC, dI)) (ci := 3) (v := .int nz) (C := RM) (T := TM) (N := 4) hx hb hww tqinM hown hK hP 0 rfl rfl 0 (by decide) (hww _ tqt_330) (fun _ h9 => h9) rfl dM_pour_9 ?_
      refine lv_icmp_ge hx hb dM_pour_12 rfl (fun h1 => ?_) (fun h1 => ?_)
      · rw [if_pos h1] at hf
        have hf := Option.some.inj hf
        subst hf
        exact W.vret hx hb hr (fun t ht hW => ⟨⟨(), rfl, trivial, by rw [ht]; exact hP, va_K.moved hW.alike hK, hD⟩, hS.F ht⟩) hS.2.2 dM_pour_95
      · rw [if_neg h1] at hf
        refine lv_aload_n hx hb dM_pour_15 rfl (lv_at hl 0 rfl) ?_
        refine va_get (D := (dC, dI)) (ci := 3) (v := .ref sa) (C := RM) (T := TM) (N := 4) hx hb hww tqinM hown hK hP 0 rfl rfl 3 (by decide) (hww _ tqt_333) (fun _ h9 => h9) rfl dM_pour_16 ?_
        refine lv_bipush (v := 32) hx hb dM_pour_19 (by decide) ?_
        refine lv_iload_n hx hb dM_pour_21 rfl (lv_at hl 1 rfl) ?_
        refine lv_imul hx hb dM_pour_22 ?_
        refine lv_iload hx hb dM_pour_23 (lv_at hl 5 rfl) ?_
        refine lv_iadd hx hb dM_pour_25 ?_
        by_cases h2 : ((((32 : Int32) * q) + v5) < 0 ∨ 64 ≤ (((32 : Int32) * q) + v5).toNatClampNeg)
        · rw [if_pos h2] at hf
          cases hf
        · rw [if_neg h2] at hf
          refine va_iald hx hb hK hP 2 0 rfl rfl h2 dM_pour_26 ?_
          refine lv_iload_n hx hb dM_pour_27 rfl (lv_at hl 3 rfl) ?_
          refine lv_if_eq hx hb dM_pour_28 rfl (fun h3 => ?_) (fun h3 => ?_)
          · rw [if_pos h3] at hf
            refine lv_aload_n hx hb dM_pour_47 rfl (lv_at hl 0 rfl) ?_
            refine va_get (D := (dC, dI)) (ci := 3) (v := .ref la) (C := RM) (T := TM) (N := 4) hx hb hww tqinM hown hK hP 0 rfl rfl 1 (by decide) (hww _ tqt_331) (fun _ h9 => h9) rfl dM_pour_48 ?_
            refine lv_bipush (v := 40) hx hb dM_pour_51 (by decide) ?_
            refine lv_iload_n hx hb dM_pour_53 rfl (lv_at hl 2 rfl) ?_
            refine lv_imul hx hb dM_pour_54 ?_
            refine lv_iload hx hb dM_pour_55 (lv_at hl 5 rfl) ?_
            refine lv_iadd hx hb dM_pour_57 ?_
            by_cases h4 : ((((40 : Int32) * rg) + v5) < 0 ∨ 200 ≤ (((40 : Int32) * rg) + v5).toNatClampNeg)
            · rw [if_pos h4] at hf
              cases hf
            · rw [if_neg h4] at hf
              refine va_iald hx hb hK hP 1 0 rfl rfl h4 dM_pour_58 ?_
              exact B59 ls _ _ v4 v5 (lf (((40 : Int32) * rg) + v5).toNatClampNeg) (sf (((32 : Int32) * q) + v5).toNatClampNeg) sf hf (lv_sub hl [0, 1, 2, 3, 4, 5] rfl) hP hD hS
          · rw [if_neg h3] at hf
            refine lv_aload_n hx hb dM_pour_31 rfl (lv_at hl 0 rfl) ?_
            refine va_get (D := (dC, dI)) (ci := 3) (v := .ref la) (C := RM) (T := TM) (N := 4) hx hb hww tqinM hown hK hP 0 rfl rfl 1 (by decide) (hww _ tqt_331) (fun _ h9 => h9) rfl dM_pour_32 ?_
            refine lv_bipush (v := 40) hx hb dM_pour_35 (by decide) ?_
            refine lv_iload_n hx hb dM_pour_37 rfl (lv_at hl 2 rfl) ?_
            refine lv_imul hx hb dM_pour_38 ?_
            refine lv_iload hx hb dM_pour_39 (lv_at hl 5 rfl) ?_
            refine lv_iadd hx hb dM_pour_41 ?_
            by_cases h8 : ((((40 : Int32) * rg) + v5) < 0 ∨ 200 ≤ (((40 : Int32) * rg) + v5).toNatClampNeg)
            · rw [if_pos h8] at hf
              cases hf
            · rw [if_neg h8] at hf
              refine va_iald hx hb hK hP 1 0 rfl rfl h8 dM_pour_42 ?_
              refine lv_ineg hx hb dM_pour_43 ?_
              refine lv_goto hx hb dM_pour_44 rfl ?_
              exact B59 ls _ _ v4 v5 (-(lf (((40 : Int32) * rg) + v5).toNatClampNeg)) (sf (((32 : Int32) * q) + v5).toNatClampNeg) sf hf (lv_sub hl [0, 1, 2, 3, 4, 5] rfl) hP hD hS
  unfold m_pour at hf
  refine lv_iconst (v := 0) hx hb dM_pour_0 (by decide) ?_
  refine lv_istore (lv' := [(4, .int (0 : Int32)), (0, .ref mo), (1, .int q), (2, .int rg), (3, .int mi)]) hx hb dM_pour_1 hl (by decide) rfl (fun ls hl => ?_)
  refine lv_iconst (v := 0) hx hb dM_pour_3 (by decide) ?_
  refine lv_istore (lv' := [(5, .int (0 : Int32)), (4, .int (0 : Int32)), (0, .ref mo), (1, .int q), (2, .int rg), (3, .int mi)]) hx hb dM_pour_4 hl (by decide) rfl (fun ls hl => ?_)
  exact B6 41 ls _ _ (0 : Int32) (0 : Int32) sf hf (lv_sub hl [2, 3, 4, 5, 1, 0] rfl) hP hD hS
set_option maxHeartbeats 4000000 in
set_option maxRecDepth 100000 in
theorem c_m_collect (l : Launch) (dC : Nat → ClassId) (dI : Nat → Nat → Nat) (mo : Nat) (la : Nat) (sa : Nat) (cI : ClassId) (sz : Nat) (q : Int32) (x : Int32) (y : Int32) (mi : Int32) (nz : Int32) (sq : Int32) (lf : Nat → Int32) (sf : Nat → Int32) (r : Int32 × (Nat → Int32) × (Nat → Int32)) (hf : m_collect nz lf sf q x y mi = some r) : Met l yM_collect tqw_M_collect ({ frames := 4, cells := 0, slots := 0, locals := 104 }) (va_Pc [.ref mo, .int q, .int x, .int y, .int mi] (fun U => U.heap.size = sz ∧ va_P (dC, dI) tqCl [(mo, .inr (3, [.int nz, .ref la, .int sq, .ref sa])), (la, .inl (cI, 200, .inl lf)), (sa, .inl (cI, 64, .inl sf))] U.heap ∧ va_K (dC, dI) tqCl [(cI, .int)] U ∧ va_D (fun _ => True) [(mo, .inr (3, [.int nz, .ref la, .int sq, .ref sa])), (la, .inl (cI, 200, .inl lf)), (sa, .inl (cI, 64, .inl sf))] ∧ tqN U)) (va_Qi (fun (a : Int32) (_ : Unit) => a = r.1) (fun (_ : Unit) (t : State) => va_P (dC, dI) tqCl [(mo, .inr (3, [.int nz, .ref la, .int sq, .ref sa])), (la, .inl (cI, 200, .inl r.2.1)), (sa, .inl (cI, 64, .inl r.2.2))] t.heap ∧ va_K (dC, dI) tqCl [(cI, .int)] t ∧ va_D (va_A [(mo, .inr (3, [.int nz, .ref la, .int sq, .ref sa])), (la, .inl (cI, 200, .inl lf)), (sa, .inl (cI, 64, .inl sf))] sz) [(mo, .inr (3, [.int nz, .ref la, .int sq, .ref sa])), (la, .inl (cI, 200, .inl r.2.1)), (sa, .inl (cI, 64, .inl r.2.2))]) (va_A [(mo, .inr (3, [.int nz, .ref la, .int sq, .ref sa])), (la, .inl (cI, 200, .inl lf)), (sa, .inl (cI, 64, .inl sf))] sz)) 0 0 (va_A [(mo, .inr (3, [.int nz, .ref la, .int sq, .ref sa])), (la, .inl (cI, 200, .inl lf)), (sa, .inl (cI, 64, .inl sf))] sz) := by
  refine Met.ofW (cc := cM_collect) (maxL := 5) (ret := (some .boolean)) (by decide) rfl ?_
  intro p e s m args below meth c s₁ B hml hv
  obtain ⟨rfl, hsz, hP, hK, hD0, hN⟩ := hv
  have hx := B.exec
  have hb := B.bytes
  have hr := B.returns
  have hts := atoms_spec (ws := tqw_M_collect) B.pre
  have hww : ∀ w ∈ tqW, w.before _ s = true := fun w h => hts w (List.mem_cons_of_mem _ h)
  have hown : s.vm.findClass RM = some m.cls := findClass_of_methodNamed B.named
  have hlocks := B.notSynchronized
  subst hsz
  have hD := hD0.self (sz := s.heap.size)
  generalize hAe : va_A [(mo, .inr (3, [.int nz, .ref la, .int sq, .ref sa])), (la, .inl (cI, 200, .inl lf)), (sa, .inl (cI, 64, .inl sf))] s.heap.size = A at hD ⊢
  have hA : ∀ q : Nat, s.heap.size ≤ q → A q := fun q h => by rw [← hAe]; exact Or.inr h
  have hS : va_S A s.heap s.heap [] := va_S.rf
  have hP : va_P (dC, dI) tqCl [(mo, .inr (3, [.int nz, .ref la, .int sq, .ref sa])), (la, .inl (cI, 200, .inl lf)), (sa, .inl (cI, 64, .inl sf))] s.heap := hP
  have hl := lv_entry ([.ref mo, .int q, .int x, .int y, .int mi]) (n := 5) (Nat.le_of_ble_eq_true rfl)
  rw [lg_entry_eq]
  generalize (lg_sl ([.ref mo, .int q, .int x, .int y, .int mi]) ++ List.replicate (5 - (lg_sl ([.ref mo, .int q, .int x, .int y, .int mi])).length) Slot.unset).toArray = ls at hl ⊢
  have hl : lv_has ls 5 [(0, .ref mo), (1, .int q), (2, .int x), (3, .int y), (4, .int mi)] := hl
  have B108 : ∀ (ls : Array Slot) (H : Heap) (locs : List Loc) (t0 : Int32) (t1 : Int32) (t2 : Int32) (lf : Nat → Int32) (sf : Nat → Int32), m_collect_b108 nz t0 t1 t2 lf sf = some r → lv_has ls 5 [] → va_P (dC, dI) tqCl [(mo, .inr (3, [.int nz, .ref la, .int sq, .ref sa])), (la, .inl (cI, 200, .inl lf)), (sa, .inl (cI, 64, .inl sf))] H → va_D A [(mo, .inr (3, [.int nz, .ref la, .int sq, .ref sa])), (la, .inl (cI, 200, .inl lf)), (sa, .inl (cI, 64, .inl sf))] → va_S A s.heap H locs → W p l e ({ frames := 4, cells := 0, slots := 0, locals := 104 }) s m ([.ref mo, .int q, .int x, .int y, .int mi] : List Value).toArray below meth c H locs 0 0 (MQ below (va_Qi (fun (a : Int32) (_ : Unit) => a = r.1) (fun (_ : Unit) (t : State) => va_P (dC, dI) tqCl [(mo, .inr (3, [.int nz, .ref la, .int sq, .ref sa])), (la, .inl (cI, 200, .inl r.2.1)), (sa, .inl (cI, 64, .inl r.2.2))] t.heap ∧ va_K (dC, dI) tqCl [(cI, .int)] t ∧ va_D (A) [(mo, .inr (3, [.int nz, .ref la, .int sq, .ref sa])), (la, .inl (cI, 200, .inl r.2.1)), (sa, .inl (cI, 64, .inl r.2.2))]) (A)) ([.ref mo, .int q, .int x, .int y, .int mi] : List Value).toArray s 0 0 A) (F0 m 108 ls [.int t0, .int t1, .int t2, .ref mo]) := by
    try clear hf
    intro ls H locs t0 t1 t2 lf sf hf hl hP hD hS
    unfold m_collect_b108 at hf
    obtain ⟨sf15, hu, hf⟩ := tq_bd_some hf
    have hPc := hP.sub (ws' := [(mo, .inr (3, [.int nz, .ref la, .int sq, .ref sa])), (la, .inl (cI, 200, .inl lf)), (sa, .inl (cI, 64, .inl sf))]) [0, 1, 2] rfl
    have hDc := hD.sub (ws' := [(mo, .inr (3, [.int nz, .ref la, .int sq, .ref sa])), (la, .inl (cI, 200, .inl lf)), (sa, .inl (cI, 64, .inl sf))]) [0, 1, 2] (by decide) rfl
    have hKc := hK.sub (tys' := [(cI, .int)]) [0] rfl
    have hFc := va_free (wc := [(mo, .inr (3, [.int nz, .ref la, .int sq, .ref sa])), (la, .inl (cI, 200, .inl lf)), (sa, .inl (cI, 64, .inl sf))]) hD hS hA [0, 1, 2] rfl
    refine va_callv (va_runV (As := [.int t2, .int t1, .int t0]) (rest := []) ⟨hx, hb, hml, hown, hww⟩ (c_m_pour l dC dI mo la sa cI H.size t2 t1 t0 nz sq lf sf sf15 hu) (cwV 3 hww (tq_gV tqt_504 tqt_506 tqt_28 tqt_35 tqt_507) rfl rfl rfl (by decide +kernel) ⟨Nat.le_of_ble_eq_true rfl, Nat.le_of_ble_eq_true rfl⟩) ⟨fun a U g mk q => by obtain ⟨q0, q1, qP, qK, qD, qN⟩ := q; exact ⟨q0, q1, qP, va_K.moved (u := U) (U := U.calling g mk a) (Vm.Alike.refl U.vm) qK, qD, tqN_same (u := U) (U := U.calling g mk a) rfl qN⟩, va_recv hK hP (ci := 3) rfl (q0 := 0) rfl, fun U hU hW => ⟨rfl, by rw [hU], by rw [hU]; exact hPc, va_K.moved hW.alike hKc, hDc.weaken (fun _ _ _ _ => trivial), tqN_warm hW hN⟩⟩ rfl rfl hl.1 rfl (lv_room (Nat.le_of_ble_eq_true rfl)) dM_collect_108 ⟨Nat.zero_le _, Nat.zero_le _⟩) hS (fun q _ h => hFc q h) hFc (fun u0 t H1 locs ht hvm hpost hB hz1 hk1 hS => ?_)
    obtain ⟨hP1, hK1, hD1⟩ := hB
    rw [ht] at hP1
    obtain ⟨hP, hD⟩ := va_join (wr := []) (w1 := [(mo, .inr (3, [.int nz, .ref la, .int sq, .ref sa])), (la, .inl (cI, 200, .inl lf)), (sa, .inl (cI, 64, .inl sf15))]) hP hD [0, 1, 2] [] rfl rfl (by decide) (by decide) hk1 hFc hP1 hD1
    generalize H1 = H at hP hS ⊢
    have hP := hP.sub (ws' := [(mo, .inr (3, [.int nz, .ref la, .int sq, .ref sa])), (la, .inl (cI, 200, .inl lf)), (sa, .inl (cI, 64, .inl sf15))]) [0, 1, 2] rfl
    have hD := hD.sub (ws' := [(mo, .inr (3, [.int nz, .ref la, .int sq, .ref sa])), (la, .inl (cI, 200, .inl lf)), (sa, .inl (cI, 64, .inl sf15))]) [0, 1, 2] (by decide) rfl
    refine lv_iconst (v := 1) hx hb dM_collect_111 (by decide) ?_
    have hf := Option.some.inj hf
    subst hf
    exact W.zret (v := (1 : Int32)) hx hb hr (tq_nb_bool (by decide)) (fun t ht hW => ⟨⟨(1 : Int32), (), rfl, rfl, by rw [ht]; exact hP, va_K.moved hW.alike hK, hD⟩, hS.F ht⟩) hS.2.2 dM_collect_112
  have B100 : ∀ (ls : Array Slot) (H : Heap) (locs : List Loc) (t0 : Int32) (t1 : Int32) (t2 : Int32) (t3 : Int32) (lf : Nat → Int32) (sf : Nat → Int32), m_collect_b100 nz t0 t1 t2 t3 lf sf = some r → lv_has ls 5 [] → va_P (dC, dI) tqCl [(mo, .inr (3, [.int nz, .ref la, .int sq, .ref sa])), (la, .inl (cI, 200, .inl lf)), (sa, .inl (cI, 64, .inl sf))] H → va_D A [(mo, .inr (3, [.int nz, .ref la, .int sq, .ref sa])), (la, .inl (cI, 200, .inl lf)), (sa, .inl (cI, 64, .inl sf))] → va_S A s.heap H locs → W p l e ({ frames := 4, cells := 0, slots := 0, locals := 104 }) s m ([.ref mo, .int q, .int x, .int y, .int mi] : List Value).toArray below meth c H locs 0 0 (MQ below (va_Qi (fun (a : Int32) (_ : Unit) => a = r.1) (fun (_ : Unit) (t : State) => va_P (dC, dI) tqCl [(mo, .inr (3, [.int nz, .ref la, .int sq, .ref sa])), (la, .inl (cI, 200, .inl r.2.1)), (sa, .inl (cI, 64, .inl r.2.2))] t.heap ∧ va_K (dC, dI) tqCl [(cI, .int)] t ∧ va_D (A) [(mo, .inr (3, [.int nz, .ref la, .int sq, .ref sa])), (la, .inl (cI, 200, .inl r.2.1)), (sa, .inl (cI, 64, .inl r.2.2))]) (A)) ([.ref mo, .int q, .int x, .int y, .int mi] : List Value).toArray s 0 0 A) (F0 m 100 ls [.int t0, .int t1, .int t2, .int t3, .ref mo]) := by
    try clear hf
    intro ls H locs t0 t1 t2 t3 lf sf hf hl hP hD hS
    unfold m_collect_b100 at hf
    refine lv_icmp_eq hx hb dM_collect_100 rfl (fun h14 => ?_) (fun h14 => ?_)
    · rw [if_pos h14] at hf
      refine lv_iconst (v := 0) hx hb dM_collect_107 (by decide) ?_
      exact B108 ls _ _ (0 : Int32) t2 t3 lf sf hf (lv_sub hl [] rfl) hP hD hS
    · rw [if_neg h14] at hf
      refine lv_iconst (v := 1) hx hb dM_collect_103 (by decide) ?_
      refine lv_goto hx hb dM_collect_104 rfl ?_
      exact B108 ls _ _ (1 : Int32) t2 t3 lf sf hf (lv_sub hl [] rfl) hP hD hS
  have B30 : ∀ (ls : Array Slot) (H : Heap) (locs : List Loc) (lf : Nat → Int32) (sf : Nat → Int32), m_collect_b30 nz q x y mi lf sf = some r → lv_has ls 5 [(0, .ref mo), (1, .int q), (2, .int x), (3, .int y), (4, .int mi)] → va_P (dC, dI) tqCl [(mo, .inr (3, [.int nz, .ref la, .int sq, .ref sa])), (la, .inl (cI, 200, .inl lf)), (sa, .inl (cI, 64, .inl sf))] H → va_D A [(mo, .inr (3, [.int nz, .ref la, .int sq, .ref sa])), (la, .inl (cI, 200, .inl lf)), (sa, .inl (cI, 64, .inl sf))] → va_S A s.heap H locs → W p l e ({ frames := 4, cells := 0, slots := 0, locals := 104 }) s m ([.ref mo, .int q, .int x, .int y, .int mi] : List Value).toArray below meth c H locs 0 0 (MQ below (va_Qi (fun (a : Int32) (_ : Unit) => a = r.1) (fun (_ : Unit) (t : State) => va_P (dC, dI) tqCl [(mo, .inr (3, [.int nz, .ref la, .int sq, .ref sa])), (la, .inl (cI, 200, .inl r.2.1)), (sa, .inl (cI, 64, .inl r.2.2))] t.heap ∧ va_K (dC, dI) tqCl [(cI, .int)] t ∧ va_D (A) [(mo, .inr (3, [.int nz, .ref la, .int sq, .ref sa])), (la, .inl (cI, 200, .inl r.2.1)), (sa, .inl (cI, 64, .inl r.2.2))]) (A)) ([.ref mo, .int q, .int x, .int y, .int mi] : List Value).toArray s 0 0 A) (F0 m 30 ls []) := by
    try clear hf
    intro ls H locs lf sf hf hl hP hD hS
    unfold m_collect_b30 at hf
    refine lv_aload_n hx hb dM_collect_30 rfl (lv_at hl 0 rfl) ?_
    refine lv_iload_n hx hb dM_collect_31 rfl (lv_at hl 1 rfl) ?_
    obtain ⟨r6, hu, hf⟩ := tq_bd_some hf
    have hPc := hP.sub (ws' := [(mo, .inr (3, [.int nz, .ref la, .int sq, .ref sa])), (sa, .inl (cI, 64, .inl sf))]) [0, 2] rfl
    have hDc := hD.sub (ws' := [(mo, .inr (3, [.int nz, .ref la, .int sq, .ref sa])), (sa, .inl (cI, 64, .inl sf))]) [0, 2] (by decide) rfl
    have hKc := hK.sub (tys' := [(cI, .int)]) [0] rfl
    have hFc := va_free (wc := [(mo, .inr (3, [.int nz, .ref la, .int sq, .ref sa])), (sa, .inl (cI, 64, .inl sf))]) hD hS hA [0, 2] rfl
    refine va_calli (va_runV (As := [.int q]) (rest := []) ⟨hx, hb, hml, hown, hww⟩ (c_m_lost l dC dI mo la sa cI H.size q nz sq sf r6 hu) (cwV 1 hww (tq_gV tqt_500 tqt_502 tqt_27 tqt_35 tqt_503) rfl rfl rfl (by decide +kernel) ⟨Nat.le_of_ble_eq_true rfl, Nat.le_of_ble_eq_true rfl⟩) ⟨fun a U g mk q => by obtain ⟨q0, q1, qP, qK, qD, qN⟩ := q; exact ⟨q0, q1, qP, va_K.moved (u := U) (U := U.calling g mk a) (Vm.Alike.refl U.vm) qK, qD, tqN_same (u := U) (U := U.calling g mk a) rfl qN⟩, va_recv hK hP (ci := 3) rfl (q0 := 0) rfl, fun U hU hW => ⟨rfl, by rw [hU], by rw [hU]; exact hPc, va_K.moved hW.alike hKc, hDc.weaken (fun _ _ _ _ => trivial), tqN_warm hW hN⟩⟩ rfl rfl hl.1 rfl (lv_room (Nat.le_of_ble_eq_true rfl)) dM_collect_32 ⟨Nat.zero_le _, Nat.zero_le _⟩) hS (fun q _ h => hFc q h) hFc (fun ra u0 t H1 locs ht hvm hpost hB hz1 hk1 hS => ?_)
    have hpost : r6 = ra := (show ra = r6 from hpost).symm
    subst hpost
    obtain ⟨hP1, hK1, hD1⟩ := hB
    rw [ht] at hP1
    obtain ⟨hP, hD⟩ := va_join (wr := [(la, .inl (cI, 200, .inl lf))]) (w1 := [(mo, .inr (3, [.int nz, .ref la, .int sq, .ref sa])), (sa, .inl (cI, 64, .inl sf))]) hP hD [0, 2] [1] rfl rfl (by decide) (by decide) hk1 hFc hP1 hD1
    generalize H1 = H at hP hS ⊢
    have hP := hP.sub (ws' := [(mo, .inr (3, [.int nz, .ref la, .int sq, .ref sa])), (la, .inl (cI, 200, .inl lf)), (sa, .inl (cI, 64, .inl sf))]) [1, 0, 2] rfl
    have hD := hD.sub (ws' := [(mo, .inr (3, [.int nz, .ref la, .int sq, .ref sa])), (la, .inl (cI, 200, .inl lf)), (sa, .inl (cI, 64, .inl sf))]) [1, 0, 2] (by decide) rfl
    refine lv_if_eq hx hb dM_collect_35 rfl (fun h7 => ?_) (fun h7 => ?_)
    · rw [if_pos h7] at hf
      refine lv_aload_n hx hb dM_collect_40 rfl (lv_at hl 0 rfl) ?_
      refine lv_iconst (v := 1) hx hb dM_collect_41 (by decide) ?_
      refine lv_iload_n hx hb dM_collect_42 rfl (lv_at hl 2 rfl) ?_
      refine lv_iconst (v := 4) hx hb dM_collect_43 (by decide) ?_
      refine lv_aload_n hx hb dM_collect_44 rfl (lv_at hl 0 rfl) ?_
      refine va_get (D := (dC, dI)) (ci := 3) (v := .int nz) (C := RM) (T := TM) (N := 4) hx hb hww tqinM hown hK hP 0 rfl rfl 0 (by decide) (hww _ tqt_330) (fun _ h9 => h9) rfl dM_collect_45 ?_
      refine lv_imul hx hb dM_collect_48 ?_
      refine lv_bipush (v := 8) hx hb dM_collect_49 (by decide) ?_
      refine lv_isub hx hb dM_collect_51 ?_
      obtain ⟨lf8, hu, hf⟩ := tq_bd_some hf
      have hPc := hP.sub (ws' := [(mo, .inr (3, [.int nz, .ref la, .int sq, .ref sa])), (la, .inl (cI, 200, .inl lf))]) [0, 1] rfl
      have hDc := hD.sub (ws' := [(mo, .inr (3, [.int nz, .ref la, .int sq, .ref sa])), (la, .inl (cI, 200, .inl lf))]) [0, 1] (by decide) rfl
      have hKc := hK.sub (tys' := [(cI, .int)]) [0] rfl
      have hFc := va_free (wc := [(mo, .inr (3, [.int nz, .ref la, .int sq, .ref sa])), (la, .inl (cI, 200, .inl lf))]) hD hS hA [0, 1] rfl
      refine va_callv (va_runV (As := [.int (1 : Int32), .int x, .int (((4 : Int32) * nz) - (8 : Int32))]) (rest := []) ⟨hx, hb, hml, hown, hww⟩ (c_m_load l dC dI mo la sa cI H.size (1 : Int32) x (((4 : Int32) * nz) - (8 : Int32)) nz sq lf lf8 hu) (cwV 3 hww (tq_gV tqt_367 tqt_369 tqt_8 tqt_35 tqt_370) rfl rfl rfl (by decide +kernel) ⟨Nat.le_of_ble_eq_true rfl, Nat.le_of_ble_eq_true rfl⟩) ⟨fun a U g mk q => by obtain ⟨q0, q1, qP, qK, qD, qN⟩ := q; exact ⟨q0, q1, qP, va_K.moved (u := U) (U := U.calling g mk a) (Vm.Alike.refl U.vm) qK, qD, tqN_same (u := U) (U := U.calling g mk a) rfl qN⟩, va_recv hK hP (ci := 3) rfl (q0 := 0) rfl, fun U hU hW => ⟨rfl, by rw [hU], by rw [hU]; exact hPc, va_K.moved hW.alike hKc, hDc.weaken (fun _ _ _ _ => trivial), tqN_warm hW hN⟩⟩ rfl rfl hl.1 rfl (lv_room (Nat.le_of_ble_eq_true rfl)) dM_collect_52 ⟨Nat.zero_le _, Nat.zero_le _⟩) hS (fun q _ h => hFc q h) hFc (fun u0 t H1 locs ht hvm hpost hB hz1 hk1 hS => ?_)
      obtain ⟨hP1, hK1, hD1⟩ := hB
      rw [ht] at hP1
      obtain ⟨hP, hD⟩ := va_join (wr := [(sa, .inl (cI, 64, .inl sf))]) (w1 := [(mo, .inr (3, [.int nz, .ref la, .int sq, .ref sa])), (la, .inl (cI, 200, .inl lf8))]) hP hD [0, 1] [2] rfl rfl (by decide) (by decide) hk1 hFc hP1 hD1
      generalize H1 = H at hP hS ⊢
      have hP := hP.sub (ws' := [(mo, .inr (3, [.int nz, .ref la, .int sq, .ref sa])), (la, .inl (cI, 200, .inl lf8)), (sa, .inl (cI, 64, .inl sf))]) [1, 2, 0] rfl
      have hD := hD.sub (ws' := [(mo, .inr (3, [.int nz, .ref la, .int sq, .ref sa])), (la, .inl (cI, 200, .inl lf8)), (sa, .inl (cI, 64, .inl sf))]) [1, 2, 0] (by decide) rfl
      refine lv_aload_n hx hb dM_collect_55 rfl (lv_at hl 0 rfl) ?_
      refine lv_iconst (v := 2) hx hb dM_collect_56 (by decide) ?_
      refine lv_iload_n hx hb dM_collect_57 rfl (lv_at hl 3 rfl) ?_
      refine lv_iconst (v := 4) hx hb dM_collect_58 (by decide) ?_
      refine lv_aload_n hx hb dM_collect_59 rfl (lv_at hl 0 rfl) ?_
      refine va_get (D := (dC, dI)) (ci := 3) (v := .int nz) (C := RM) (T := TM) (N := 4) hx hb hww tqinM hown hK hP 0 rfl rfl 0 (by decide) (hww _ tqt_330) (fun _ h9 => h9) rfl dM_collect_60 ?_
      refine lv_imul hx hb dM_collect_63 ?_
      refine lv_bipush (v := 8) hx hb dM_collect_64 (by decide) ?_
      refine lv_isub hx hb dM_collect_66 ?_
      obtain ⟨lf9, hu, hf⟩ := tq_bd_some hf
      have hPc := hP.sub (ws' := [(mo, .inr (3, [.int nz, .ref la, .int sq, .ref sa])), (la, .inl (cI, 200, .inl lf8))]) [0, 1] rfl
      have hDc := hD.sub (ws' := [(mo, .inr (3, [.int nz, .ref la, .int sq, .ref sa])), (la, .inl (cI, 200, .inl lf8))]) [0, 1] (by decide) rfl
      have hKc := hK.sub (tys' := [(cI, .int)]) [0] rfl
      have hFc := va_free (wc := [(mo, .inr (3, [.int nz, .ref la, .int sq, .ref sa])), (la, .inl (cI, 200, .inl lf8))]) hD hS hA [0, 1] rfl
      refine va_callv (va_runV (As := [.int (2 : Int32), .int y, .int (((4 : Int32) * nz) - (8 : Int32))]) (rest := []) ⟨hx, hb, hml, hown, hww⟩ (c_m_load l dC dI mo la sa cI H.size (2 : Int32) y (((4 : Int32) * nz) - (8 : Int32)) nz sq lf8 lf9 hu) (cwV 3 hww (tq_gV tqt_367 tqt_369 tqt_8 tqt_35 tqt_370) rfl rfl rfl (by decide +kernel) ⟨Nat.le_of_ble_eq_true rfl, Nat.le_of_ble_eq_true rfl⟩) ⟨fun a U g mk q => by obtain ⟨q0, q1, qP, qK, qD, qN⟩ := q; exact ⟨q0, q1, qP, va_K.moved (u := U) (U := U.calling g mk a) (Vm.Alike.refl U.vm) qK, qD, tqN_same (u := U) (U := U.calling g mk a) rfl qN⟩, va_recv hK hP (ci := 3) rfl (q0 := 0) rfl, fun U hU hW => ⟨rfl, by rw [hU], by rw [hU]; exact hPc, va_K.moved hW.alike hKc, hDc.weaken (fun _ _ _ _ => trivial), tqN_warm hW hN⟩⟩ rfl rfl hl.1 rfl (lv_room (Nat.le_of_ble_eq_true rfl)) dM_collect_67 ⟨Nat.zero_le _, Nat.zero_le _⟩) hS (fun q _ h => hFc q h) hFc (fun u0 t H1 locs ht hvm hpost hB hz1 hk1 hS => ?_)
      obtain ⟨hP1, hK1, hD1⟩ := hB
      rw [ht] at hP1
      obtain ⟨hP, hD⟩ := va_join (wr := [(sa, .inl (cI, 64, .inl sf))]) (w1 := [(mo, .inr (3, [.int nz, .ref la, .int sq, .ref sa])), (la, .inl (cI, 200, .inl lf9))]) hP hD [0, 1] [2] rfl rfl (by decide) (by decide) hk1 hFc hP1 hD1
      generalize H1 = H at hP hS ⊢
      have hP := hP.sub (ws' := [(mo, .inr (3, [.int nz, .ref la, .int sq, .ref sa])), (la, .inl (cI, 200, .inl lf9)), (sa, .inl (cI, 64, .inl sf))]) [1, 2, 0] rfl
      have hD := hD.sub (ws' := [(mo, .inr (3, [.int nz, .ref la, .int sq, .ref sa])), (la, .inl (cI, 200, .inl lf9)), (sa, .inl (cI, 64, .inl sf))]) [1, 2, 0] (by decide) rfl
      refine lv_aload_n hx hb dM_collect_70 rfl (lv_at hl 0 rfl) ?_
      refine lv_iconst (v := 1) hx hb dM_collect_71 (by decide) ?_
      refine lv_iconst (v := 2) hx hb dM_collect_72 (by decide) ?_
      refine lv_iconst (v := 0) hx hb dM_collect_73 (by decide) ?_
      obtain ⟨lf10, hu, hf⟩ := tq_bd_some hf
      have hPc := hP.sub (ws' := [(mo, .inr (3, [.int nz, .ref la, .int sq, .ref sa])), (la, .inl (cI, 200, .inl lf9))]) [0, 1] rfl
      have hDc := hD.sub (ws' := [(mo, .inr (3, [.int nz, .ref la, .int sq, .ref sa])), (la, .inl (cI, 200, .inl lf9))]) [0, 1] (by decide) rfl
      have hKc := hK.sub (tys' := [(cI, .int)]) [0] rfl
      have hFc := va_free (wc := [(mo, .inr (3, [.int nz, .ref la, .int sq, .ref sa])), (la, .inl (cI, 200, .inl lf9))]) hD hS hA [0, 1] rfl
      refine va_callv (va_runV (As := [.int (1 : Int32), .int (2 : Int32), .int (0 : Int32)]) (rest := []) ⟨hx, hb, hml, hown, hww⟩ (c_m_times l dC dI mo la sa cI H.size (1 : Int32) (2 : Int32) (0 : Int32) nz sq lf9 lf10 hu) (cwV 3 hww (tq_gV tqt_429 tqt_431 tqt_23 tqt_35 tqt_432) rfl rfl rfl (by decide +kernel) ⟨Nat.le_of_ble_eq_true rfl, Nat.le_of_ble_eq_true rfl⟩) ⟨fun a U g mk q => by obtain ⟨q0, q1, qP, qK, qD, qN⟩ := q; exact ⟨q0, q1, qP, va_K.moved (u := U) (U := U.calling g mk a) (Vm.Alike.refl U.vm) qK, qD, tqN_same (u := U) (U := U.calling g mk a) rfl qN⟩, va_recv hK hP (ci := 3) rfl (q0 := 0) rfl, fun U hU hW => ⟨rfl, by rw [hU], by rw [hU]; exact hPc, va_K.moved hW.alike hKc, hDc.weaken (fun _ _ _ _ => trivial), tqN_warm hW hN⟩⟩ rfl rfl hl.1 rfl (lv_room (Nat.le_of_ble_eq_true rfl)) dM_collect_74 ⟨Nat.zero_le _, Nat.zero_le _⟩) hS (fun q _ h => hFc q h) hFc (fun u0 t H1 locs ht hvm hpost hB hz1 hk1 hS => ?_)
      obtain ⟨hP1, hK1, hD1⟩ := hB
      rw [ht] at hP1
      obtain ⟨hP, hD⟩ := va_join (wr := [(sa, .inl (cI, 64, .inl sf))]) (w1 := [(mo, .inr (3, [.int nz, .ref la, .int sq, .ref sa])), (la, .inl (cI, 200, .inl lf10))]) hP hD [0, 1] [2] rfl rfl (by decide) (by decide) hk1 hFc hP1 hD1
      generalize H1 = H at hP hS ⊢
      have hP := hP.sub (ws' := [(mo, .inr (3, [.int nz, .ref la, .int sq, .ref sa])), (la, .inl (cI, 200, .inl lf10)), (sa, .inl (cI, 64, .inl sf))]) [1, 2, 0] rfl
      have hD := hD.sub (ws' := [(mo, .inr (3, [.int nz, .ref la, .int sq, .ref sa])), (la, .inl (cI, 200, .inl lf10)), (sa, .inl (cI, 64, .inl sf))]) [1, 2, 0] (by decide) rfl
      refine lv_aload_n hx hb dM_collect_77 rfl (lv_at hl 0 rfl) ?_
      refine lv_iload_n hx hb dM_collect_78 rfl (lv_at hl 1 rfl) ?_
      refine lv_iconst (v := 0) hx hb dM_collect_79 (by decide) ?_
      refine lv_iload hx hb dM_collect_80 (lv_at hl 4 rfl) ?_
      refine lv_aload_n hx hb dM_collect_82 rfl (lv_at hl 0 rfl) ?_
      refine lv_iload_n hx hb dM_collect_83 rfl (lv_at hl 2 rfl) ?_
      have hPc := hP.sub (ws' := [(mo, .inr (3, [.int nz, .ref la, .int sq, .ref sa]))]) [0] rfl
      have hDc := hD.sub (ws' := [(mo, .inr (3, [.int nz, .ref la, .int sq, .ref sa]))]) [0] (by decide) rfl
      have hKc := hK.sub (tys' := []) [] rfl
      have hFc := va_free (wc := [(mo, .inr (3, [.int nz, .ref la, .int sq, .ref sa]))]) hD hS hA [0] rfl
      refine va_calli (va_runV (As := [.int x]) (rest := [.int mi, .int (0 : Int32), .int q, .ref mo]) ⟨hx, hb, hml, hown, hww⟩ (c_m_negative l dC dI mo la sa H.size x nz sq (m_negative nz x) rfl) (cwV 1 hww (tq_gV tqt_393 tqt_395 tqt_14 tqt_35 tqt_396) rfl rfl rfl (by decide +kernel) ⟨Nat.le_of_ble_eq_true rfl, Nat.le_of_ble_eq_true rfl⟩) ⟨fun a U g mk q => by obtain ⟨q0, q1, qP, qK, qD, qN⟩ := q; exact ⟨q0, q1, qP, va_K.moved (u := U) (U := U.calling g mk a) (Vm.Alike.refl U.vm) qK, qD, tqN_same (u := U) (U := U.calling g mk a) rfl qN⟩, va_recv hK hP (ci := 3) rfl (q0 := 0) rfl, fun U hU hW => ⟨rfl, by rw [hU], by rw [hU]; exact hPc, va_K.moved hW.alike hKc, hDc.weaken (fun _ _ _ _ => trivial), tqN_warm hW hN⟩⟩ rfl rfl hl.1 rfl (lv_room (Nat.le_of_ble_eq_true rfl)) dM_collect_84 ⟨Nat.zero_le _, Nat.zero_le _⟩) hS (fun q _ h => hFc q h) hFc (fun ra u0 t H1 locs ht hvm hpost hB hz1 hk1 hS => ?_)
      have hpost : (m_negative nz x) = ra := (show ra = (m_negative nz x) from hpost).symm
      subst hpost
      obtain ⟨hP1, hK1, hD1⟩ := hB
      rw [ht] at hP1
      obtain ⟨hP, hD⟩ := va_join (wr := [(la, .inl (cI, 200, .inl lf10)), (sa, .inl (cI, 64, .inl sf))]) (w1 := [(mo, .inr (3, [.int nz, .ref la, .int sq, .ref sa]))]) hP hD [0] [1, 2] rfl rfl (by decide) (by decide) hk1 hFc hP1 hD1
      generalize H1 = H at hP hS ⊢
      have hP := hP.sub (ws' := [(mo, .inr (3, [.int nz, .ref la, .int sq, .ref sa])), (la, .inl (cI, 200, .inl lf10)), (sa, .inl (cI, 64, .inl sf))]) [2, 0, 1] rfl
      have hD := hD.sub (ws' := [(mo, .inr (3, [.int nz, .ref la, .int sq, .ref sa])), (la, .inl (cI, 200, .inl lf10)), (sa, .inl (cI, 64, .inl sf))]) [2, 0, 1] (by decide) rfl
      refine lv_aload_n hx hb dM_collect_87 rfl (lv_at hl 0 rfl) ?_
      refine lv_iload_n hx hb dM_collect_88 rfl (lv_at hl 3 rfl) ?_
      have hPc := hP.sub (ws' := [(mo, .inr (3, [.int nz, .ref la, .int sq, .ref sa]))]) [0] rfl
      have hDc := hD.sub (ws' := [(mo, .inr (3, [.int nz, .ref la, .int sq, .ref sa]))]) [0] (by decide) rfl
      have hKc := hK.sub (tys' := []) [] rfl
      have hFc := va_free (wc := [(mo, .inr (3, [.int nz, .ref la, .int sq, .ref sa]))]) hD hS hA [0] rfl
      refine va_calli (va_runV (As := [.int y]) (rest := [.int (m_negative nz x), .int mi, .int (0 : Int32), .int q, .ref mo]) ⟨hx, hb, hml, hown, hww⟩ (c_m_negative l dC dI mo la sa H.size y nz sq (m_negative nz y) rfl) (cwV 1 hww (tq_gV tqt_393 tqt_395 tqt_14 tqt_35 tqt_396) rfl rfl rfl (by decide +kernel) ⟨Nat.le_of_ble_eq_true rfl, Nat.le_of_ble_eq_true rfl⟩) ⟨fun a U g mk q => by obtain ⟨q0, q1, qP, qK, qD, qN⟩ := q; exact ⟨q0, q1, qP, va_K.moved (u := U) (U := U.calling g mk a) (Vm.Alike.refl U.vm) qK, qD, tqN_same (u := U) (U := U.calling g mk a) rfl qN⟩, va_recv hK hP (ci := 3) rfl (q0 := 0) rfl, fun U hU hW => ⟨rfl, by rw [hU], by rw [hU]; exact hPc, va_K.moved hW.alike hKc, hDc.weaken (fun _ _ _ _ => trivial), tqN_warm hW hN⟩⟩ rfl rfl hl.1 rfl (lv_room (Nat.le_of_ble_eq_true rfl)) dM_collect_89 ⟨Nat.zero_le _, Nat.zero_le _⟩) hS (fun q _ h => hFc q h) hFc (fun ra u0 t H1 locs ht hvm hpost hB hz1 hk1 hS => ?_)
      have hpost : (m_negative nz y) = ra := (show ra = (m_negative nz y) from hpost).symm
      subst hpost
      obtain ⟨hP1, hK1, hD1⟩ := hB
      rw [ht] at hP1
      obtain ⟨hP, hD⟩ := va_join (wr := [(la, .inl (cI, 200, .inl lf10)), (sa, .inl (cI, 64, .inl sf))]) (w1 := [(mo, .inr (3, [.int nz, .ref la, .int sq, .ref sa]))]) hP hD [0] [1, 2] rfl rfl (by decide) (by decide) hk1 hFc hP1 hD1
      generalize H1 = H at hP hS ⊢
      have hP := hP.sub (ws' := [(mo, .inr (3, [.int nz, .ref la, .int sq, .ref sa])), (la, .inl (cI, 200, .inl lf10)), (sa, .inl (cI, 64, .inl sf))]) [2, 0, 1] rfl
      have hD := hD.sub (ws' := [(mo, .inr (3, [.int nz, .ref la, .int sq, .ref sa])), (la, .inl (cI, 200, .inl lf10)), (sa, .inl (cI, 64, .inl sf))]) [2, 0, 1] (by decide) rfl
      refine lv_icmp_eq hx hb dM_collect_92 rfl (fun h13 => ?_) (fun h13 => ?_)
      · rw [if_pos h13] at hf
        refine lv_iconst (v := 0) hx hb dM_collect_99 (by decide) ?_
        exact B100 ls _ _ (0 : Int32) mi (0 : Int32) q lf10 sf hf (lv_sub hl [] rfl) hP hD hS
      · rw [if_neg h13] at hf
        refine lv_iconst (v := 1) hx hb dM_collect_95 (by decide) ?_
        refine lv_goto hx hb dM_collect_96 rfl ?_
        exact B100 ls _ _ (1 : Int32) mi (0 : Int32) q lf10 sf hf (lv_sub hl [] rfl) hP hD hS
    · rw [if_neg h7] at hf
      refine lv_iconst (v := 1) hx hb dM_collect_38 (by decide) ?_
      have hf := Option.some.inj hf
      subst hf
      exact W.zret (v := (1 : Int32)) hx hb hr (tq_nb_bool (by decide)) (fun t ht hW => ⟨⟨(1 : Int32), (), rfl, rfl, by rw [ht]; exact hP, va_K.moved hW.alike hK, hD⟩, hS.F ht⟩) hS.2.2 dM_collect_39
  have B25 : ∀ (ls : Array Slot) (H : Heap) (locs : List Loc) (lf : Nat → Int32) (sf : Nat → Int32), m_collect_b25 nz q x y mi lf sf = some r → lv_has ls 5 [(0, .ref mo), (1, .int q), (2, .int x), (3, .int y), (4, .int mi)] → va_P (dC, dI) tqCl [(mo, .inr (3, [.int nz, .ref la, .int sq, .ref sa])), (la, .inl (cI, 200, .inl lf)), (sa, .inl (cI, 64, .inl sf))] H → va_D A [(mo, .inr (3, [.int nz, .ref la, .int sq, .ref sa])), (la, .inl (cI, 200, .inl lf)), (sa, .inl (cI, 64, .inl sf))] → va_S A s.heap H locs → W p l e ({ frames := 4, cells := 0, slots := 0, locals := 104 }) s m ([.ref mo, .int q, .int x, .int y, .int mi] : List Value).toArray below meth c H locs 0 0 (MQ below (va_Qi (fun (a : Int32) (_ : Unit) => a = r.1) (fun (_ : Unit) (t : State) => va_P (dC, dI) tqCl [(mo, .inr (3, [.int nz, .ref la, .int sq, .ref sa])), (la, .inl (cI, 200, .inl r.2.1)), (sa, .inl (cI, 64, .inl r.2.2))] t.heap ∧ va_K (dC, dI) tqCl [(cI, .int)] t ∧ va_D (A) [(mo, .inr (3, [.int nz, .ref la, .int sq, .ref sa])), (la, .inl (cI, 200, .inl r.2.1)), (sa, .inl (cI, 64, .inl r.2.2))]) (A)) ([.ref mo, .int q, .int x, .int y, .int mi] : List Value).toArray s 0 0 A) (F0 m 25 ls []) := by
    try clear hf
    intro ls H locs lf sf hf hl hP hD hS
    unfold m_collect_b25 at hf
    refine lv_aload_n hx hb dM_collect_25 rfl (lv_at hl 0 rfl) ?_
    refine lv_iload_n hx hb dM_collect_26 rfl (lv_at hl 1 rfl) ?_
    obtain ⟨sf5, hu, hf⟩ := tq_bd_some hf
    have hPc := hP.sub (ws' := [(mo, .inr (3, [.int nz, .ref la, .int sq, .ref sa])), (sa, .inl (cI, 64, .inl sf))]) [0, 2] rfl
    have hDc := hD.sub (ws' := [(mo, .inr (3, [.int nz, .ref la, .int sq, .ref sa])), (sa, .inl (cI, 64, .inl sf))]) [0, 2] (by decide) rfl
    have hKc := hK.sub (tys' := [(cI, .int)]) [0] rfl
    have hFc := va_free (wc := [(mo, .inr (3, [.int nz, .ref la, .int sq, .ref sa])), (sa, .inl (cI, 64, .inl sf))]) hD hS hA [0, 2] rfl
    refine va_callv (va_runV (As := [.int q]) (rest := []) ⟨hx, hb, hml, hown, hww⟩ (c_m_lose l dC dI mo la sa cI H.size q nz sq sf sf5 hu) (cwV 1 hww (tq_gV tqt_495 tqt_497 tqt_26 tqt_35 tqt_498) rfl rfl rfl (by decide +kernel) ⟨Nat.le_of_ble_eq_true rfl, Nat.le_of_ble_eq_true rfl⟩) ⟨fun a U g mk q => by obtain ⟨q0, q1, qP, qK, qD, qN⟩ := q; exact ⟨q0, q1, qP, va_K.moved (u := U) (U := U.calling g mk a) (Vm.Alike.refl U.vm) qK, qD, tqN_same (u := U) (U := U.calling g mk a) rfl qN⟩, va_recv hK hP (ci := 3) rfl (q0 := 0) rfl, fun U hU hW => ⟨rfl, by rw [hU], by rw [hU]; exact hPc, va_K.moved hW.alike hKc, hDc.weaken (fun _ _ _ _ => trivial), tqN_warm hW hN⟩⟩ rfl rfl hl.1 rfl (lv_room (Nat.le_of_ble_eq_true rfl)) dM_collect_27 ⟨Nat.zero_le _, Nat.zero_le _⟩) hS (fun q _ h => hFc q h) hFc (fun u0 t H1 locs ht hvm hpost hB hz1 hk1 hS => ?_)
    obtain ⟨hP1, hK1, hD1⟩ := hB
    rw [ht] at hP1
    obtain ⟨hP, hD⟩ := va_join (wr := [(la, .inl (cI, 200, .inl lf))]) (w1 := [(mo, .inr (3, [.int nz, .ref la, .int sq, .ref sa])), (sa, .inl (cI, 64, .inl sf5))]) hP hD [0, 2] [1] rfl rfl (by decide) (by decide) hk1 hFc hP1 hD1
    generalize H1 = H at hP hS ⊢
    have hP := hP.sub (ws' := [(mo, .inr (3, [.int nz, .ref la, .int sq, .ref sa])), (la, .inl (cI, 200, .inl lf)), (sa, .inl (cI, 64, .inl sf5))]) [1, 0, 2] rfl
    have hD := hD.sub (ws' := [(mo, .inr (3, [.int nz, .ref la, .int sq, .ref sa])), (la, .inl (cI, 200, .inl lf)), (sa, .inl (cI, 64, .inl sf5))]) [1, 0, 2] (by decide) rfl
    exact B30 ls _ _ lf sf5 hf (lv_sub hl [0, 1, 2, 3, 4] rfl) hP hD hS
  unfold m_collect at hf
  refine lv_iload_n hx hb dM_collect_0 rfl (lv_at hl 1 rfl) ?_
  have hPc := hP.sub (ws' := []) [] rfl
  have hDc := hD.sub (ws' := []) [] (by decide) rfl
  have hKc := hK.sub (tys' := []) [] rfl
  have hFc := va_free (wc := []) hD hS hA [] rfl
  refine va_calli (va_runS (As := [.int q]) (rest := []) ⟨hx, hb, hml, hown, hww⟩ (c_m_isSum l dC dI s.heap.size q (m_isSum q) rfl) (va_cwS 1 hww (tq_gS tqt_488 tqt_489 tqt_35 tqt_490) rfl rfl rfl (by decide +kernel) ⟨Nat.le_of_ble_eq_true rfl, Nat.le_of_ble_eq_true rfl⟩) ⟨fun a U g mk q => by obtain ⟨q0, q1, qP, qK, qD, qN⟩ := q; exact ⟨q0, q1, qP, va_K.moved (u := U) (U := U.calling g mk a) (Vm.Alike.refl U.vm) qK, qD, tqN_same (u := U) (U := U.calling g mk a) rfl qN⟩, fun U hU hW => ⟨rfl, by rw [hU], by rw [hU]; exact hPc, va_K.moved hW.alike hKc, hDc.weaken (fun _ _ _ _ => trivial), tqN_warm hW hN⟩⟩ rfl rfl hl.1 rfl (lv_room (Nat.le_of_ble_eq_true rfl)) dM_collect_1 ⟨Nat.zero_le _, Nat.zero_le _⟩) hS (fun q _ h => hFc q h) hFc (fun ra u0 t H1 locs ht hvm hpost hB hz1 hk1 hS => ?_)
  have hpost : (m_isSum q) = ra := (show ra = (m_isSum q) from hpost).symm
  subst hpost
  obtain ⟨hP1, hK1, hD1⟩ := hB
  rw [ht] at hP1
  obtain ⟨hP, hD⟩ := va_join (wr := [(mo, .inr (3, [.int nz, .ref la, .int sq, .ref sa])), (la, .inl (cI, 200, .inl lf)), (sa, .inl (cI, 64, .inl sf))]) (w1 := []) hP hD [] [0, 1, 2] rfl rfl (by decide) (by decide) hk1 hFc hP1 hD1
  generalize H1 = H at hP hS ⊢
  have hP := hP.sub (ws' := [(mo, .inr (3, [.int nz, .ref la, .int sq, .ref sa])), (la, .inl (cI, 200, .inl lf)), (sa, .inl (cI, 64, .inl sf))]) [0, 1, 2] rfl
  have hD := hD.sub (ws' := [(mo, .inr (3, [.int nz, .ref la, .int sq, .ref sa])), (la, .inl (cI, 200, .inl lf)), (sa, .inl (cI, 64, .inl sf))]) [0, 1, 2] (by decide) rfl
  refine lv_if_ne hx hb dM_collect_4 rfl (fun h2 => ?_) (fun h2 => ?_)
  · rw [if_pos h2] at hf
    refine lv_aload_n hx hb dM_collect_9 rfl (lv_at hl 0 rfl) ?_
    refine lv_iload_n hx hb dM_collect_10 rfl (lv_at hl 2 rfl) ?_
    have hPc := hP.sub (ws' := [(mo, .inr (3, [.int nz, .ref la, .int sq, .ref sa]))]) [0] rfl
    have hDc := hD.sub (ws' := [(mo, .inr (3, [.int nz, .ref la, .int sq, .ref sa]))]) [0] (by decide) rfl
    have hKc := hK.sub (tys' := []) [] rfl
    have hFc := va_free (wc := [(mo, .inr (3, [.int nz, .ref la, .int sq, .ref sa]))]) hD hS hA [0] rfl
    refine va_calli (va_runV (As := [.int x]) (rest := []) ⟨hx, hb, hml, hown, hww⟩ (c_m_isNot l dC dI mo la sa H.size x nz sq (m_isNot nz x) rfl) (cwV 1 hww (tq_gV tqt_356 tqt_358 tqt_6 tqt_35 tqt_359) rfl rfl rfl (by decide +kernel) ⟨Nat.le_of_ble_eq_true rfl, Nat.le_of_ble_eq_true rfl⟩) ⟨fun a U g mk q => by obtain ⟨q0, q1, qP, qK, qD, qN⟩ := q; exact ⟨q0, q1, qP, va_K.moved (u := U) (U := U.calling g mk a) (Vm.Alike.refl U.vm) qK, qD, tqN_same (u := U) (U := U.calling g mk a) rfl qN⟩, va_recv hK hP (ci := 3) rfl (q0 := 0) rfl, fun U hU hW => ⟨rfl, by rw [hU], by rw [hU]; exact hPc, va_K.moved hW.alike hKc, hDc.weaken (fun _ _ _ _ => trivial), tqN_warm hW hN⟩⟩ rfl rfl hl.1 rfl (lv_room (Nat.le_of_ble_eq_true rfl)) dM_collect_11 ⟨Nat.zero_le _, Nat.zero_le _⟩) hS (fun q _ h => hFc q h) hFc (fun ra u0 t H1 locs ht hvm hpost hB hz1 hk1 hS => ?_)
    have hpost : (m_isNot nz x) = ra := (show ra = (m_isNot nz x) from hpost).symm
    subst hpost
    obtain ⟨hP1, hK1, hD1⟩ := hB
    rw [ht] at hP1
    obtain ⟨hP, hD⟩ := va_join (wr := [(la, .inl (cI, 200, .inl lf)), (sa, .inl (cI, 64, .inl sf))]) (w1 := [(mo, .inr (3, [.int nz, .ref la, .int sq, .ref sa]))]) hP hD [0] [1, 2] rfl rfl (by decide) (by decide) hk1 hFc hP1 hD1
    generalize H1 = H at hP hS ⊢
    have hP := hP.sub (ws' := [(mo, .inr (3, [.int nz, .ref la, .int sq, .ref sa])), (la, .inl (cI, 200, .inl lf)), (sa, .inl (cI, 64, .inl sf))]) [2, 0, 1] rfl
    have hD := hD.sub (ws' := [(mo, .inr (3, [.int nz, .ref la, .int sq, .ref sa])), (la, .inl (cI, 200, .inl lf)), (sa, .inl (cI, 64, .inl sf))]) [2, 0, 1] (by decide) rfl
    refine lv_if_ne hx hb dM_collect_14 rfl (fun h4 => ?_) (fun h4 => ?_)
    · rw [if_pos h4] at hf
      exact B25 ls _ _ lf sf hf (lv_sub hl [0, 1, 2, 3, 4] rfl) hP hD hS
    · rw [if_neg (fun q : ¬ (m_isNot nz x) = 0 => q h4)] at hf
      refine lv_aload_n hx hb dM_collect_17 rfl (lv_at hl 0 rfl) ?_
      refine lv_iload_n hx hb dM_collect_18 rfl (lv_at hl 3 rfl) ?_
      have hPc := hP.sub (ws' := [(mo, .inr (3, [.int nz, .ref la, .int sq, .ref sa]))]) [0] rfl
      have hDc := hD.sub (ws' := [(mo, .inr (3, [.int nz, .ref la, .int sq, .ref sa]))]) [0] (by decide) rfl
      have hKc := hK.sub (tys' := []) [] rfl
      have hFc := va_free (wc := [(mo, .inr (3, [.int nz, .ref la, .int sq, .ref sa]))]) hD hS hA [0] rfl
      refine va_calli (va_runV (As := [.int y]) (rest := []) ⟨hx, hb, hml, hown, hww⟩ (c_m_isNot l dC dI mo la sa H.size y nz sq (m_isNot nz y) rfl) (cwV 1 hww (tq_gV tqt_356 tqt_358 tqt_6 tqt_35 tqt_359) rfl rfl rfl (by decide +kernel) ⟨Nat.le_of_ble_eq_true rfl, Nat.le_of_ble_eq_true rfl⟩) ⟨fun a U g mk q => by obtain ⟨q0, q1, qP, qK, qD, qN⟩ := q; exact ⟨q0, q1, qP, va_K.moved (u := U) (U := U.calling g mk a) (Vm.Alike.refl U.vm) qK, qD, tqN_same (u := U) (U := U.calling g mk a) rfl qN⟩, va_recv hK hP (ci := 3) rfl (q0 := 0) rfl, fun U hU hW => ⟨rfl, by rw [hU], by rw [hU]; exact hPc, va_K.moved hW.alike hKc, hDc.weaken (fun _ _ _ _ => trivial), tqN_warm hW hN⟩⟩ rfl rfl hl.1 rfl (lv_room (Nat.le_of_ble_eq_true rfl)) dM_collect_19 ⟨Nat.zero_le _, Nat.zero_le _⟩) hS (fun q _ h => hFc q h) hFc (fun ra u0 t H1 locs ht hvm hpost hB hz1 hk1 hS => ?_)
      have hpost : (m_isNot nz y) = ra := (show ra = (m_isNot nz y) from hpost).symm
      subst hpost
      obtain ⟨hP1, hK1, hD1⟩ := hB
      rw [ht] at hP1
      obtain ⟨hP, hD⟩ := va_join (wr := [(la, .inl (cI, 200, .inl lf)), (sa, .inl (cI, 64, .inl sf))]) (w1 := [(mo, .inr (3, [.int nz, .ref la, .int sq, .ref sa]))]) hP hD [0] [1, 2] rfl rfl (by decide) (by decide) hk1 hFc hP1 hD1
      generalize H1 = H at hP hS ⊢
      have hP := hP.sub (ws' := [(mo, .inr (3, [.int nz, .ref la, .int sq, .ref sa])), (la, .inl (cI, 200, .inl lf)), (sa, .inl (cI, 64, .inl sf))]) [2, 0, 1] rfl
      have hD := hD.sub (ws' := [(mo, .inr (3, [.int nz, .ref la, .int sq, .ref sa])), (la, .inl (cI, 200, .inl lf)), (sa, .inl (cI, 64, .inl sf))]) [2, 0, 1] (by decide) rfl
      refine lv_if_eq hx hb dM_collect_22 rfl (fun h17 => ?_) (fun h17 => ?_)
      · rw [if_pos h17] at hf
        exact B30 ls _ _ lf sf hf (lv_sub hl [0, 1, 2, 3, 4] rfl) hP hD hS
      · rw [if_neg h17] at hf
        exact B25 ls _ _ lf sf hf (lv_sub hl [0, 1, 2, 3, 4] rfl) hP hD hS
  · rw [if_neg (fun q : ¬ (m_isSum q) = 0 => q h2)] at hf
    refine lv_iconst (v := 0) hx hb dM_collect_7 (by decide) ?_
    have hf := Option.some.inj hf
    subst hf
    exact W.zret (v := (0 : Int32)) hx hb hr (tq_nb_bool (by decide)) (fun t ht hW => ⟨⟨(0 : Int32), (), rfl, rfl, by rw [ht]; exact hP, va_K.moved hW.alike hK, hD⟩, hS.F ht⟩) hS.2.2 dM_collect_8
set_option maxHeartbeats 4000000 in
set_option maxRecDepth 100000 in
theorem c_m_draw (l : Launch) (dC : Nat → ClassId) (dI : Nat → Nat → Nat) (mo : Nat) (la : Nat) (sa : Nat) (cI : ClassId) (sz : Nat) (q : Int32) (rg : Int32) (nz : Int32) (sq : Int32) (lf : Nat → Int32) (sf : Nat → Int32) (r : (Nat → Int32)) (hf : m_draw nz lf sf q rg = some r) : Met l yM_draw tqw_M_draw ({ frames := 1, cells := 0, slots := 0, locals := 22 }) (va_Pc [.ref mo, .int q, .int rg] (fun U => U.heap.size = sz ∧ va_P (dC, dI) tqCl [(mo, .inr (3, [.int nz, .ref la, .int sq, .ref sa])), (la, .inl (cI, 200, .inl lf)), (sa, .inl (cI, 64, .inl sf))] U.heap ∧ va_K (dC, dI) tqCl [(cI, .int)] U ∧ va_D (fun _ => True) [(mo, .inr (3, [.int nz, .ref la, .int sq, .ref sa])), (la, .inl (cI, 200, .inl lf)), (sa, .inl (cI, 64, .inl sf))] ∧ tqN U)) (va_Qv (fun (_ : Unit) => True) (fun (_ : Unit) (t : State) => va_P (dC, dI) tqCl [(mo, .inr (3, [.int nz, .ref la, .int sq, .ref sa])), (la, .inl (cI, 200, .inl r)), (sa, .inl (cI, 64, .inl sf))] t.heap ∧ va_K (dC, dI) tqCl [(cI, .int)] t ∧ va_D (va_A [(mo, .inr (3, [.int nz, .ref la, .int sq, .ref sa])), (la, .inl (cI, 200, .inl lf)), (sa, .inl (cI, 64, .inl sf))] sz) [(mo, .inr (3, [.int nz, .ref la, .int sq, .ref sa])), (la, .inl (cI, 200, .inl r)), (sa, .inl (cI, 64, .inl sf))]) (va_A [(mo, .inr (3, [.int nz, .ref la, .int sq, .ref sa])), (la, .inl (cI, 200, .inl lf)), (sa, .inl (cI, 64, .inl sf))] sz)) 0 0 (va_A [(mo, .inr (3, [.int nz, .ref la, .int sq, .ref sa])), (la, .inl (cI, 200, .inl lf)), (sa, .inl (cI, 64, .inl sf))] sz) := by
  refine Met.ofW (cc := cM_draw) (maxL := 4) (ret := none) (by decide) rfl ?_
  intro p e s m args below meth c s₁ B hml hv
  obtain ⟨rfl, hsz, hP, hK, hD0, hN⟩ := hv
  have hx := B.exec
  have hb := B.bytes
  have hr := B.returns
  have hts := atoms_spec (ws := tqw_M_draw) B.pre
  have hww : ∀ w ∈ tqW, w.before _ s = true := fun w h => hts w (List.mem_cons_of_mem _ h)
  have hown : s.vm.findClass RM = some m.cls := findClass_of_methodNamed B.named
  have hlocks := B.notSynchronized
  subst hsz
  have hD := hD0.self (sz := s.heap.size)
  generalize hAe : va_A [(mo, .inr (3, [.int nz, .ref la, .int sq, .ref sa])), (la, .inl (cI, 200, .inl lf)), (sa, .inl (cI, 64, .inl sf))] s.heap.size = A at hD ⊢
  have hA : ∀ q : Nat, s.heap.size ≤ q → A q := fun q h => by rw [← hAe]; exact Or.inr h
  have hS : va_S A s.heap s.heap [] := va_S.rf
  have hP : va_P (dC, dI) tqCl [(mo, .inr (3, [.int nz, .ref la, .int sq, .ref sa])), (la, .inl (cI, 200, .inl lf)), (sa, .inl (cI, 64, .inl sf))] s.heap := hP
  have hl := lv_entry ([.ref mo, .int q, .int rg]) (n := 4) (Nat.le_of_ble_eq_true rfl)
  rw [lg_entry_eq]
  generalize (lg_sl ([.ref mo, .int q, .int rg]) ++ List.replicate (4 - (lg_sl ([.ref mo, .int q, .int rg])).length) Slot.unset).toArray = ls at hl ⊢
  have hl : lv_has ls 4 [(0, .ref mo), (1, .int q), (2, .int rg)] := hl
  have B7 : ∀ (n7 : Nat) (ls : Array Slot) (H : Heap) (locs : List Loc) (v3 : Int32) (lf : Nat → Int32), m_draw_b7 nz sf q rg n7 v3 lf = some r → lv_has ls 4 [(0, .ref mo), (1, .int q), (2, .int rg), (3, .int v3)] → va_P (dC, dI) tqCl [(mo, .inr (3, [.int nz, .ref la, .int sq, .ref sa])), (la, .inl (cI, 200, .inl lf)), (sa, .inl (cI, 64, .inl sf))] H → va_D A [(mo, .inr (3, [.int nz, .ref la, .int sq, .ref sa])), (la, .inl (cI, 200, .inl lf)), (sa, .inl (cI, 64, .inl sf))] → va_S A s.heap H locs → W p l e ({ frames := 1, cells := 0, slots := 0, locals := 22 }) s m ([.ref mo, .int q, .int rg] : List Value).toArray below meth c H locs 0 0 (MQ below (va_Qv (fun (_ : Unit) => True) (fun (_ : Unit) (t : State) => va_P (dC, dI) tqCl [(mo, .inr (3, [.int nz, .ref la, .int sq, .ref sa])), (la, .inl (cI, 200, .inl r)), (sa, .inl (cI, 64, .inl sf))] t.heap ∧ va_K (dC, dI) tqCl [(cI, .int)] t ∧ va_D (A) [(mo, .inr (3, [.int nz, .ref la, .int sq, .ref sa])), (la, .inl (cI, 200, .inl r)), (sa, .inl (cI, 64, .inl sf))]) (A)) ([.ref mo, .int q, .int rg] : List Value).toArray s 0 0 A) (F0 m 7 ls []) := by
    try clear hf
    intro n7
    induction n7 with
    | zero =>
      intro ls H locs v3 lf hf hl hP hD hS
      have hf : (none : Option ((Nat → Int32))) = some r := hf
      cases hf
    | succ n7 ih7 =>
      intro ls H locs v3 lf hf hl hP hD hS
      unfold m_draw_b7 at hf
      refine lv_iload_n hx hb dM_draw_7 rfl (lv_at hl 3 rfl) ?_
      refine lv_aload_n hx hb dM_draw_8 rfl (lv_at hl 0 rfl) ?_
      refine va_get (D := (dC, dI)) (ci := 3) (v := .int nz) (C := RM) (T := TM) (N := 4) hx hb hww tqinM hown hK hP 0 rfl rfl 0 (by decide) (hww _ tqt_330) (fun _ h9 => h9) rfl dM_draw_9 ?_
      refine lv_icmp_ge hx hb dM_draw_12 rfl (fun h2 => ?_) (fun h2 => ?_)
      · rw [if_pos h2] at hf
        have hf := Option.some.inj hf
        subst hf
        exact W.vret hx hb hr (fun t ht hW => ⟨⟨(), rfl, trivial, by rw [ht]; exact hP, va_K.moved hW.alike hK, hD⟩, hS.F ht⟩) hS.2.2 dM_draw_43
      · rw [if_neg h2] at hf
        refine lv_aload_n hx hb dM_draw_15 rfl (lv_at hl 0 rfl) ?_
        refine va_get (D := (dC, dI)) (ci := 3) (v := .ref la) (C := RM) (T := TM) (N := 4) hx hb hww tqinM hown hK hP 0 rfl rfl 1 (by decide) (hww _ tqt_331) (fun _ h9 => h9) rfl dM_draw_16 ?_
        refine lv_bipush (v := 40) hx hb dM_draw_19 (by decide) ?_
        refine lv_iload_n hx hb dM_draw_21 rfl (lv_at hl 2 rfl) ?_
        refine lv_imul hx hb dM_draw_22 ?_
        refine lv_iload_n hx hb dM_draw_23 rfl (lv_at hl 3 rfl) ?_
        refine lv_iadd hx hb dM_draw_24 ?_
        refine lv_aload_n hx hb dM_draw_25 rfl (lv_at hl 0 rfl) ?_
        refine va_get (D := (dC, dI)) (ci := 3) (v := .ref sa) (C := RM) (T := TM) (N := 4) hx hb hww tqinM hown hK hP 0 rfl rfl 3 (by decide) (hww _ tqt_333) (fun _ h9 => h9) rfl dM_draw_26 ?_
        refine lv_bipush (v := 32) hx hb dM_draw_29 (by decide) ?_
        refine lv_iload_n hx hb dM_draw_31 rfl (lv_at hl 1 rfl) ?_
        refine lv_imul hx hb dM_draw_32 ?_
        refine lv_iload_n hx hb dM_draw_33 rfl (lv_at hl 3 rfl) ?_
        refine lv_iadd hx hb dM_draw_34 ?_
        by_cases h3 : ((((32 : Int32) * q) + v3) < 0 ∨ 64 ≤ (((32 : Int32) * q) + v3).toNatClampNeg)
        · rw [if_pos h3] at hf
          cases hf
        · rw [if_neg h3] at hf
          refine va_iald hx hb hK hP 2 0 rfl rfl h3 dM_draw_35 ?_
          by_cases h4 : ((((40 : Int32) * rg) + v3) < 0 ∨ 200 ≤ (((40 : Int32) * rg) + v3).toNatClampNeg)
          · rw [if_pos h4] at hf
            cases hf
          · rw [if_neg h4] at hf
            refine va_iast hx hb hK hP hD hS 1 0 rfl rfl h4 dM_draw_36 (fun H locs hP hD hS => ?_)
            have hP : va_P (dC, dI) tqCl [(mo, .inr (3, [.int nz, .ref la, .int sq, .ref sa])), (la, .inl (cI, 200, .inl (upd lf (((40 : Int32) * rg) + v3).toNatClampNeg (sf (((32 : Int32) * q) + v3).toNatClampNeg)))), (sa, .inl (cI, 64, .inl sf))] H := hP
            have hD : va_D A [(mo, .inr (3, [.int nz, .ref la, .int sq, .ref sa])), (la, .inl (cI, 200, .inl (upd lf (((40 : Int32) * rg) + v3).toNatClampNeg (sf (((32 : Int32) * q) + v3).toNatClampNeg)))), (sa, .inl (cI, 64, .inl sf))] := hD
            refine lv_iinc (v := v3 + (1 : Int32)) (lv' := [(3, .int (v3 + (1 : Int32))), (0, .ref mo), (1, .int q), (2, .int rg)]) hx hb dM_draw_37 hl (k := 3) rfl rfl (by decide) rfl (fun ls hl => ?_)
            refine lv_goto hx hb dM_draw_40 rfl ?_
            exact ih7 ls _ _ (v3 + (1 : Int32)) (upd lf (((40 : Int32) * rg) + v3).toNatClampNeg (sf (((32 : Int32) * q) + v3).toNatClampNeg)) hf (lv_sub hl [1, 2, 3, 0] rfl) hP hD hS
  unfold m_draw at hf
  refine lv_aload_n hx hb dM_draw_0 rfl (lv_at hl 0 rfl) ?_
  refine lv_iload_n hx hb dM_draw_1 rfl (lv_at hl 2 rfl) ?_
  obtain ⟨lf1, hu, hf⟩ := tq_bd_some hf
  have hPc := hP.sub (ws' := [(mo, .inr (3, [.int nz, .ref la, .int sq, .ref sa])), (la, .inl (cI, 200, .inl lf))]) [0, 1] rfl
  have hDc := hD.sub (ws' := [(mo, .inr (3, [.int nz, .ref la, .int sq, .ref sa])), (la, .inl (cI, 200, .inl lf))]) [0, 1] (by decide) rfl
  have hKc := hK.sub (tys' := [(cI, .int)]) [0] rfl
  have hFc := va_free (wc := [(mo, .inr (3, [.int nz, .ref la, .int sq, .ref sa])), (la, .inl (cI, 200, .inl lf))]) hD hS hA [0, 1] rfl
  refine va_callv (va_runV (As := [.int rg]) (rest := []) ⟨hx, hb, hml, hown, hww⟩ (c_m_zero l dC dI mo la sa cI s.heap.size rg nz sq lf lf1 hu) (cwV 1 hww (tq_gV tqt_371 tqt_373 tqt_9 tqt_35 tqt_374) rfl rfl rfl (by decide +kernel) ⟨Nat.le_of_ble_eq_true rfl, Nat.le_of_ble_eq_true rfl⟩) ⟨fun a U g mk q => by obtain ⟨q0, q1, qP, qK, qD, qN⟩ := q; exact ⟨q0, q1, qP, va_K.moved (u := U) (U := U.calling g mk a) (Vm.Alike.refl U.vm) qK, qD, tqN_same (u := U) (U := U.calling g mk a) rfl qN⟩, va_recv hK hP (ci := 3) rfl (q0 := 0) rfl, fun U hU hW => ⟨rfl, by rw [hU], by rw [hU]; exact hPc, va_K.moved hW.alike hKc, hDc.weaken (fun _ _ _ _ => trivial), tqN_warm hW hN⟩⟩ rfl rfl hl.1 rfl (lv_room (Nat.le_of_ble_eq_true rfl)) dM_draw_2 ⟨Nat.zero_le _, Nat.zero_le _⟩) hS (fun q _ h => hFc q h) hFc (fun u0 t H1 locs ht hvm hpost hB hz1 hk1 hS => ?_)
  obtain ⟨hP1, hK1, hD1⟩ := hB
  rw [ht] at hP1
  obtain ⟨hP, hD⟩ := va_join (wr := [(sa, .inl (cI, 64, .inl sf))]) (w1 := [(mo, .inr (3, [.int nz, .ref la, .int sq, .ref sa])), (la, .inl (cI, 200, .inl lf1))]) hP hD [0, 1] [2] rfl rfl (by decide) (by decide) hk1 hFc hP1 hD1
  generalize H1 = H at hP hS ⊢
  have hP := hP.sub (ws' := [(mo, .inr (3, [.int nz, .ref la, .int sq, .ref sa])), (la, .inl (cI, 200, .inl lf1)), (sa, .inl (cI, 64, .inl sf))]) [1, 2, 0] rfl
  have hD := hD.sub (ws' := [(mo, .inr (3, [.int nz, .ref la, .int sq, .ref sa])), (la, .inl (cI, 200, .inl lf1)), (sa, .inl (cI, 64, .inl sf))]) [1, 2, 0] (by decide) rfl
  refine lv_iconst (v := 0) hx hb dM_draw_5 (by decide) ?_
  refine lv_istore_n (lv' := [(3, .int (0 : Int32)), (0, .ref mo), (1, .int q), (2, .int rg)]) hx hb dM_draw_6 rfl hl (by decide) rfl (fun ls hl => ?_)
  exact B7 41 ls _ _ (0 : Int32) lf1 hf (lv_sub hl [1, 2, 3, 0] rfl) hP hD hS
