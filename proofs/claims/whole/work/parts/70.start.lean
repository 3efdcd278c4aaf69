def R_law : String := "TaperedQuireLaw"
def lw_P (b : Addr) (xs : List Int32) (args : Array Value) (s : State) : Prop := args = #[.ref b] ∧ s.IntsAt b xs ∧ xs.length ≤ 2561 ∧ (Jvm.Cond.and given_1 narrow_1).before args s = true
def lw_Q (_ : Array Value) (s : State) (o : Outcome) (t : State) : Prop := o = .returned (some (.int 1)) ∧ Framed s o t [] 600000 7302250
def lw_Z (below : List Frame) (a : Array Value) (s : State) : State → Prop := fun t => ∃ o, t.status = .running ∧ Ended t below o ∧ lw_Q a s o t
/-- the law's own end, with 1 on the stack, nothing written that was there before, its room as the claim has it -/
theorem lw_ret {p : Program} {l : Launch} {e : Env} {s : State} {m : MethodId} {below : List Frame} {meth : Method} {c : Code} {b : Nat} (hx : p.tables.exec = Jvm.exec) (hb : c.code = code) (hr : meth.sig.returnType = ret) (hlocks : meth.locks = false) {pc : Nat} {H : Heap} {ls : Array Slot} (hdg : decode code pc = .ok (.ireturn, 1)) : W p l e room_1 s m #[Value.ref b] below meth c H [] 600000 7302250 (lw_Z below #[Value.ref b] s) (F0 m pc ls [.int 1]) := by
  intro T hT X
  obtain ⟨fs, hret, hrun, hended, hW, hframe⟩ := X.leave (v := some (.int 1)) (hlocks := hlocks) (fun h => by rw [hr] at h; cases h)
  have hmeth' : T.vm.method? m = some meth := X.method'
  refine ⟨T.setFrames fs, ?_, .returned (some (.int 1)), hrun, hended, rfl, ⟨_, rfl⟩, hW, hframe⟩
  jvm_step X.here [X.here.top, hx, hb, hdg, hmeth', hr, ret, narrow_b1]
  (try refine ⟨rfl, ?_⟩); (try refine ⟨rfl, ?_⟩)
  first | (intro acts; rw [hret _ acts rfl rfl rfl]) | rw [hret _ _ rfl rfl rfl]
  exact Steps.refl _
/-- what holds at the law's entry: the machine, the code, the tables' words (any of lw_tbl by 'hts w (by decide +kernel)'), the script of L ints xs at the cell b, what the Statement gives of the start (any of its parts by flat_of_before) -/
def lw_At (p : Program) (s : State) (m : MethodId) (meth : Method) (c : Code) (b L : Nat) (xs : Nat → Int32) : Prop :=
  p.tables.exec = Jvm.exec ∧ c.code = code ∧ meth.sig.returnType = ret ∧ c.maxLocals = 4 ∧ s.vm.findClass R_law = some m.cls ∧ (∀ w ∈ lw_tbl, w.before #[Value.ref b] s = true) ∧ va_X b L xs s s.heap ∧ b < s.heap.size ∧ meth.locks = false ∧ (Jvm.Cond.and given_1 narrow_1).before #[Value.ref b] s = true
-- ===== YOUR PART BEGINS =====
theorem tq_sizes (wd : Int32) : ∃ (nz : Int32) (n N : Nat), f_sizeOfWidth wd = nz ∧ tq_Sz nz n ∧ 4 * N = n ∧ (16 : Int32) * nz / 64 = nI N ∧ (8 * nz - 16 : Int32).toInt = 8 * n - 16 := by
  have h : f_sizeOfWidth wd = 8 ∨ f_sizeOfWidth wd = 16 ∨ f_sizeOfWidth wd = 32 := by
    unfold f_sizeOfWidth; (repeat' split) <;> simp
  rcases h with h | h | h
  · exact ⟨8, 8, 2, h, ⟨rfl, .inl rfl⟩, rfl, by decide, by decide⟩
  · exact ⟨16, 16, 4, h, ⟨rfl, .inr (.inl rfl)⟩, rfl, by decide, by decide⟩
  · exact ⟨32, 32, 8, h, ⟨rfl, .inr (.inr rfl)⟩, rfl, by decide, by decide⟩
theorem tq_WLz {k : Nat} : tq_WL k (fun _ => 0) := fun _ _ => (show (0 : Int) ≤ (0 : Int32).toInt ∧ (0 : Int32).toInt < 65536 by decide)
theorem tq_sv0 {k : Nat} : tq_sv (fun _ => 0) k = 0 := tq_sv_zero (fun _ _ => rfl)
theorem tq_rv0 {b k : Nat} : tq_rv (fun _ => 0) b k = 0 := tq_rv_zero (fun _ _ => rfl)
set_option maxHeartbeats 4000000 in
set_option maxRecDepth 100000 in
theorem whole_start {p : Program} {e : Env} {s : State} {m : MethodId} {below : List Frame} {meth : Method} {c : Code} (l : Launch) {b L : Nat} {xs : Nat → Int32} (hL : L ≤ 2561) (C0 : lw_At p s m meth c b L xs) : W p l e room_1 s m #[Value.ref b] below meth c s.heap [] 0 0 (lw_Z below #[Value.ref b] s) (entryFrame m ([Value.ref b] : List Value).toArray 4) := by
  obtain ⟨hx, hb, hr, hml, hown, hts, hX, hbl, hlocks, hgv⟩ := C0
  have hb : c.code = cL_law := hb
  have hown : s.vm.findClass RL = some m.cls := hown
  have hww : ∀ w ∈ tqW, w.before #[Value.ref b] s = true := fun w h => hts w (tq_up h)
  have hN : tqN s := ⟨va_Nw.of rfl (hts (Cond.methodLinkNest RX2 35 yX0_init RX2) (List.mem_of_getElem? (i := 69) (by decide +kernel))), va_Nw.of rfl (hts (Cond.methodLinkNest RX0 7 yX2_patternOf RX2) (List.mem_of_getElem? (i := 137) (by decide +kernel))), va_Nw.of rfl (hts (Cond.methodLinkNest RX0 13 yX2_notOf RX2) (List.mem_of_getElem? (i := 140) (by decide +kernel)))⟩
  have hO : va_AO RX1 s := va_AO.of (hts (Cond.arrayOver (.object RX1)) (List.mem_of_getElem? (i := 51) (by decide +kernel)))
  obtain ⟨k0, i0, K0⟩ := u_known hww tqinX0 (hww _ tqt_68)
  obtain ⟨k1, i1, K1⟩ := u_known hww tqinX1 (hww _ tqt_52)
  obtain ⟨k2, i2, K2⟩ := u_known hww tqinX2 (hww _ tqt_40)
  obtain ⟨k3, i3, K3⟩ := u_known hww tqinM (hww _ tqt_322)
  obtain ⟨dC, hdC⟩ : ∃ f : Nat → ClassId, f = fun k => match k with | 0 => k0 | 1 => k1 | 2 => k2 | _ => k3 := ⟨_, rfl⟩
  obtain ⟨dI, hdI⟩ : ∃ f : Nat → Nat → Nat, f = fun k => match k with | 0 => i0 | 1 => i1 | 2 => i2 | _ => i3 := ⟨_, rfl⟩
  have hK : va_K (dC, dI) tqCl [] s := by
    subst hdC hdI
    refine ⟨fun c q hc => ?_, fun k q h => by simp at h⟩
    match c, hc with
    | 0, hc => have e := Option.some.inj hc; subst e; exact K0
    | 1, hc => have e := Option.some.inj hc; subst e; exact K1
    | 2, hc => have e := Option.some.inj hc; subst e; exact K2
    | 3, hc => have e := Option.some.inj hc; subst e; exact K3
    | c + 4, hc => simp at hc
  clear hdC hdI K0 K1 K2 K3
  obtain ⟨A, hAe⟩ : ∃ A : Nat → Prop, A = fun q => s.heap.size ≤ q := ⟨_, rfl⟩
  have hA : ∀ q : Nat, s.heap.size ≤ q → A q := fun q h => by rw [hAe]; exact h
  have hbA : ¬ A b := by rw [hAe]; exact Nat.not_le.2 hbl
  have hP : va_P (dC, dI) tqCl [] s.heap := fun k q h => by simp at h
  have hD : va_D A [] := ⟨fun i j p q h => by simp at h, fun k q h => by simp at h⟩
  have hS : va_S A s.heap s.heap [] := va_S.rf
  have hl := lv_entry ([.ref b]) (n := 4) (Nat.le_of_ble_eq_true rfl)
  rw [lg_entry_eq]
  generalize (lg_sl ([.ref b]) ++ List.replicate (4 - (lg_sl ([.ref b])).length) Slot.unset).toArray = ls at hl ⊢
  have hl : lv_has ls 4 [(0, .ref b)] := hl
  obtain ⟨wd, hwd⟩ : ∃ w : Int32, w = if 0 < L then xs 0 else 0 := ⟨_, rfl⟩
  obtain ⟨nz, n, N, hnz, h, h4, hd, hp⟩ := tq_sizes wd
  refine va_new (ci := 2) (fs := [.int 0, .null, .null, .null, .null, .null]) (C := RX2) (T := TX2) (N := 6) hx hb hww tqinX2 tyX2 tyX2_ok hown (hww _ tqt_39) (hww _ tqt_40) (hww _ tqt_32) hK hP hD hS hA rfl (fun j hj => by rcases (show j = 0 ∨ j = 1 ∨ j = 2 ∨ j = 3 ∨ j = 4 ∨ j = 5 by omega) with rfl | rfl | rfl | rfl | rfl | rfl <;> rfl) (Nat.le_of_ble_eq_true rfl) (Nat.le_of_ble_eq_true rfl) dL_law_0 (fun th H hP hD hS => ?_)
  have hP : va_P (dC, dI) tqCl [(th, .inr (2, [.int 0, .null, .null, .null, .null, .null]))] H := hP
  have hD : va_D A [(th, .inr (2, [.int 0, .null, .null, .null, .null, .null]))] := hD
  refine lv_dup hx hb dL_law_3 rfl ?_
  refine lv_aload_n hx hb dL_law_4 rfl (lv_at hl 0 rfl) ?_
  refine lv_iconst (v := 0) hx hb dL_law_5 (by decide) ?_
  have hFc := va_free (wc := []) hD hS hA [] rfl
  refine va_calli (va_runS (As := [.ref b, .int 0]) (rest := [.ref th, .ref th]) ⟨hx, hb, hml, hown, hww⟩ (c_l_cell l b L H.size xs (by omega)) (va_cwS 2 hww (tq_gS tqt_318 tqt_319 tqt_31 tqt_320) rfl rfl rfl (by decide +kernel) ⟨Nat.le_of_ble_eq_true rfl, Nat.le_of_ble_eq_true rfl⟩) ⟨fun a U g mk q => by obtain ⟨q0, q1, qX, qb⟩ := q; exact ⟨q0, q1, va_X.moved (u := U) (U := U.calling g mk a) (Vm.Alike.refl U.vm) qX, qb⟩, fun U hU hW => ⟨rfl, by rw [hU], by rw [hU]; exact va_X.moved hW.alike (hX.kept (hS.2.1 b hbl hbA)), by rw [hU]; exact Nat.lt_of_lt_of_le hbl hS.1⟩⟩ rfl rfl hl.1 rfl (lv_room (Nat.le_of_ble_eq_true rfl)) dL_law_6 ⟨Nat.le_of_ble_eq_true rfl, Nat.le_of_ble_eq_true rfl⟩) hS (fun q _ h => hFc q h) hFc (fun ra u0 t H1 locs ht hvm hpost hB hz1 hk1 hS => ?_)
  have hpost : wd = ra := hwd.trans (show ra = _ from hpost).symm
  subst hpost
  obtain ⟨hP, hD⟩ := va_join (wr := [(th, .inr (2, [.int 0, .null, .null, .null, .null, .null]))]) (w1 := []) hP hD [] [0] rfl rfl (by decide) (by decide) hk1 hFc (fun k q h => by simp at h) ⟨fun i j p q h => by simp at h, fun k q h => by simp at h⟩
  generalize H1 = H at hP hS ⊢
  have hP := hP.sub (ws' := [(th, .inr (2, [.int 0, .null, .null, .null, .null, .null]))]) [0] rfl
  have hD := hD.sub (ws' := [(th, .inr (2, [.int 0, .null, .null, .null, .null, .null]))]) [0] (by decide) rfl
  have hPc := hP.sub (ws' := [(th, .inr (2, [.int 0, .null, .null, .null, .null, .null]))]) [0] rfl
  have hDc := hD.sub (ws' := [(th, .inr (2, [.int 0, .null, .null, .null, .null, .null]))]) [0] (by decide) rfl
  have hKc := hK.sub (tys' := []) [] rfl
  have hFc := va_free (wc := [(th, .inr (2, [.int 0, .null, .null, .null, .null, .null]))]) hD hS hA [0] rfl
  refine va_callv (va_runI (As := [.int wd]) (rest := [.ref th]) ⟨hx, hb, hml, hown, hww⟩ (c_i_C l dC dI th H.size 0 wd nz hnz N hd (by have := h.2; omega)) (cwI 1 hww (tq_gG tqt_43) rfl rfl rfl (hww _ tqt_32) (hww _ tqt_41) (hww _ tqt_42) rfl (by decide +kernel) ⟨Nat.le_of_ble_eq_true rfl, Nat.le_of_ble_eq_true rfl⟩) ⟨fun a U g mk q => by obtain ⟨q0, q1, qP, qK, qD, qN, qO⟩ := q; exact ⟨q0, q1, qP, va_K.moved (u := U) (U := U.calling g mk a) (Vm.Alike.refl U.vm) qK, qD, tqN_same (u := U) (U := U.calling g mk a) rfl qN, va_AO.moved (u := U) (U := U.calling g mk a) (Vm.Alike.refl U.vm) qO⟩, fun U hU hW => ⟨rfl, by rw [hU], by rw [hU]; exact hPc, va_K.moved hW.alike hKc, hDc.weaken (fun _ _ _ _ => trivial), tqN_warm hW hN, va_AO.moved hW.alike hO⟩⟩ rfl rfl hl.1 rfl (lv_room (Nat.le_of_ble_eq_true rfl)) dL_law_9 ⟨Nat.le_of_ble_eq_true rfl, Nat.le_of_ble_eq_true rfl⟩) hS (fun q _ h => hFc q h) hFc (fun u t H1 locs ht hvm h5 hB hz1 hk1 hS => ?_)
  obtain ⟨sa, s0, w0, s1, w1, s2, w2, s3, w3, o0, o1, cL, cA⟩ := u
  obtain ⟨hP1, hK1, hD1⟩ := hB
  rw [ht] at hP1
  have hK1 := va_K.moved hvm.symm hK1
  obtain ⟨hP, hD⟩ := va_join (wr := []) (w1 := [(th, .inr (2, [.int nz, .ref sa, .ref s2, .ref s3, .ref o0, .ref o1])), (sa, .inl (cA, 2, .inr (.inr (.inr (.inr (sref s0 s1)))))), (s0, .inr (1, [.int (8 * nz - 16), .ref w0])), (w0, .inl (cL, N, .inr (.inl (fun _ => 0)))), (s1, .inr (1, [.int (8 * nz - 16), .ref w1])), (w1, .inl (cL, N, .inr (.inl (fun _ => 0)))), (s2, .inr (1, [.int (8 * nz - 16), .ref w2])), (w2, .inl (cL, N, .inr (.inl (fun _ => 0)))), (s3, .inr (1, [.int (8 * nz - 16), .ref w3])), (w3, .inl (cL, N, .inr (.inl (fun _ => 0)))), (o0, .inr (0, [.int 0, .int 0, .long 0, .int 0])), (o1, .inr (0, [.int 0, .int 0, .long 0, .int 0]))]) hP hD [0] [] rfl rfl (by decide) (by decide) hk1 hFc hP1 hD1
  generalize H1 = H at hP hS ⊢
  have hP : va_P (dC, dI) tqCl [(th, .inr (2, [.int nz, .ref sa, .ref s2, .ref s3, .ref o0, .ref o1])), (sa, .inl (cA, 2, .inr (.inr (.inr (.inr (sref s0 s1)))))), (s0, .inr (1, [.int (8 * nz - 16), .ref w0])), (w0, .inl (cL, N, .inr (.inl (fun _ => 0)))), (s1, .inr (1, [.int (8 * nz - 16), .ref w1])), (w1, .inl (cL, N, .inr (.inl (fun _ => 0)))), (s2, .inr (1, [.int (8 * nz - 16), .ref w2])), (w2, .inl (cL, N, .inr (.inl (fun _ => 0)))), (s3, .inr (1, [.int (8 * nz - 16), .ref w3])), (w3, .inl (cL, N, .inr (.inl (fun _ => 0)))), (o0, .inr (0, [.int 0, .int 0, .long 0, .int 0])), (o1, .inr (0, [.int 0, .int 0, .long 0, .int 0]))] H := hP
  have hD : va_D A [(th, .inr (2, [.int nz, .ref sa, .ref s2, .ref s3, .ref o0, .ref o1])), (sa, .inl (cA, 2, .inr (.inr (.inr (.inr (sref s0 s1)))))), (s0, .inr (1, [.int (8 * nz - 16), .ref w0])), (w0, .inl (cL, N, .inr (.inl (fun _ => 0)))), (s1, .inr (1, [.int (8 * nz - 16), .ref w1])), (w1, .inl (cL, N, .inr (.inl (fun _ => 0)))), (s2, .inr (1, [.int (8 * nz - 16), .ref w2])), (w2, .inl (cL, N, .inr (.inl (fun _ => 0)))), (s3, .inr (1, [.int (8 * nz - 16), .ref w3])), (w3, .inl (cL, N, .inr (.inl (fun _ => 0)))), (o0, .inr (0, [.int 0, .int 0, .long 0, .int 0])), (o1, .inr (0, [.int 0, .int 0, .long 0, .int 0]))] := hD
  have hK : va_K (dC, dI) tqCl [(cL, .long), (cA, .object RX1)] s := hK1
  refine lv_astore_n (lv' := [(1, .ref th), (0, .ref b)]) hx hb dL_law_12 rfl hl (by decide) rfl (fun ls hl => ?_)
  refine va_new (ci := 3) (fs := [.int 0, .null, .int 0, .null]) (C := RM) (T := TM) (N := 4) hx hb hww tqinM tyM tyM_ok hown (hww _ tqt_321) (hww _ tqt_322) (hww _ tqt_35) hK hP hD hS hA rfl (fun j hj => by rcases (show j = 0 ∨ j = 1 ∨ j = 2 ∨ j = 3 by omega) with rfl | rfl | rfl | rfl <;> rfl) (Nat.le_of_ble_eq_true rfl) (Nat.le_of_ble_eq_true rfl) dL_law_13 (fun mo H hP hD hS => ?_)
  have hP : va_P (dC, dI) tqCl [(th, .inr (2, [.int nz, .ref sa, .ref s2, .ref s3, .ref o0, .ref o1])), (sa, .inl (cA, 2, .inr (.inr (.inr (.inr (sref s0 s1)))))), (s0, .inr (1, [.int (8 * nz - 16), .ref w0])), (w0, .inl (cL, N, .inr (.inl (fun _ => 0)))), (s1, .inr (1, [.int (8 * nz - 16), .ref w1])), (w1, .inl (cL, N, .inr (.inl (fun _ => 0)))), (s2, .inr (1, [.int (8 * nz - 16), .ref w2])), (w2, .inl (cL, N, .inr (.inl (fun _ => 0)))), (s3, .inr (1, [.int (8 * nz - 16), .ref w3])), (w3, .inl (cL, N, .inr (.inl (fun _ => 0)))), (o0, .inr (0, [.int 0, .int 0, .long 0, .int 0])), (o1, .inr (0, [.int 0, .int 0, .long 0, .int 0])), (mo, .inr (3, [.int 0, .null, .int 0, .null]))] H := hP
  have hD : va_D A [(th, .inr (2, [.int nz, .ref sa, .ref s2, .ref s3, .ref o0, .ref o1])), (sa, .inl (cA, 2, .inr (.inr (.inr (.inr (sref s0 s1)))))), (s0, .inr (1, [.int (8 * nz - 16), .ref w0])), (w0, .inl (cL, N, .inr (.inl (fun _ => 0)))), (s1, .inr (1, [.int (8 * nz - 16), .ref w1])), (w1, .inl (cL, N, .inr (.inl (fun _ => 0)))), (s2, .inr (1, [.int (8 * nz - 16), .ref w2])), (w2, .inl (cL, N, .inr (.inl (fun _ => 0)))), (s3, .inr (1, [.int (8 * nz - 16), .ref w3])), (w3, .inl (cL, N, .inr (.inl (fun _ => 0)))), (o0, .inr (0, [.int 0, .int 0, .long 0, .int 0])), (o1, .inr (0, [.int 0, .int 0, .long 0, .int 0])), (mo, .inr (3, [.int 0, .null, .int 0, .null]))] := hD
  refine lv_dup hx hb dL_law_16 rfl ?_
  refine lv_aload_n hx hb dL_law_17 rfl (lv_at hl 1 rfl) ?_
  refine lv_iconst (v := 0) hx hb dL_law_18 (by decide) ?_
  have hFc := va_free (wc := []) hD hS hA [] rfl
  refine va_calli (va_runS (As := [.ref b, .int 0]) (rest := [.ref mo, .ref mo]) ⟨hx, hb, hml, hown, hww⟩ (c_l_cell l b L H.size xs (by omega)) (va_cwS 2 hww (tq_gS tqt_318 tqt_319 tqt_31 tqt_320) rfl rfl rfl (by decide +kernel) ⟨Nat.le_of_ble_eq_true rfl, Nat.le_of_ble_eq_true rfl⟩) ⟨fun a U g mk q => by obtain ⟨q0, q1, qX, qb⟩ := q; exact ⟨q0, q1, va_X.moved (u := U) (U := U.calling g mk a) (Vm.Alike.refl U.vm) qX, qb⟩, fun U hU hW => ⟨rfl, by rw [hU], by rw [hU]; exact va_X.moved hW.alike (hX.kept (hS.2.1 b hbl hbA)), by rw [hU]; exact Nat.lt_of_lt_of_le hbl hS.1⟩⟩ rfl rfl hl.1 rfl (lv_room (Nat.le_of_ble_eq_true rfl)) dL_law_19 ⟨Nat.le_of_ble_eq_true rfl, Nat.le_of_ble_eq_true rfl⟩) hS (fun q _ h => hFc q h) hFc (fun ra u0 t H1 locs ht hvm hpost hB hz1 hk1 hS => ?_)
  have hpost : wd = ra := hwd.trans (show ra = _ from hpost).symm
  subst hpost
  obtain ⟨hP, hD⟩ := va_join (wr := [(th, .inr (2, [.int nz, .ref sa, .ref s2, .ref s3, .ref o0, .ref o1])), (sa, .inl (cA, 2, .inr (.inr (.inr (.inr (sref s0 s1)))))), (s0, .inr (1, [.int (8 * nz - 16), .ref w0])), (w0, .inl (cL, N, .inr (.inl (fun _ => 0)))), (s1, .inr (1, [.int (8 * nz - 16), .ref w1])), (w1, .inl (cL, N, .inr (.inl (fun _ => 0)))), (s2, .inr (1, [.int (8 * nz - 16), .ref w2])), (w2, .inl (cL, N, .inr (.inl (fun _ => 0)))), (s3, .inr (1, [.int (8 * nz - 16), .ref w3])), (w3, .inl (cL, N, .inr (.inl (fun _ => 0)))), (o0, .inr (0, [.int 0, .int 0, .long 0, .int 0])), (o1, .inr (0, [.int 0, .int 0, .long 0, .int 0])), (mo, .inr (3, [.int 0, .null, .int 0, .null]))]) (w1 := []) hP hD [] [0, 1, 2, 3, 4, 5, 6, 7, 8, 9, 10, 11, 12] rfl rfl (by decide) (by decide) hk1 hFc (fun k q h => by simp at h) ⟨fun i j p q h => by simp at h, fun k q h => by simp at h⟩
  generalize H1 = H at hP hS ⊢
  have hP := hP.sub (ws' := [(th, .inr (2, [.int nz, .ref sa, .ref s2, .ref s3, .ref o0, .ref o1])), (sa, .inl (cA, 2, .inr (.inr (.inr (.inr (sref s0 s1)))))), (s0, .inr (1, [.int (8 * nz - 16), .ref w0])), (w0, .inl (cL, N, .inr (.inl (fun _ => 0)))), (s1, .inr (1, [.int (8 * nz - 16), .ref w1])), (w1, .inl (cL, N, .inr (.inl (fun _ => 0)))), (s2, .inr (1, [.int (8 * nz - 16), .ref w2])), (w2, .inl (cL, N, .inr (.inl (fun _ => 0)))), (s3, .inr (1, [.int (8 * nz - 16), .ref w3])), (w3, .inl (cL, N, .inr (.inl (fun _ => 0)))), (o0, .inr (0, [.int 0, .int 0, .long 0, .int 0])), (o1, .inr (0, [.int 0, .int 0, .long 0, .int 0])), (mo, .inr (3, [.int 0, .null, .int 0, .null]))]) [0, 1, 2, 3, 4, 5, 6, 7, 8, 9, 10, 11, 12] rfl
  have hD := hD.sub (ws' := [(th, .inr (2, [.int nz, .ref sa, .ref s2, .ref s3, .ref o0, .ref o1])), (sa, .inl (cA, 2, .inr (.inr (.inr (.inr (sref s0 s1)))))), (s0, .inr (1, [.int (8 * nz - 16), .ref w0])), (w0, .inl (cL, N, .inr (.inl (fun _ => 0)))), (s1, .inr (1, [.int (8 * nz - 16), .ref w1])), (w1, .inl (cL, N, .inr (.inl (fun _ => 0)))), (s2, .inr (1, [.int (8 * nz - 16), .ref w2])), (w2, .inl (cL, N, .inr (.inl (fun _ => 0)))), (s3, .inr (1, [.int (8 * nz - 16), .ref w3])), (w3, .inl (cL, N, .inr (.inl (fun _ => 0)))), (o0, .inr (0, [.int 0, .int 0, .long 0, .int 0])), (o1, .inr (0, [.int 0, .int 0, .long 0, .int 0])), (mo, .inr (3, [.int 0, .null, .int 0, .null]))]) [0, 1, 2, 3, 4, 5, 6, 7, 8, 9, 10, 11, 12] (by decide) rfl
  have hPc := hP.sub (ws' := [(mo, .inr (3, [.int 0, .null, .int 0, .null]))]) [12] rfl
  have hDc := hD.sub (ws' := [(mo, .inr (3, [.int 0, .null, .int 0, .null]))]) [12] (by decide) rfl
  have hKc := hK.sub (tys' := []) [] rfl
  have hFc := va_free (wc := [(mo, .inr (3, [.int 0, .null, .int 0, .null]))]) hD hS hA [12] rfl
  refine va_callv (va_runI (As := [.int wd]) (rest := [.ref mo]) ⟨hx, hb, hml, hown, hww⟩ (c_i_M l dC dI mo H.size 0 0 wd) (cwI 1 hww (tq_gG tqt_325) rfl rfl rfl (hww _ tqt_35) (hww _ tqt_323) (hww _ tqt_324) rfl (by decide +kernel) ⟨Nat.le_of_ble_eq_true rfl, Nat.le_of_ble_eq_true rfl⟩) ⟨fun a U g mk q => by obtain ⟨q0, q1, qP, qK, qD, qN⟩ := q; exact ⟨q0, q1, qP, va_K.moved (u := U) (U := U.calling g mk a) (Vm.Alike.refl U.vm) qK, qD, tqN_same (u := U) (U := U.calling g mk a) rfl qN⟩, fun U hU hW => ⟨rfl, by rw [hU], by rw [hU]; exact hPc, va_K.moved hW.alike hKc, hDc.weaken (fun _ _ _ _ => trivial), tqN_warm hW hN⟩⟩ rfl rfl hl.1 rfl (lv_room (Nat.le_of_ble_eq_true rfl)) dL_law_22 ⟨Nat.le_of_ble_eq_true rfl, Nat.le_of_ble_eq_true rfl⟩) hS (fun q _ h => hFc q h) hFc (fun u t H1 locs ht hvm h5 hB hz1 hk1 hS => ?_)
  obtain ⟨la, ma, cI⟩ := u
  obtain ⟨hP1, hK1, hD1⟩ := hB
  rw [ht] at hP1
  have hK1 := va_K.moved hvm.symm hK1
  have hnz2 : m_sizeOf wd = nz := hnz
  dsimp only at hP1 hD1 hK1
  rw [hnz2] at hP1 hD1
  obtain ⟨hP, hD⟩ := va_join (wr := [(th, .inr (2, [.int nz, .ref sa, .ref s2, .ref s3, .ref o0, .ref o1])), (sa, .inl (cA, 2, .inr (.inr (.inr (.inr (sref s0 s1)))))), (s0, .inr (1, [.int (8 * nz - 16), .ref w0])), (w0, .inl (cL, N, .inr (.inl (fun _ => 0)))), (s1, .inr (1, [.int (8 * nz - 16), .ref w1])), (w1, .inl (cL, N, .inr (.inl (fun _ => 0)))), (s2, .inr (1, [.int (8 * nz - 16), .ref w2])), (w2, .inl (cL, N, .inr (.inl (fun _ => 0)))), (s3, .inr (1, [.int (8 * nz - 16), .ref w3])), (w3, .inl (cL, N, .inr (.inl (fun _ => 0)))), (o0, .inr (0, [.int 0, .int 0, .long 0, .int 0])), (o1, .inr (0, [.int 0, .int 0, .long 0, .int 0]))]) (w1 := [(mo, .inr (3, [.int nz, .ref la, .int 0, .ref ma])), (la, .inl (cI, 200, .inl (fun _ => 0))), (ma, .inl (cI, 64, .inl (fun _ => 0)))]) hP hD [12] [0, 1, 2, 3, 4, 5, 6, 7, 8, 9, 10, 11] rfl rfl (by decide) (by decide) hk1 hFc hP1 hD1
  generalize H1 = H at hP hS ⊢
  have hP : va_P (dC, dI) tqCl [(th, .inr (2, [.int nz, .ref sa, .ref s2, .ref s3, .ref o0, .ref o1])), (sa, .inl (cA, 2, .inr (.inr (.inr (.inr (sref s0 s1)))))), (s0, .inr (1, [.int (8 * nz - 16), .ref w0])), (w0, .inl (cL, N, .inr (.inl (fun _ => 0)))), (s1, .inr (1, [.int (8 * nz - 16), .ref w1])), (w1, .inl (cL, N, .inr (.inl (fun _ => 0)))), (s2, .inr (1, [.int (8 * nz - 16), .ref w2])), (w2, .inl (cL, N, .inr (.inl (fun _ => 0)))), (s3, .inr (1, [.int (8 * nz - 16), .ref w3])), (w3, .inl (cL, N, .inr (.inl (fun _ => 0)))), (o0, .inr (0, [.int 0, .int 0, .long 0, .int 0])), (o1, .inr (0, [.int 0, .int 0, .long 0, .int 0])), (mo, .inr (3, [.int nz, .ref la, .int 0, .ref ma])), (la, .inl (cI, 200, .inl (fun _ => 0))), (ma, .inl (cI, 64, .inl (fun _ => 0)))] H := hP
  have hD : va_D A [(th, .inr (2, [.int nz, .ref sa, .ref s2, .ref s3, .ref o0, .ref o1])), (sa, .inl (cA, 2, .inr (.inr (.inr (.inr (sref s0 s1)))))), (s0, .inr (1, [.int (8 * nz - 16), .ref w0])), (w0, .inl (cL, N, .inr (.inl (fun _ => 0)))), (s1, .inr (1, [.int (8 * nz - 16), .ref w1])), (w1, .inl (cL, N, .inr (.inl (fun _ => 0)))), (s2, .inr (1, [.int (8 * nz - 16), .ref w2])), (w2, .inl (cL, N, .inr (.inl (fun _ => 0)))), (s3, .inr (1, [.int (8 * nz - 16), .ref w3])), (w3, .inl (cL, N, .inr (.inl (fun _ => 0)))), (o0, .inr (0, [.int 0, .int 0, .long 0, .int 0])), (o1, .inr (0, [.int 0, .int 0, .long 0, .int 0])), (mo, .inr (3, [.int nz, .ref la, .int 0, .ref ma])), (la, .inl (cI, 200, .inl (fun _ => 0))), (ma, .inl (cI, 64, .inl (fun _ => 0)))] := hD
  have hK : va_K (dC, dI) tqCl [(cL, .long), (cA, .object RX1), (cI, .int)] s := hK.app hK1
  refine lv_astore_n (lv' := [(2, .ref mo), (1, .ref th), (0, .ref b)]) hx hb dL_law_25 rfl hl (by decide) rfl (fun ls hl => ?_)
  refine lv_iconst (v := 1) hx hb dL_law_26 (by decide) ?_
  refine lv_istore_n (lv' := [(3, .int 1), (2, .ref mo), (1, .ref th), (0, .ref b)]) hx hb dL_law_27 rfl hl (by decide) rfl (fun ls hl => ?_)
  refine tq_loop hx hb hml hown hww hX hbl hbA hA hK hN hL h h4 hp (Nat.le_of_ble_eq_true rfl) (Nat.le_of_ble_eq_true rfl) (fun ls H locs hS => ?_) (L + 6) 1 ls (by omega) (by omega) (lv_sub hl [3, 2, 1, 0] rfl) H _ (fun _ => 0) (fun _ => 0) (fun _ => 0) (fun _ => 0) 0 0 0 0 0 0 0 0 0 (fun _ => 0) (fun _ => 0) hP hD hS tq_WLz tq_WLz (tq_sv0.trans tq_rv0.symm) (tq_sv0.trans tq_rv0.symm)
  refine lv_iconst (v := 1) hx hb dL_law_733 (by decide) ?_
  refine va_forget (fun q hq => by have z := hS.2.2 q hq; rw [hAe] at z; exact z) ?_
  refine W.widen (k := 600000) (n := 7302250) (Nat.le_of_ble_eq_true rfl) (Nat.le_of_ble_eq_true rfl) ?_
  exact lw_ret hx hb hr hlocks dL_law_734
-- ===== YOUR PART ENDS =====
set_option maxHeartbeats 4000000 in
theorem lw_walk (l : Launch) (b : Addr) (xs : List Int32) : MetFree l x (headSpec (Jvm.Cond.code x code maxLocals ret :: tables_1) room_1) (lw_P b xs) (fun _ _ _ _ _ => True) lw_Q := by
  refine MetFree.of_bodyS (code := code) (maxLocals := maxLocals) (ret := ret) (by decide) ?_ ?_
  · intro args s m h hn
    obtain ⟨meth, c, h1, h2, h3, h4, h5, h6, -, -⟩ := Cond.code_spec hn (atoms_spec (ws := Jvm.Cond.code x code maxLocals ret :: tables_1) h _ List.mem_cons_self)
    exact ⟨meth, c, h1, h2, h3, h4, h5, h6⟩
  · intro p e s m args below meth c s₁ B hml0 hP _
    obtain ⟨rfl, hx, hbd, hgv⟩ := hP
    obtain ⟨scr, harrAt, hlist, hof, hsmall⟩ := hx
    obtain ⟨hcb, hkn, -, -⟩ := State.arrayAt?_spec harrAt
    have hown : s.vm.findClass R_law = some m.cls := findClass_of_methodNamed B.named
    have hts0 : ∀ c ∈ (Jvm.Cond.code x code maxLocals ret :: tables_1), c.before #[Value.ref b] s = true := atoms_spec (ws := Jvm.Cond.code x code maxLocals ret :: tables_1) B.pre
    have hts : ∀ w ∈ lw_tbl, w.before #[Value.ref b] s = true := k2_hts_sels lw_privs (fun w hw => hts0 w (List.mem_cons_of_mem _ hw)) lw_privs_ok
    have hml : c.maxLocals = 4 := B.maxLocals_eq (hts0 _ List.mem_cons_self)
    have X₀ : Stand p l e room_1 s m #[Value.ref b] below meth c s₁ [] 0 0 := Stand.of_body B
    have hh0 : s₁.heap = s.heap := by rw [B.state]; rfl
    have hsz : scr.slots.size = xs.length := by rw [← Array.length_toList, hlist, List.length_map]
    have hval : ∀ j : Nat, j < xs.length → scr.slots[j]? = some (.int (xs.getD j 0)) := fun j hj => by
      rw [← Array.getElem?_toList, hlist]
      simp [hj]
    have hbl : b < s.heap.size := (Array.getElem?_eq_some_iff.mp hcb).1
    have hX : va_X b xs.length (fun j => xs.getD j 0) s s.heap := ⟨scr, hcb, hof, hkn, hsz, hval⟩
    have K : W p l e room_1 s m #[Value.ref b] below meth c s₁.heap [] 0 0 (lw_Z below #[Value.ref b] s) (entryFrame m ([Value.ref b] : List Value).toArray 4) := by
      rw [hh0]
      exact whole_start l hbd ⟨B.exec, B.bytes, B.returns, hml, hown, hts, hX, hbl, B.notSynchronized, hgv⟩
    obtain ⟨t, a1, o, b1, b2, b3⟩ := K s₁ rfl X₀
    exact ⟨t, o, a1, b1, b2, b3⟩
theorem lw_pre_spec {args : Array Value} {s : State} (h : (Jvm.Cond.and given_1 narrow_1).before args s = true) (hr : rest_1_c.before args s = true) : ∃ (b : Addr) (xs : List Int32), lw_P b xs args s := by
  have hs := flat_of_before _ h
  have hq := flat_of_before _ hr
  have hc : (Cond.count 1).before args s = true := hs _ (by decide +kernel)
  have harr : (Cond.arrayOf (.arg 0) .int).before args s = true := hs _ (by decide +kernel)
  have hle : (Cond.le (.length (.arg 0)) (.int 2561)).before args s = true := hs _ (by decide +kernel)
  have hlen : (Cond.isInt (.length (.arg 0))).before args s = true := hq _ (by decide +kernel)
  have hall : (Cond.all (.arg 0) (.isInt (.elem (.arg 0) (.index 0)))).before args s = true := hq _ (by decide +kernel)
  obtain ⟨b, xs, hb, hx⟩ := State.ints_of_pre rfl harr hlen hall
  have hsm : xs.length < 2 ^ 31 := hx.choose_spec.2.2.2
  have hev : (Term.length (.arg 0)).eval args s none [] s = some (.int xs.length.toInt32) := hx.length_eval hb
  have hv := Cond.le_ints hev (show (Term.int 2561).eval args s none [] s = some (.int 2561) from rfl)
  have hd : xs.length.toInt32 ≤ 2561 := by
    simpa [Cond.before, Cond.holds, hv] using hle
  have hN : xs.length ≤ 2561 := (Int32.ofNat_le_ofNat hsm (by decide)).mp (show Int32.ofNat xs.length ≤ Int32.ofNat 2561 from hd)
  exact ⟨b, xs, Cond.one_arg hc (show args[0]? = some (.ref b) from hb), hx, hN, h⟩
theorem lw_comes (l : Launch) : Comes l x (Jvm.Cond.code x code maxLocals ret :: tables_1) room_1 (fun tb e args s => Calls_1 tb e args s ∧ rest_1 tb e args s ∧ Pre_1 tb e args s)
    (fun _ _ args s o t => lw_Q args s o t) := by
  intro p e ha hc hk s m args below hf hfit hheap happ hpre
  obtain ⟨b, xs, hP⟩ := lw_pre_spec hpre.2.2 hpre.2.1
  obtain ⟨k, o, h1, h2, h3, hQ⟩ := lw_walk l b xs p e ha hc hk s m args below hf ((Spec.applies_iff_loose hf).mp happ).1 hP trivial
  exact ⟨k, o, h1, h2, h3, hQ⟩
theorem lw_frame {s t : State} {o : Outcome} {args : Array Value} (h : Framed s o t [] 600000 7302250) :
    Framed s o t (fieldLocs frame_1_writes args s ++ arrayLocs frame_1_arrays args s ++ staticLocs frame_1_statics s) 600000 7302250 := h
theorem lw_limb (L : Cond) (hL : ∀ (args : Array Value) (s t : State), L.after args s (.returned (some (.int 1))) t = true) :
    ArmFor flags0 classFile x code maxLocals ret World_1 tables_1 room_1 Calls_1 rest_1 Pre_1
      (fun tb e a s o t => postC L tb e a s o t ∧ Framed s o t (fieldLocs frame_1_writes a s ++ arrayLocs frame_1_arrays a s ++ staticLocs frame_1_statics s) 600000 7302250) := by
  intro l _ _ _ p e ha hc hk s m args below hf hfit hheap happ hpre
  obtain ⟨k, o, h1, h2, h3, rfl, hF⟩ := lw_comes l p e ha hc hk s m args below hf hfit hheap happ hpre
  exact ⟨k, _, h1, h2, h3, hL args s _, lw_frame hF⟩
theorem i_vc : Claimed_1_1 ∧ Claimed_1_2 := ⟨lw_limb limb_1_1 (fun args s t => by simp [limb_1_1, Cond.after, Cond.holds, Cond.value]), lw_limb limb_1_2 (fun args s t => Cond.after_iff.mpr (by
  first | (rw [show limb_1_2 = Cond.eq .result (.int 1) from rfl, Cond.eq_ints (x := 1) (y := 1) rfl rfl]; simp; done) | (simp [limb_1_2, Cond.value, Term.eval]; done)))⟩
