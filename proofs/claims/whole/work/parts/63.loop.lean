theorem tq_and31 (x : Int32) : 0 ≤ (x &&& 31).toInt ∧ (x &&& 31).toInt < 32 := by
  have e : tq_u32 (x &&& 31) = tq_u32 x % 2 ^ 5 := by
    rw [tq_u32_and]
    have : tq_u32 (31 : Int32) = 2 ^ 5 - 1 := rfl
    rw [this, Nat.and_two_pow_sub_one_eq_mod]
  have h := tq_i32_of_u e (by have := Nat.mod_lt (tq_u32 x) (show 0 < 2 ^ 5 by decide); omega)
  have := Nat.mod_lt (tq_u32 x) (show 0 < 2 ^ 5 by decide)
  omega
theorem tq_more {i L : Nat} (hL : L ≤ 2561) (hi : i ≤ 2600) (h : ¬ (nI L - 5 : Int32) < nI i) : i + 4 < L := by
  have c5 : ((5 : Int32)).toInt = 5 := rfl
  have a := tq_nI_i (n := L) (by omega)
  have b := tq_nI_i (n := i) (by omega)
  have e : (nI L - 5 : Int32).toInt = L - 5 := by rw [tq_i32_sub (by rw [a, c5]; omega), a, c5]
  rw [Int32.lt_iff_toInt_lt, e, b] at h
  omega
set_option maxHeartbeats 4000000 in
set_option maxRecDepth 100000 in
theorem tq_loop {p : Program} {l : Launch} {e : Env} {s : State} {m : MethodId} {b L : Nat} {xs : Nat → Int32} {below : List Frame} {meth : Method} {c : Code} {dC : Nat → ClassId} {dI : Nat → Nat → Nat} {A : Nat → Prop} {th sa s0 w0 s1 w1 s2 w2 s3 w3 o0 o1 mo la ma : Nat} {cL cA cI : ClassId} {nz : Int32} {n N : Nat} {cells slots : Nat} {Q : State → Prop}
    (hx : p.tables.exec = Jvm.exec) (hb : c.code = cL_law) (hml : c.maxLocals = 4) (hown : s.vm.findClass RL = some m.cls) (hww : ∀ w ∈ tqW, w.before #[Value.ref b] s = true) (hX : va_X b L xs s s.heap) (hbl : b < s.heap.size) (hbA : ¬ A b) (hA : ∀ q : Nat, s.heap.size ≤ q → A q) (hK : va_K (dC, dI) tqCl [(cL, .long), (cA, .object RX1), (cI, .int)] s) (hN : tqN s) (hL : L ≤ 2561)
    (h : tq_Sz nz n) (h4 : 4 * N = n) (hp : (8 * nz - 16).toInt = 8 * n - 16) (hcl : cells + 0 ≤ room_1.cells) (hsl : slots + 0 ≤ room_1.slots)
    (fin : ∀ (ls : Array Slot) (H : Heap) (locs : List Loc), va_S A s.heap H locs → W p l e room_1 s m #[Value.ref b] below meth c H locs cells slots Q (F0 m 733 ls [])) :
    ∀ (fu i : Nat) (ls : Array Slot), i ≤ L + 5 → L + 6 ≤ fu + i → lv_has ls 4 [(0, .ref b), (1, .ref th), (2, .ref mo), (3, .int (nI i))] → tqNext p l e s m b below meth c dC dI A th sa s0 w0 s1 w1 s2 w2 s3 w3 o0 o1 mo la ma cL cA cI nz n N ls cells slots 28 Q := by
  intro fu
  induction fu with
  | zero => intro i ls h1 h2; omega
  | succ fu ih =>
    intro i ls h1 h2 hl H locs f0 f1 f2 f3 nt0 ng0 mg0 ex0 nt1 ng1 mg1 ex1 sq lf sf hP hD hS hl0 hs0 hq0 hq1
    refine lv_iload_n hx hb dL_law_28 rfl (lv_at hl 3 rfl) ?_
    refine lv_aload_n hx hb dL_law_29 rfl (lv_at hl 0 rfl) ?_
    refine va_slen hx hb hX hbl hbA hS dL_law_30 ?_
    refine lv_iconst (v := 5) hx hb dL_law_31 (by decide) ?_
    refine lv_isub hx hb dL_law_32 ?_
    refine lv_icmp_gt hx hb dL_law_33 rfl (fun _ => fin ls H locs hS) (fun hgt => ?_)
    have hi : i + 4 < L := tq_more hL (by omega) hgt
    refine lv_aload_n hx hb dL_law_36 rfl (lv_at hl 0 rfl) ?_
    refine lv_iload_n hx hb dL_law_37 rfl (lv_at hl 3 rfl) ?_
    refine va_sld hx hb hX hbl hbA hS (tq_nI_ok (by omega) (by omega)) dL_law_38 ?_
    refine lv_bipush (v := 31) hx hb dL_law_39 (by decide) ?_
    refine lv_iand hx hb dL_law_41 ?_
    have next : tqNext p l e s m b below meth c dC dI A th sa s0 w0 s1 w1 s2 w2 s3 w3 o0 o1 mo la ma cL cA cI nz n N ls cells slots 727 Q := by
      intro H locs f0 f1 f2 f3 nt0 ng0 mg0 ex0 nt1 ng1 mg1 ex1 sq lf sf hP hD hS hl0 hs0 hq0 hq1
      refine lv_iinc (v := nI i + 5) (lv' := [(3, .int (nI i + 5)), (0, .ref b), (1, .ref th), (2, .ref mo)]) hx hb dL_law_727 hl (k := 3) rfl rfl (by decide) rfl (fun ls hl => ?_)
      refine lv_goto hx hb dL_law_730 rfl ?_
      have e5 : nI i + 5 = nI (i + 5) := by show nI i + nI 5 = _; unfold nI; rw [← Int32.ofNat_add]
      exact ih (i + 5) _ (by omega) (by omega) (by rw [← e5]; exact lv_sub hl [1, 2, 3, 0] rfl) H locs f0 f1 f2 f3 nt0 ng0 mg0 ex0 nt1 ng1 mg1 ex1 sq lf sf hP hD hS hl0 hs0 hq0 hq1
    have hv := tq_and31 (xs (nI i).toNatClampNeg)
    generalize xs (nI i).toNatClampNeg &&& 31 = v at hv ⊢
    rcases (show v.toInt = 0 ∨ v.toInt = 1 ∨ v.toInt = 2 ∨ v.toInt = 3 ∨ v.toInt = 4 ∨ v.toInt = 5 ∨ v.toInt = 6 ∨ v.toInt = 7 ∨ v.toInt = 8 ∨ v.toInt = 9 ∨ v.toInt = 10 ∨ v.toInt = 11 ∨ v.toInt = 12 ∨ v.toInt = 13 ∨ v.toInt = 14 ∨ v.toInt = 15 ∨ v.toInt = 16 ∨ v.toInt = 17 ∨ v.toInt = 18 ∨ 18 < v.toInt by omega) with hj | hj | hj | hj | hj | hj | hj | hj | hj | hj | hj | hj | hj | hj | hj | hj | hj | hj | hj | hj
    · refine lv_tableIn (off := 90) (tgt := 132) hx hb dL_law_42 (by rw [hj]; decide) (by rw [hj]; decide) (by rw [hj]; rfl) rfl ?_
      exact law_0 hx hb hml hown hww hX hbl hbA hA hK hN hL hi h h4 hp hl hcl hsl hP hD hS hl0 hs0 hq0 hq1 next
    · refine lv_tableIn (off := 103) (tgt := 145) hx hb dL_law_42 (by rw [hj]; decide) (by rw [hj]; decide) (by rw [hj]; rfl) rfl ?_
      exact law_1 hx hb hml hown hww hX hbl hbA hA hK hN hL hi h h4 hp hl hcl hsl hP hD hS hl0 hs0 hq0 hq1 next
    · refine lv_tableIn (off := 136) (tgt := 178) hx hb dL_law_42 (by rw [hj]; decide) (by rw [hj]; decide) (by rw [hj]; rfl) rfl ?_
      exact law_2 hx hb hml hown hww hX hbl hbA hA hK hN hL hi h h4 hp hl hcl hsl hP hD hS hl0 hs0 hq0 hq1 next
    · refine lv_tableIn (off := 169) (tgt := 211) hx hb dL_law_42 (by rw [hj]; decide) (by rw [hj]; decide) (by rw [hj]; rfl) rfl ?_
      exact law_3 hx hb hml hown hww hX hbl hbA hA hK hN hL hi h h4 hp hl hcl hsl hP hD hS hl0 hs0 hq0 hq1 next
    · refine lv_tableIn (off := 202) (tgt := 244) hx hb dL_law_42 (by rw [hj]; decide) (by rw [hj]; decide) (by rw [hj]; rfl) rfl ?_
      exact law_4 hx hb hml hown hww hX hbl hbA hA hK hN hL hi h h4 hp hl hcl hsl hP hD hS hl0 hs0 hq0 hq1 next
    · refine lv_tableIn (off := 235) (tgt := 277) hx hb dL_law_42 (by rw [hj]; decide) (by rw [hj]; decide) (by rw [hj]; rfl) rfl ?_
      exact law_5 hx hb hml hown hww hX hbl hbA hA hK hN hL hi h h4 hp hl hcl hsl hP hD hS hl0 hs0 hq0 hq1 next
    · refine lv_tableIn (off := 258) (tgt := 300) hx hb dL_law_42 (by rw [hj]; decide) (by rw [hj]; decide) (by rw [hj]; rfl) rfl ?_
      exact law_6 hx hb hml hown hww hX hbl hbA hA hK hN hL hi h h4 hp hl hcl hsl hP hD hS hl0 hs0 hq0 hq1 next
    · refine lv_tableIn (off := 301) (tgt := 343) hx hb dL_law_42 (by rw [hj]; decide) (by rw [hj]; decide) (by rw [hj]; rfl) rfl ?_
      exact law_7 hx hb hml hown hww hX hbl hbA hA hK hN hL hi h h4 hp hl hcl hsl hP hD hS hl0 hs0 hq0 hq1 next
    · refine lv_tableIn (off := 324) (tgt := 366) hx hb dL_law_42 (by rw [hj]; decide) (by rw [hj]; decide) (by rw [hj]; rfl) rfl ?_
      exact law_8 hx hb hml hown hww hX hbl hbA hA hK hN hL hi h h4 hp hl hcl hsl hP hD hS hl0 hs0 hq0 hq1 next
    · refine lv_tableIn (off := 347) (tgt := 389) hx hb dL_law_42 (by rw [hj]; decide) (by rw [hj]; decide) (by rw [hj]; rfl) rfl ?_
      exact law_9 hx hb hml hown hww hX hbl hbA hA hK hN hL hi h h4 hp hl hcl hsl hP hD hS hl0 hs0 hq0 hq1 next
    · refine lv_tableIn (off := 400) (tgt := 442) hx hb dL_law_42 (by rw [hj]; decide) (by rw [hj]; decide) (by rw [hj]; rfl) rfl ?_
      exact law_10 hx hb hml hown hww hX hbl hbA hA hK hN hL hi h h4 hp hl hcl hsl hP hD hS hl0 hs0 hq0 hq1 next
    · refine lv_tableIn (off := 424) (tgt := 466) hx hb dL_law_42 (by rw [hj]; decide) (by rw [hj]; decide) (by rw [hj]; rfl) rfl ?_
      exact law_11 hx hb hml hown hww hX hbl hbA hA hK hN hL hi h h4 hp hl hcl hsl hP hD hS hl0 hs0 hq0 hq1 next
    · refine lv_tableIn (off := 457) (tgt := 499) hx hb dL_law_42 (by rw [hj]; decide) (by rw [hj]; decide) (by rw [hj]; rfl) rfl ?_
      exact law_12 hx hb hml hown hww hX hbl hbA hA hK hN hL hi h h4 hp hl hcl hsl hP hD hS hl0 hs0 hq0 hq1 next
    · refine lv_tableIn (off := 480) (tgt := 522) hx hb dL_law_42 (by rw [hj]; decide) (by rw [hj]; decide) (by rw [hj]; rfl) rfl ?_
      exact law_13 hx hb hml hown hww hX hbl hbA hA hK hN hL hi h h4 hp hl hcl hsl hP hD hS hl0 hs0 hq0 hq1 next
    · refine lv_tableIn (off := 549) (tgt := 591) hx hb dL_law_42 (by rw [hj]; decide) (by rw [hj]; decide) (by rw [hj]; rfl) rfl ?_
      exact law_14 hx hb hml hown hww hX hbl hbA hA hK hN hL hi h h4 hp hl hcl hsl hP hD hS hl0 hs0 hq0 hq1 next
    · refine lv_tableIn (off := 572) (tgt := 614) hx hb dL_law_42 (by rw [hj]; decide) (by rw [hj]; decide) (by rw [hj]; rfl) rfl ?_
      exact law_15 hx hb hml hown hww hX hbl hbA hA hK hN hL hi h h4 hp hl hcl hsl hP hD hS hl0 hs0 hq0 hq1 next
    · refine lv_tableIn (off := 595) (tgt := 637) hx hb dL_law_42 (by rw [hj]; decide) (by rw [hj]; decide) (by rw [hj]; rfl) rfl ?_
      exact law_16 hx hb hml hown hww hX hbl hbA hA hK hN hL hi h h4 hp hl hcl hsl hP hD hS hl0 hs0 hq0 hq1 next
    · refine lv_tableIn (off := 618) (tgt := 660) hx hb dL_law_42 (by rw [hj]; decide) (by rw [hj]; decide) (by rw [hj]; rfl) rfl ?_
      exact law_17 hx hb hml hown hww hX hbl hbA hA hK hN hL hi h h4 hp hl hcl hsl hP hD hS hl0 hs0 hq0 hq1 next
    · refine lv_tableIn (off := 652) (tgt := 694) hx hb dL_law_42 (by rw [hj]; decide) (by rw [hj]; decide) (by rw [hj]; rfl) rfl ?_
      exact law_18 hx hb hml hown hww hX hbl hbA hA hK hN hL hi h h4 hp hl hcl hsl hP hD hS hl0 hs0 hq0 hq1 next
    · refine lv_tableOut (tgt := 727) hx hb dL_law_42 (Or.inr hj) rfl ?_
      exact next H locs f0 f1 f2 f3 nt0 ng0 mg0 ex0 nt1 ng1 mg1 ex1 sq lf sf hP hD hS hl0 hs0 hq0 hq1
