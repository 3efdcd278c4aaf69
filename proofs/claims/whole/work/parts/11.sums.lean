theorem tq_nI_add (i : Nat) : nI i + 1 = nI (i + 1) := (Int32.ofNat_add i 1).symm
theorem tq_nI_le {N i : Nat} (hN : N < 2 ^ 31) (hi : i < 2 ^ 31) : nI N ≤ nI i ↔ N ≤ i := by
  rw [Int32.le_iff_toInt_le, tq_nI_i hN, tq_nI_i hi]; omega
theorem tq_nI_lt {N i : Nat} (hN : N < 2 ^ 31) (hi : i < 2 ^ 31) : nI N < nI i ↔ N < i := by
  rw [Int32.lt_iff_toInt_lt, tq_nI_i hN, tq_nI_i hi]; omega
theorem tq_nI_cl {i : Nat} (hi : i < 2 ^ 31) : (nI i).toNatClampNeg = i := tq_cl_n (tq_nI_i hi)
theorem tq_nI_nn {i : Nat} (hi : i < 2 ^ 31) : ¬ nI i < 0 := by
  rw [Int32.lt_iff_toInt_lt, tq_nI_i hi]; show ¬ (i : Int) < 0; omega
theorem tq_nI_ok {N i : Nat} (h : i < N) (hN : N < 2 ^ 31) : ¬ (nI i < 0 ∨ N ≤ (nI i).toNatClampNeg) := by
  rw [tq_nI_cl (by omega)]; exact fun q => q.elim (tq_nI_nn (by omega)) (by omega)
theorem tq_nI_sub {N : Nat} (h : 1 ≤ N) (hN : N < 2 ^ 31) : nI N - 1 = nI (N - 1) := by
  apply Int32.toInt.inj; rw [tq_i32_sub, tq_nI_i hN, tq_nI_i (by omega)]
  · show (N : Int) - 1 = _; omega
  · rw [tq_nI_i hN]; show _ ≤ (N : Int) - 1 ∧ (N : Int) - 1 < _; omega
theorem tq_of_i32 {v : Int32} {i : Nat} (h : v.toInt = i) : v = nI i := by
  have := tq_i32_rng v; apply Int32.toInt.inj; rw [h, tq_nI_i (by omega)]
/-- what N words stand for -/
def tq_sv (f : Nat → Int64) : Nat → Nat
  | 0 => 0
  | k + 1 => tq_sv f k + tq_u64 (f k) * 2 ^ (64 * k)
theorem tq_p64 (k : Nat) : 2 ^ (64 * (k + 1)) = 2 ^ 64 * 2 ^ (64 * k) := by rw [← Nat.pow_add]; congr 1; omega
theorem tq_sv_lt (f : Nat → Int64) : ∀ k, tq_sv f k < 2 ^ (64 * k)
  | 0 => by simp [tq_sv]
  | k + 1 => by
    have := tq_sv_lt f k; have h := tq_u64_lt (f k)
    rw [tq_sv, tq_p64]
    have : tq_u64 (f k) * 2 ^ (64 * k) ≤ (2 ^ 64 - 1) * 2 ^ (64 * k) := Nat.mul_le_mul_right _ (by omega)
    rw [Nat.sub_mul] at this
    have : 1 * 2 ^ (64 * k) ≤ 2 ^ 64 * 2 ^ (64 * k) := Nat.mul_le_mul_right _ (by decide)
    omega
theorem tq_sv_congr {f g : Nat → Int64} : ∀ {k}, (∀ j < k, f j = g j) → tq_sv f k = tq_sv g k
  | 0, _ => rfl
  | k + 1, h => by rw [tq_sv, tq_sv, tq_sv_congr (k := k) (fun j hj => h j (by omega)), h k (by omega)]
theorem tq_sv_upd (f : Nat → Int64) (i : Nat) (x : Int64) : tq_sv (vp_updL f i x) i = tq_sv f i :=
  tq_sv_congr (fun j hj => by unfold vp_updL; rw [if_neg (by omega)])
theorem tq_upd_at (f : Nat → Int64) (i : Nat) (x : Int64) : vp_updL f i x i = x := by unfold vp_updL; rw [if_pos rfl]
theorem tq_upd_ne {f : Nat → Int64} {i j : Nat} {x : Int64} (h : j ≠ i) : vp_updL f i x j = f j := by unfold vp_updL; rw [if_neg h]
theorem tq_sv_split (f : Nat → Int64) (i : Nat) : ∀ m, ∃ r, tq_sv f (i + m) = tq_sv f i + 2 ^ (64 * i) * r ∧ (1 ≤ m → r % 2 ^ 64 = tq_u64 (f i))
  | 0 => ⟨0, by simp, by omega⟩
  | m + 1 => by
    obtain ⟨r, h1, h2⟩ := tq_sv_split f i m
    refine ⟨r + tq_u64 (f (i + m)) * 2 ^ (64 * m), ?_, ?_⟩
    · show tq_sv f (i + m) + tq_u64 (f (i + m)) * 2 ^ (64 * (i + m)) = _
      have e : tq_u64 (f (i + m)) * 2 ^ (64 * (i + m)) = 2 ^ (64 * i) * (tq_u64 (f (i + m)) * 2 ^ (64 * m)) := by
        rw [Nat.mul_left_comm, ← Nat.pow_add]; congr 2; omega
      rw [h1, e, Nat.mul_add, Nat.add_assoc]
    · intro _
      rcases Nat.eq_zero_or_pos m with q | q
      · subst q
        have : r = 0 := by
          have p := Nat.two_pow_pos (64 * i)
          rcases Nat.eq_zero_or_pos r with r0 | r0
          · exact r0
          · have : 0 < 2 ^ (64 * i) * r := Nat.mul_pos p r0
            have e : tq_sv f (i + 0) = tq_sv f i := rfl
            omega
        subst this
        have := tq_u64_lt (f i)
        show (0 + tq_u64 (f i) * 1) % 2 ^ 64 = tq_u64 (f i)
        omega
      · have e : 2 ^ (64 * m) = 2 ^ 64 * 2 ^ (64 * (m - 1)) := by rw [← Nat.pow_add]; congr 1; omega
        rw [e, Nat.mul_comm (tq_u64 _), Nat.mul_assoc, Nat.add_mul_mod_self_left]; exact h2 q
theorem tq_setZero_loop {N : Nat} (hN : N < 2 ^ 31) : ∀ n i (f : Nat → Int64), i ≤ N → N < n + i →
    ∃ g, f_setZero_b2 N n (nI i) f = some g ∧ (∀ j, i ≤ j → j < N → g j = 0) ∧ (∀ j, j < i → g j = f j)
  | 0, i, f, h1, h2 => by omega
  | n + 1, i, f, h1, h2 => by
    unfold f_setZero_b2
    by_cases h : N ≤ i
    · rw [if_pos ((tq_nI_le hN (by omega)).2 h)]
      exact ⟨f, rfl, fun j a b => by omega, fun _ _ => rfl⟩
    · rw [if_neg (fun q => h ((tq_nI_le hN (by omega)).1 q)), if_neg (tq_nI_ok (by omega) hN), tq_nI_cl (by omega), tq_nI_add]
      obtain ⟨g, e, a, b⟩ := tq_setZero_loop hN n (i + 1) (vp_updL f i 0) (by omega) (by omega)
      refine ⟨g, e, fun j h3 h4 => ?_, fun j h3 => ?_⟩
      · rcases Nat.eq_or_lt_of_le h3 with q | q
        · subst q; rw [b _ (by omega), tq_upd_at]
        · exact a j (by omega) h4
      · rw [b j (by omega), tq_upd_ne (by omega)]
theorem tq_setZero_spec {N : Nat} (hN : N ≤ 8) (f : Nat → Int64) : ∃ g, f_setZero N f = some g ∧ ∀ j, j < N → g j = 0 := by
  obtain ⟨g, e, a, b⟩ := tq_setZero_loop (N := N) (by omega) 9 0 f (by omega) (by omega)
  exact ⟨g, e, fun j h => a j (by omega) h⟩
theorem tq_sv_zero {g : Nat → Int64} : ∀ {N}, (∀ j, j < N → g j = 0) → tq_sv g N = 0
  | 0, _ => rfl
  | N + 1, h => by rw [tq_sv, tq_sv_zero (fun j hj => h j (by omega)), h N (by omega)]; show 0 + 0 * _ = 0; simp
theorem tq_u64_min : tq_u64 (-9223372036854775808) = 2 ^ 63 := by decide
theorem tq_setNot_spec {N : Nat} (h1 : 1 ≤ N) (hN : N ≤ 8) (f : Nat → Int64) : ∃ g, f_setNot N f = some g ∧ tq_sv g N = 2 ^ (64 * N - 1) := by
  obtain ⟨g, e, a⟩ := tq_setZero_spec hN f
  unfold f_setNot tq_bd
  rw [e, tq_nI_sub h1 (by omega), tq_nI_cl (by omega)]
  refine ⟨vp_updL g (N - 1) (-9223372036854775808), ?_, ?_⟩
  · show (if _ then none else some _) = _
    rw [if_neg]
    exact fun q => q.elim (tq_nI_nn (by omega)) (by omega)
  · obtain ⟨M, rfl⟩ : ∃ M, N = M + 1 := ⟨N - 1, by omega⟩
    rw [tq_sv]
    show tq_sv (vp_updL g M _) M + tq_u64 (vp_updL g M _ M) * _ = _
    rw [tq_sv_upd, tq_upd_at, tq_sv_zero (fun j hj => a j (by omega)), tq_u64_min, ← Nat.pow_add, Nat.zero_add]; congr 1; omega
theorem tq_flip_loop {N : Nat} (hN : N < 2 ^ 31) (f0 : Nat → Int64) : ∀ n i (c : Int64) (f : Nat → Int64), i ≤ N → N < n + i → tq_u64 c ≤ 1 →
    (∀ j, i ≤ j → f j = f0 j) → tq_sv f i + tq_u64 c * 2 ^ (64 * i) + tq_sv f0 i = 2 ^ (64 * i) →
    ∃ g c', f_flip_b4 N n c (nI i) f = some g ∧ c' ≤ 1 ∧ tq_sv g N + c' * 2 ^ (64 * N) + tq_sv f0 N = 2 ^ (64 * N)
  | 0, i, c, f, h1, h2, hc, hf, hs => by omega
  | n + 1, i, c, f, h1, h2, hc, hf, hs => by
    unfold f_flip_b4
    by_cases h : N ≤ i
    · rw [if_pos ((tq_nI_le hN (by omega)).2 h)]
      have : i = N := by omega
      subst this
      exact ⟨f, tq_u64 c, rfl, hc, hs⟩
    · rw [if_neg (fun q => h ((tq_nI_le hN (by omega)).1 q)), if_neg (tq_nI_ok (by omega) hN), if_neg (tq_nI_ok (by omega) hN), if_neg (tq_nI_ok (by omega) hN), tq_nI_cl (by omega), tq_upd_at]
      have hw : tq_u64 ((f i ^^^ (-1)) + c) = (2 ^ 64 - 1 - tq_u64 (f i) + tq_u64 c) % 2 ^ 64 := by rw [tq_u64_add, tq_u64_not]
      have ha := tq_u64_lt (f i)
      generalize hz : (f i ^^^ (-1)) + c = w at *
      have key : ∀ c' : Int64, tq_u64 c' ≤ 1 → tq_u64 w + tq_u64 c' * 2 ^ 64 = 2 ^ 64 - 1 - tq_u64 (f i) + tq_u64 c →
          ∃ g c'', f_flip_b53 (f_flip_b4 N n) (nI i) c' (vp_updL f i w) = some g ∧ c'' ≤ 1 ∧ tq_sv g N + c'' * 2 ^ (64 * N) + tq_sv f0 N = 2 ^ (64 * N) := by
        intro c' hc' hk
        unfold f_flip_b53
        rw [tq_nI_add]
        apply tq_flip_loop hN f0 n (i + 1) c' _ (by omega) (by omega) hc'
        · intro j hj; rw [tq_upd_ne (by omega)]; exact hf j (by omega)
        · rw [tq_sv, tq_sv, tq_sv_upd, tq_upd_at, ← hf i (Nat.le_refl _), tq_p64]
          have e : (tq_u64 w + tq_u64 c' * 2 ^ 64 + tq_u64 (f i)) * 2 ^ (64 * i) = (2 ^ 64 - 1 + tq_u64 c) * 2 ^ (64 * i) := by congr 1; omega
          rw [Nat.add_mul, Nat.add_mul, Nat.add_mul, Nat.mul_assoc, Nat.sub_mul] at e
          have : 1 * 2 ^ (64 * i) ≤ 2 ^ 64 * 2 ^ (64 * i) := Nat.mul_le_mul_right _ (by decide)
          omega
      have c0 : tq_u64 (0 : Int64) = 0 := by decide
      have c1 : tq_u64 (1 : Int64) = 1 := by decide
      by_cases q : lg_cmp c 1 = 0
      · rw [if_neg (by simpa using q)]
        rw [tq_cmp_eq] at q; subst q
        by_cases q : lg_cmp w 0 = 0
        · rw [if_neg (by simpa using q)]
          rw [tq_cmp_eq] at q
          rw [q, c0, c1] at hw
          exact key 1 (by omega) (by rw [q, c0, c1]; omega)
        · rw [if_pos q]
          rw [tq_cmp_eq] at q
          have : tq_u64 w ≠ 0 := fun e => q (tq_u64_inj (by rw [e, c0]))
          rw [c1] at hw
          exact key 0 (by omega) (by rw [c0, c1]; omega)
      · rw [if_pos q]
        rw [tq_cmp_eq] at q
        have : tq_u64 c ≠ 1 := fun e => q (tq_u64_inj (by rw [e, c1]))
        exact key 0 (by omega) (by rw [c0]; omega)
theorem tq_flip_spec {N : Nat} (hN : N ≤ 8) (f : Nat → Int64) : ∃ g, f_flip N f = some g ∧ tq_sv g N = (2 ^ (64 * N) - tq_sv f N) % 2 ^ (64 * N) := by
  obtain ⟨g, c, e, hc, hs⟩ := tq_flip_loop (N := N) (by omega) f 9 0 1 f (by omega) (by omega) (by decide) (fun _ _ => rfl) (by simp [tq_sv]; decide)
  refine ⟨g, e, ?_⟩
  have h1 := tq_sv_lt f N
  have h2 := tq_sv_lt g N
  generalize 2 ^ (64 * N) = M at *
  rcases (by omega : c = 0 ∨ c = 1) with rfl | rfl
  · rw [Nat.mod_eq_of_lt] <;> omega
  · have : tq_sv g N = 0 := by omega
    have : tq_sv f N = 0 := by omega
    rw [this]; simp; omega
theorem tq_carry_bit {a b c : Nat} (ha : a < 2 ^ 64) (hb : b < 2 ^ 64) (hc : c ≤ 1) :
    ((a &&& b) ||| ((a ||| b) &&& (2 ^ 64 - 1 - (a + b + c) % 2 ^ 64))) / 2 ^ 63 = (a + b + c) / 2 ^ 64 := by
  rw [← Nat.shiftRight_eq_div_pow, Nat.shiftRight_or_distrib, Nat.shiftRight_and_distrib, Nat.shiftRight_and_distrib, Nat.shiftRight_or_distrib]
  simp only [Nat.shiftRight_eq_div_pow]
  have e1 : (2 ^ 64 - 1 - (a + b + c) % 2 ^ 64) / 2 ^ 63 = 1 - (a + b + c) % 2 ^ 64 / 2 ^ 63 := by omega
  rw [e1]
  have h1 : a / 2 ^ 63 = 0 ∨ a / 2 ^ 63 = 1 := by omega
  have h2 : b / 2 ^ 63 = 0 ∨ b / 2 ^ 63 = 1 := by omega
  have h3 : (a + b + c) % 2 ^ 64 / 2 ^ 63 = 0 ∨ (a + b + c) % 2 ^ 64 / 2 ^ 63 = 1 := by omega
  rcases h1 with h1 | h1 <;> rcases h2 with h2 | h2 <;> rcases h3 with h3 | h3 <;> rw [h1, h2, h3] <;> simp <;> omega
theorem tq_include_loop {N : Nat} (hN : N < 2 ^ 31) (f0 f1 : Nat → Int64) : ∀ n i (c : Int64) (f : Nat → Int64), i ≤ N → N < n + i → tq_u64 c ≤ 1 →
    (∀ j, i ≤ j → f j = f0 j) → tq_sv f i + tq_u64 c * 2 ^ (64 * i) = tq_sv f0 i + tq_sv f1 i →
    ∃ g c', f_include_b24 N N f1 n c (nI i) f = some g ∧ c' ≤ 1 ∧ tq_sv g N + c' * 2 ^ (64 * N) = tq_sv f0 N + tq_sv f1 N
  | 0, i, c, f, h1, h2, hc, hf, hs => by omega
  | n + 1, i, c, f, h1, h2, hc, hf, hs => by
    unfold f_include_b24
    by_cases h : N ≤ i
    · rw [if_pos ((tq_nI_le hN (by omega)).2 h)]
      have : i = N := by omega
      subst this
      exact ⟨f, tq_u64 c, rfl, hc, hs⟩
    · rw [if_neg (fun q => h ((tq_nI_le hN (by omega)).1 q)), if_neg (fun q => h ((tq_nI_le hN (by omega)).1 q)), if_neg (tq_nI_ok (by omega) hN)]
      unfold tq_nm
      dsimp only
      rw [if_neg (tq_nI_ok (by omega) hN), if_neg (tq_nI_ok (by omega) hN), tq_nI_cl (by omega), tq_nI_add]
      have ha := tq_u64_lt (f i)
      have hb := tq_u64_lt (f1 i)
      have hw : tq_u64 (f i + f1 i + c) = (tq_u64 (f i) + tq_u64 (f1 i) + tq_u64 c) % 2 ^ 64 := by rw [tq_u64_add, tq_u64_add]; omega
      generalize f i + f1 i + c = w at *
      have hk := tq_u64_ushr (x := (f i &&& f1 i) ||| ((f i ||| f1 i) &&& (w ^^^ (-1)))) (y := 63) (k := 63) rfl (by omega)
      rw [tq_u64_or, tq_u64_and, tq_u64_and, tq_u64_or, tq_u64_not, hw, tq_carry_bit ha hb hc] at hk
      generalize (((f i &&& f1 i) ||| ((f i ||| f1 i) &&& (w ^^^ (-1)))).toUInt64 >>> ((63 : Int32).toInt64.toUInt64 &&& Int64.toUInt64 63)).toInt64 = c' at *
      apply tq_include_loop hN f0 f1 n (i + 1) c' _ (by omega) (by omega) (by omega)
      · intro j hj; rw [tq_upd_ne (by omega)]; exact hf j (by omega)
      · rw [tq_sv, tq_sv, tq_sv, tq_sv_upd, tq_upd_at, ← hf i (Nat.le_refl _), tq_p64]
        have e : (tq_u64 w + tq_u64 c' * 2 ^ 64) * 2 ^ (64 * i) = (tq_u64 (f i) + tq_u64 (f1 i) + tq_u64 c) * 2 ^ (64 * i) := by congr 1; omega
        rw [Nat.add_mul, Nat.add_mul, Nat.add_mul, Nat.mul_assoc] at e
        omega
theorem tq_copy_loop {N : Nat} (hN : N < 2 ^ 31) (f1 : Nat → Int64) : ∀ n i (f : Nat → Int64), i ≤ N → N < n + i →
    (∀ j, j < i → f j = f1 j) → ∃ g, f_copy_b2 N N f1 n (nI i) f = some g ∧ (∀ j, j < N → g j = f1 j)
  | 0, i, f, h1, h2, hf => by omega
  | n + 1, i, f, h1, h2, hf => by
    unfold f_copy_b2
    by_cases h : N ≤ i
    · rw [if_pos ((tq_nI_le hN (by omega)).2 h)]
      exact ⟨f, rfl, fun j hj => hf j (by omega)⟩
    · rw [if_neg (fun q => h ((tq_nI_le hN (by omega)).1 q)), if_neg (fun q => h ((tq_nI_le hN (by omega)).1 q)), if_neg (tq_nI_ok (by omega) hN), if_neg (tq_nI_ok (by omega) hN), tq_nI_cl (by omega), tq_nI_add]
      apply tq_copy_loop hN f1 n (i + 1) _ (by omega) (by omega)
      intro j hj
      rcases Nat.lt_or_ge j i with q | q
      · rw [tq_upd_ne (by omega)]; exact hf j q
      · have : j = i := by omega
        subst this; rw [tq_upd_at]
theorem tq_copy_spec {N : Nat} (hN : N ≤ 8) (f f1 : Nat → Int64) : ∃ g, f_copy N f N f1 = some g ∧ tq_sv g N = tq_sv f1 N := by
  obtain ⟨g, e, h⟩ := tq_copy_loop (N := N) (by omega) f1 9 0 f (by omega) (by omega) (fun j hj => by omega)
  exact ⟨g, e, tq_sv_congr h⟩

theorem tq_mod_split {f : Nat → Int64} {N i b : Nat} (hi : i < N) (hb : b ≤ 64) : tq_sv f N % 2 ^ (64 * i + b) = tq_sv f i + 2 ^ (64 * i) * (tq_u64 (f i) % 2 ^ b) := by
  obtain ⟨r, h1, h2⟩ := tq_sv_split f i (N - i)
  have e : i + (N - i) = N := by omega
  rw [e] at h1
  have h2 := h2 (by omega)
  have hr : r % 2 ^ b = tq_u64 (f i) % 2 ^ b := by
    rw [← h2]
    have e : 2 ^ 64 = 2 ^ b * 2 ^ (64 - b) := by rw [← Nat.pow_add]; congr 1; omega
    rw [e, Nat.mod_mul_right_mod]
  rw [h1, ← hr, Nat.pow_add]
  have hl := tq_sv_lt f i
  have hp := Nat.two_pow_pos b
  have q : r = 2 ^ b * (r / 2 ^ b) + r % 2 ^ b := (Nat.div_add_mod _ _).symm
  have hm := Nat.mod_lt r hp
  generalize r / 2 ^ b = d at *
  generalize r % 2 ^ b = m at *
  have e2 : tq_sv f i + 2 ^ (64 * i) * r = (tq_sv f i + 2 ^ (64 * i) * m) + 2 ^ (64 * i) * 2 ^ b * d := by
    rw [q, Nat.mul_add, Nat.mul_assoc]; omega
  rw [e2, Nat.add_mul_mod_self_left, Nat.mod_eq_of_lt]
  have : 2 ^ (64 * i) * (m + 1) ≤ 2 ^ (64 * i) * 2 ^ b := Nat.mul_le_mul_left _ hm
  rw [Nat.mul_add] at this
  omega
theorem tq_shl_zero {w b : Nat} (hb : b ≤ 64) : w * 2 ^ (64 - b) % 2 ^ 64 = 0 ↔ w % 2 ^ b = 0 := by
  have e : 2 ^ 64 = 2 ^ b * 2 ^ (64 - b) := by rw [← Nat.pow_add]; congr 1; omega
  rw [e, Nat.mul_mod_mul_right]
  have := Nat.two_pow_pos (64 - b)
  constructor
  · intro h; exact (Nat.mul_eq_zero.1 h).resolve_right (by omega)
  · intro h; rw [h, Nat.zero_mul]
theorem tq_below_loop {N : Nat} (hN : N ≤ 8) (f : Nat → Int64) (place : Int32) {P : Nat} (hP : place.toInt = P) (hPN : P ≤ 64 * N) : ∀ n i, i ≤ N → N < n + i →
    (tq_sv f N % 2 ^ (min (64 * i) P) = 0) →
    ∃ r, f_hasBitsBelow_b2 N f place n (nI i) = some r ∧ ((tq_sv f N % 2 ^ P = 0 ∧ r = 0) ∨ (tq_sv f N % 2 ^ P ≠ 0 ∧ r = 1))
  | 0, i, h1, h2, hs => by omega
  | n + 1, i, h1, h2, hs => by
    unfold f_hasBitsBelow_b2
    by_cases h : N ≤ i
    · rw [if_pos ((tq_nI_le (by omega) (by omega)).2 h)]
      have : min (64 * i) P = P := by omega
      rw [this] at hs
      exact ⟨0, rfl, .inl ⟨hs, rfl⟩⟩
    · rw [if_neg (fun q => h ((tq_nI_le (by omega) (by omega)).1 q))]
      have c64 : ((64 : Int32)).toInt = 64 := rfl
      have hi := tq_nI_i (n := i) (by omega)
      have e64 : ((64 : Int32) * nI i).toInt = 64 * i := by
        rw [tq_i32_mul (by rw [hi, c64]; omega), hi, c64]
      by_cases h3 : place ≤ 64 * nI i
      · rw [if_pos h3]
        rw [Int32.le_iff_toInt_le, hP, e64] at h3
        have : min (64 * i) P = P := by omega
        rw [this] at hs
        exact ⟨0, rfl, .inl ⟨hs, rfl⟩⟩
      · rw [if_neg h3]
        rw [Int32.le_iff_toInt_le, hP, e64] at h3
        have es : (place - 64 * nI i).toInt = P - 64 * i := by
          rw [tq_i32_sub (by rw [hP, e64]; omega), hP, e64]
        unfold tq_nm
        dsimp only
        rw [if_neg (tq_nI_ok (N := N) (by omega) (by omega)), tq_nI_cl (by omega), tq_nI_add]
        have hb : (if (place - ((64 : Int32) * nI i)) < (64 : Int32) then (place - ((64 : Int32) * nI i)) else (64 : Int32)).toInt = ((min 64 (P - 64 * i) : Nat) : Int) := by
          by_cases h5 : (place - ((64 : Int32) * nI i)) < (64 : Int32)
          · rw [if_pos h5]; rw [Int32.lt_iff_toInt_lt, es, c64] at h5; rw [es]; omega
          · rw [if_neg h5]; rw [Int32.lt_iff_toInt_lt, es, c64] at h5; rw [c64]; omega
        generalize (if (place - ((64 : Int32) * nI i)) < (64 : Int32) then (place - ((64 : Int32) * nI i)) else (64 : Int32)) = bits at *
        have hsh : ((64 : Int32) - bits).toInt = ((64 - min 64 (P - 64 * i) : Nat) : Int) := by
          rw [tq_i32_sub (by rw [hb, c64]; omega), hb, c64]; omega
        have hu := tq_u64_shl (x := f i) hsh (by omega)
        have hm := tq_mod_split (f := f) (i := i) (N := N) (b := min 64 (P - 64 * i)) (by omega) (by omega)
        have e0 : min (64 * i) P = 64 * i := by omega
        rw [e0] at hs
        have hm0 := tq_mod_split (f := f) (i := i) (N := N) (b := 0) (by omega) (by omega)
        rw [show 64 * i + 0 = 64 * i from rfl, hs, Nat.pow_zero, Nat.mod_one, Nat.mul_zero] at hm0
        have hm0 : tq_sv f i = 0 := by omega
        have e1 : 64 * i + min 64 (P - 64 * i) = min (64 * (i + 1)) P := by omega
        rw [e1, hm0, Nat.zero_add] at hm
        generalize f i <<< (((64 : Int32) - bits).toInt64 &&& 63) = w at *
        have hz := tq_shl_zero (w := tq_u64 (f i)) (b := min 64 (P - 64 * i)) (by omega)
        by_cases h6 : lg_cmp w 0 = 0
        · rw [if_pos h6]
          rw [tq_cmp_eq] at h6
          apply tq_below_loop hN f place hP hPN n (i + 1) (by omega) (by omega)
          have : tq_u64 w = 0 := by rw [h6]; rfl
          rw [hm, hz.1 (by omega), Nat.mul_zero]
        · rw [if_neg h6]
          rw [tq_cmp_eq] at h6
          refine ⟨1, rfl, .inr ⟨?_, rfl⟩⟩
          intro q
          apply h6
          apply tq_u64_inj
          show tq_u64 w = 0
          rw [hu, hz.2]
          have : tq_sv f N % 2 ^ (min (64 * (i + 1)) P) = 0 := by
            have e : 2 ^ P = 2 ^ (min (64 * (i + 1)) P) * 2 ^ (P - min (64 * (i + 1)) P) := by rw [← Nat.pow_add]; congr 1; omega
            rw [e] at q
            have := Nat.mod_mul_right_mod (tq_sv f N) (2 ^ (min (64 * (i + 1)) P)) (2 ^ (P - min (64 * (i + 1)) P))
            rw [q] at this
            rw [← this, Nat.zero_mod]
          rw [hm] at this
          have p := Nat.two_pow_pos (64 * i)
          exact (Nat.mul_eq_zero.1 this).resolve_left (by omega)
theorem tq_below_spec {N : Nat} (hN : N ≤ 8) (f : Nat → Int64) {place : Int32} {P : Nat} (hP : place.toInt = P) (hPN : P ≤ 64 * N) :
    ∃ r, f_hasBitsBelow N f place = some r ∧ ((tq_sv f N % 2 ^ P = 0 ∧ r = 0) ∨ (tq_sv f N % 2 ^ P ≠ 0 ∧ r = 1)) := by
  have := tq_below_loop hN f place hP hPN 9 0 (by omega) (by omega) (by simp [Nat.mod_one])
  exact this
theorem tq_below_neg {N : Nat} (hN : N ≤ 8) (f : Nat → Int64) {place : Int32} (hP : place.toInt ≤ 0) : f_hasBitsBelow N f place = some 0 := by
  unfold f_hasBitsBelow f_hasBitsBelow_b2
  by_cases h : nI N ≤ 0
  · rw [if_pos h]
  · rw [if_neg h, if_pos]
    rw [Int32.le_iff_toInt_le]; exact hP
theorem tq_isNot_spec {N : Nat} (h1 : 1 ≤ N) (hN : N ≤ 8) (f : Nat → Int64) : ∃ r, f_isNot N f = some r ∧ ((tq_sv f N = 2 ^ (64 * N - 1) ∧ r = 1) ∨ (tq_sv f N ≠ 2 ^ (64 * N - 1) ∧ r = 0)) := by
  unfold f_isNot tq_nm
  dsimp only
  rw [tq_nI_sub h1 (by omega), if_neg (tq_nI_ok (by omega) (by omega)), tq_nI_cl (by omega)]
  obtain ⟨M, rfl⟩ : ∃ M, N = M + 1 := ⟨N - 1, by omega⟩
  have e0 : M + 1 - 1 = M := by omega
  rw [e0]
  have e1 : 64 * (M + 1) - 1 = 63 + 64 * M := by omega
  rw [e1, Nat.pow_add]
  have hl := tq_sv_lt f M
  have p := Nat.two_pow_pos (64 * M)
  have c64 : ((64 : Int32)).toInt = 64 := rfl
  have hi := tq_nI_i (n := M) (by omega)
  have e64 : ((64 : Int32) * nI M).toInt = ((64 * M : Nat) : Int) := by
    rw [tq_i32_mul (by rw [hi, c64]; omega), hi, c64]; omega
  by_cases h : lg_cmp (f M) (-9223372036854775808) = 0
  · rw [if_neg (by simpa using h)]
    rw [tq_cmp_eq] at h
    obtain ⟨r, e, hr⟩ := tq_below_spec hN f e64 (by omega)
    have hm := tq_mod_split (f := f) (i := M) (N := M + 1) (b := 0) (by omega) (by omega)
    rw [show 64 * M + 0 = 64 * M from rfl, Nat.pow_zero, Nat.mod_one, Nat.mul_zero, show tq_sv f M + 0 = tq_sv f M from rfl] at hm
    rw [hm] at hr
    unfold tq_bd
    rw [e]
    show ∃ r_1, (if ¬ r = 0 then some 0 else some 1) = some r_1 ∧ _
    rcases hr with ⟨a, rfl⟩ | ⟨a, rfl⟩
    · refine ⟨1, rfl, .inl ⟨?_, rfl⟩⟩
      rw [tq_sv, a, h, tq_u64_min, Nat.zero_add]
    · refine ⟨0, rfl, .inr ⟨?_, rfl⟩⟩
      rw [tq_sv, h, tq_u64_min]; omega
  · rw [if_pos h]
    rw [tq_cmp_eq] at h
    refine ⟨0, rfl, .inr ⟨?_, rfl⟩⟩
    intro q
    apply h
    apply tq_u64_inj
    rw [tq_u64_min]
    rw [tq_sv] at q
    have : (tq_sv f M + tq_u64 (f M) * 2 ^ (64 * M)) / 2 ^ (64 * M) = 2 ^ 63 := by rw [q]; exact Nat.mul_div_cancel _ p
    rw [Nat.add_mul_div_right _ _ p, Nat.div_eq_of_lt hl] at this
    omega
theorem tq_isNegative_spec {N : Nat} (h1 : 1 ≤ N) (hN : N ≤ 8) (f : Nat → Int64) : ∃ r, f_isNegative N f = some r ∧ ((tq_sv f N < 2 ^ (64 * N - 1) ∧ r = 0) ∨ (2 ^ (64 * N - 1) ≤ tq_sv f N ∧ r = 1)) := by
  unfold f_isNegative
  rw [tq_nI_sub h1 (by omega), if_neg (tq_nI_ok (by omega) (by omega)), tq_nI_cl (by omega)]
  obtain ⟨M, rfl⟩ : ∃ M, N = M + 1 := ⟨N - 1, by omega⟩
  have e0 : M + 1 - 1 = M := by omega
  rw [e0]
  have e1 : 64 * (M + 1) - 1 = 63 + 64 * M := by omega
  rw [e1, Nat.pow_add, tq_sv]
  have hl := tq_sv_lt f M
  have hu := tq_i64_u (f M)
  have c0 : ((0 : Int64)).toInt = 0 := rfl
  by_cases h : 0 ≤ lg_cmp (f M) 0
  · rw [if_pos h]
    rw [tq_cmp_ge, c0] at h
    refine ⟨0, rfl, .inl ⟨?_, rfl⟩⟩
    have hh : tq_u64 (f M) < 2 ^ 63 := by have := tq_u64_lt (f M); split at hu <;> omega
    have : (tq_u64 (f M) + 1) * 2 ^ (64 * M) ≤ 2 ^ 63 * 2 ^ (64 * M) := Nat.mul_le_mul_right _ hh
    rw [Nat.add_mul] at this; omega
  · rw [if_neg h]
    rw [tq_cmp_ge, c0] at h
    refine ⟨1, rfl, .inr ⟨?_, rfl⟩⟩
    have hh : 2 ^ 63 ≤ tq_u64 (f M) := by split at hu <;> omega
    have : 2 ^ 63 * 2 ^ (64 * M) ≤ tq_u64 (f M) * 2 ^ (64 * M) := Nat.mul_le_mul_right _ hh
    omega
theorem tq_include_spec {N : Nat} (h1 : 1 ≤ N) (hN : N ≤ 8) (f f1 : Nat → Int64) : ∃ g, f_include N f N f1 = some g ∧
    tq_sv g N = if tq_sv f N = 2 ^ (64 * N - 1) ∨ tq_sv f1 N = 2 ^ (64 * N - 1) then 2 ^ (64 * N - 1) else (tq_sv f N + tq_sv f1 N) % 2 ^ (64 * N) := by
  unfold f_include f_include_b14 tq_bd
  obtain ⟨r, e, hr⟩ := tq_isNot_spec h1 hN f
  obtain ⟨r', e', hr'⟩ := tq_isNot_spec h1 hN f1
  obtain ⟨gn, en, hn⟩ := tq_setNot_spec h1 hN f
  rw [e, e', en]
  show ∃ g, (if ¬ r = 0 then some gn else if r' = 0 then f_include_b24 N N f1 9 0 0 f else some gn) = some g ∧ _
  rcases hr with ⟨a, rfl⟩ | ⟨a, rfl⟩
  · refine ⟨gn, rfl, ?_⟩
    rw [if_pos (.inl a)]; exact hn
  · rw [if_neg (by simp)]
    rcases hr' with ⟨a', rfl⟩ | ⟨a', rfl⟩
    · refine ⟨gn, rfl, ?_⟩
      rw [if_pos (.inr a')]; exact hn
    · rw [if_pos rfl]
      obtain ⟨g, c, e, hc, hs⟩ := tq_include_loop (N := N) (by omega) f f1 9 0 0 f (by omega) (by omega) (by decide) (fun _ _ => rfl) (by simp [tq_sv]; decide)
      refine ⟨g, e, ?_⟩
      rw [if_neg (by omega), ← hs, Nat.add_mul_mod_self_right, Nat.mod_eq_of_lt (tq_sv_lt g N)]
theorem tq_nI_pred {i : Nat} (hi : i < 2 ^ 31) : (nI (i + 1) + (-1 : Int32)) = nI i := by
  rw [← tq_nI_add, Int32.add_assoc]; show nI i + 0 = nI i; exact Int32.add_zero _
theorem tq_topBit_loop {N : Nat} (hN : N ≤ 8) (f : Nat → Int64) : ∀ i n, i ≤ N → i < n → tq_sv f N = tq_sv f i →
    ∃ r, f_topBit_b8 N f n (nI i + (-1)) = some r ∧ ((tq_sv f N = 0 ∧ r = -1) ∨ ∃ T : Nat, T < 64 * N ∧ r.toInt = T ∧ 2 ^ T ≤ tq_sv f N ∧ tq_sv f N < 2 ^ (T + 1))
  | 0, n, h1, h2, hs => by
    obtain ⟨m, rfl⟩ : ∃ m, n = m + 1 := ⟨n - 1, by omega⟩
    unfold f_topBit_b8
    refine ⟨-1, ?_, .inl ⟨hs, rfl⟩⟩
    rw [if_pos (by decide)]
  | i + 1, n, h1, h2, hs => by
    obtain ⟨m, rfl⟩ : ∃ m, n = m + 1 := ⟨n - 1, by omega⟩
    unfold f_topBit_b8
    rw [tq_nI_pred (by omega), if_neg (tq_nI_nn (by omega)), if_neg (tq_nI_ok (by omega) (by omega)), if_neg (tq_nI_ok (by omega) (by omega)), tq_nI_cl (by omega)]
    by_cases h : lg_cmp (f i) 0 = 0
    · rw [if_pos h]
      rw [tq_cmp_eq] at h
      apply tq_topBit_loop hN f i m (by omega) (by omega)
      rw [hs, tq_sv, h]; show _ + 0 * _ = _; simp
    · rw [if_neg h]
      rw [tq_cmp_eq] at h
      obtain ⟨t, a1, a2, a3, a4⟩ := tq_lnlz_spec h
      have c64 : ((64 : Int32)).toInt = 64 := rfl
      have c63 : ((63 : Int32)).toInt = 63 := rfl
      have hi := tq_nI_i (n := i) (by omega)
      have e64 : ((64 : Int32) * nI i).toInt = 64 * i := by rw [tq_i32_mul (by rw [hi, c64]; omega), hi, c64]
      have e127 : ((64 : Int32) * nI i + 63).toInt = 64 * i + 63 := by rw [tq_i32_add (by rw [e64, c63]; omega), e64, c63]
      refine ⟨_, rfl, .inr ⟨64 * i + t, by omega, ?_, ?_, ?_⟩⟩
      · rw [tq_i32_sub (by rw [e127, a2]; omega), e127, a2]; omega
      · rw [hs, tq_sv, Nat.pow_add, Nat.mul_comm]
        have := Nat.mul_le_mul_right (2 ^ (64 * i)) a3
        omega
      · have e : 64 * i + t + 1 = 64 * i + (t + 1) := by omega
        rw [hs, tq_sv, e, Nat.pow_add, Nat.mul_comm (2 ^ (64 * i)) (2 ^ (t + 1))]
        have := Nat.mul_le_mul_right (2 ^ (64 * i)) (show tq_u64 (f i) + 1 ≤ _ from a4)
        rw [Nat.add_mul] at this
        have := tq_sv_lt f i
        omega
theorem tq_topBit_spec {N : Nat} (h1 : 1 ≤ N) (hN : N ≤ 8) (f : Nat → Int64) : ∃ r, f_topBit N f = some r ∧ ((tq_sv f N = 0 ∧ r = -1) ∨ ∃ T : Nat, T < 64 * N ∧ r.toInt = T ∧ 2 ^ T ≤ tq_sv f N ∧ tq_sv f N < 2 ^ (T + 1)) :=
  by
    unfold f_topBit tq_nm
    dsimp only
    rw [Int32.sub_eq_add_neg]
    exact tq_topBit_loop hN f N 9 (by omega) (by omega) rfl

theorem tq_leading_spec {N : Nat} (hN : N ≤ 8) (f : Nat → Int64) {top : Int32} {T : Nat} (hT : top.toInt = T) (hTN : T < 64 * N) (h2 : tq_sv f N < 2 ^ (T + 1)) :
    ∃ r, f_leadingBits N f top = some r ∧ tq_u64 r = (if 63 ≤ T then tq_sv f N / 2 ^ (T - 63) else tq_sv f N * 2 ^ (63 - T)) := by
  unfold f_leadingBits tq_nm
  dsimp only
  have e6 : (top >>> ((6 : Int32) &&& 31)).toInt = ((T / 64 : Nat) : Int) := by
    rw [tq_i32_shr (k := 6) rfl (by omega), hT]; omega
  rw [tq_of_i32 e6]
  have c0 : ((0 : Int32)).toInt = 0 := rfl
  have c63 : ((63 : Int32)).toInt = 63 := rfl
  have em : (top &&& 63).toInt = ((T % 64 : Nat) : Int) := by
    apply tq_i32_of_u
    · rw [tq_u32_and, tq_u32_of_i hT]
      have : tq_u32 (63 : Int32) = 2 ^ 6 - 1 := rfl
      rw [this, Nat.and_two_pow_sub_one_eq_mod]
    · omega
  have es : ((63 : Int32) - (top &&& 63)).toInt = ((63 - T % 64 : Nat) : Int) := by
    rw [tq_i32_sub (by rw [c63, em]; omega), c63, em]; omega
  have es2 : ((63 : Int32) - ((63 : Int32) - (top &&& 63))).toInt = ((T % 64 : Nat) : Int) := by
    rw [tq_i32_sub (by rw [c63, es]; omega), c63, es]; omega
  rw [if_neg (tq_nI_nn (by omega)), if_pos ((tq_nI_lt (by omega) (by omega)).2 (by omega))]
  have eN : tq_sv f N = tq_sv f (T / 64 + 1) := by
    obtain ⟨r, h1, _⟩ := tq_sv_split f (T / 64 + 1) (N - (T / 64 + 1))
    have e : T / 64 + 1 + (N - (T / 64 + 1)) = N := by omega
    rw [e] at h1
    have : 2 ^ (T + 1) ≤ 2 ^ (64 * (T / 64 + 1)) := Nat.pow_le_pow_right (by omega) (by omega)
    rcases Nat.eq_zero_or_pos r with q | q
    · rw [h1, q]; simp
    · have := Nat.mul_le_mul_left (2 ^ (64 * (T / 64 + 1))) q
      omega
  have eT : T = 64 * (T / 64) + T % 64 := by omega
  have hm : T % 64 < 64 := by omega
  generalize hidx : T / 64 = i at *
  generalize hmm : T % 64 = m at *
  have hw : tq_u64 (f i) < 2 ^ (m + 1) := by
    rw [eN, tq_sv] at h2
    have e : T + 1 = (m + 1) + 64 * i := by omega
    rw [e, Nat.pow_add] at h2
    have : tq_u64 (f i) * 2 ^ (64 * i) < 2 ^ (m + 1) * 2 ^ (64 * i) := by omega
    exact Nat.lt_of_mul_lt_mul_right this
  have hsh := tq_u64_shl (x := f i) es (by omega)
  have hw2 : tq_u64 (f i) * 2 ^ (63 - m) % 2 ^ 64 = tq_u64 (f i) * 2 ^ (63 - m) := by
    apply Nat.mod_eq_of_lt
    have e : 2 ^ 64 = 2 ^ (m + 1) * 2 ^ (63 - m) := by rw [← Nat.pow_add]; congr 1; omega
    rw [e]
    exact Nat.mul_lt_mul_of_pos_right hw (Nat.two_pow_pos _)
  have main : ∀ b : Int64, ∃ r, f_leadingBits_b44 N f (nI i) (63 - (top &&& 63)) b = some r ∧ tq_u64 r = tq_u64 (f i) * 2 ^ (63 - m) + tq_u64 b / 2 ^ (m + 1) := by
    intro b
    unfold f_leadingBits_b44
    rw [if_neg (tq_nI_ok (by omega) (by omega)), tq_nI_cl (by omega)]
    refine ⟨_, rfl, ?_⟩
    have hb := tq_u64_ushr (x := b) (y := 1) (k := 1) rfl (by omega)
    have hb2 := tq_u64_ushr (x := (b.toUInt64 >>> ((1 : Int32).toInt64.toUInt64 &&& Int64.toUInt64 63)).toInt64) es2 (by omega)
    rw [hb, Nat.div_div_eq_div_mul, ← Nat.pow_add, Nat.add_comm 1 m] at hb2
    rw [tq_u64_or, hsh, hw2, hb2, Nat.mul_comm]
    have hlt : tq_u64 b / 2 ^ (m + 1) < 2 ^ (63 - m) := by
      rw [Nat.div_lt_iff_lt_mul (Nat.two_pow_pos _), ← Nat.pow_add]
      have e : 63 - m + (m + 1) = 64 := by omega
      rw [e]; exact tq_u64_lt b
    exact (Nat.two_pow_add_eq_or_of_lt hlt _).symm
  by_cases hi : nI i ≤ 0
  · rw [if_pos hi]
    rw [Int32.le_iff_toInt_le, tq_nI_i (by omega), c0] at hi
    have hi : i = 0 := by omega
    subst hi
    obtain ⟨r, e, hr⟩ := main 0
    refine ⟨r, e, ?_⟩
    have z : tq_u64 (0 : Int64) = 0 := rfl
    rw [hr, z, eN, Nat.zero_div, tq_sv, tq_sv]
    simp only [Nat.mul_zero, Nat.pow_zero, Nat.mul_one, Nat.zero_add, Nat.add_zero]
    split
    · have : m = 63 := by omega
      have : T = 63 := by omega
      subst this; subst m; simp
    · have : T = m := by omega
      rw [this]
  · rw [if_neg hi]
    rw [Int32.le_iff_toInt_le, tq_nI_i (by omega), c0] at hi
    obtain ⟨k, rfl⟩ : ∃ k, i = k + 1 := ⟨i - 1, by omega⟩
    rw [tq_nI_sub (by omega) (by omega)]
    rw [if_neg (tq_nI_ok (by omega) (by omega)), tq_nI_cl (by omega)]
    obtain ⟨r, e, hr⟩ := main (f (k + 1 - 1))
    refine ⟨r, e, ?_⟩
    rw [if_pos (by omega), hr, eN]
    have e0 : k + 1 - 1 = k := by omega
    rw [e0]
    have eT2 : T - 63 = 64 * k + (m + 1) := by omega
    rw [eT2, Nat.pow_add (2) (64 * k) (m + 1), ← Nat.div_div_eq_div_mul _ (2 ^ (64 * k))]
    have e3 : tq_sv f (k + 1 + 1) = tq_sv f k + (tq_u64 (f k) + tq_u64 (f (k + 1)) * 2 ^ 64) * 2 ^ (64 * k) := by
      rw [tq_sv, tq_sv, tq_p64, Nat.add_mul, Nat.mul_assoc]; omega
    rw [e3, Nat.add_mul_div_right _ _ (Nat.two_pow_pos _), Nat.div_eq_of_lt (tq_sv_lt f k), Nat.zero_add]
    have e4 : 2 ^ 64 = 2 ^ (63 - m) * 2 ^ (m + 1) := by rw [← Nat.pow_add, show 63 - m + (m + 1) = 64 by omega]
    rw [e4, ← Nat.mul_assoc, Nat.add_mul_div_right _ _ (Nat.two_pow_pos _)]; omega
theorem tq_setBits_spec {N : Nat} (hN : N ≤ 8) {f : Nat → Int64} (hf : ∀ j, j < N → f j = 0) {value : Int64} {pos : Int32} {P : Nat} (hP : pos.toInt = P) (hPN : P < 64 * N) (hv : tq_u64 value * 2 ^ P < 2 ^ (64 * N)) :
    ∃ g, f_setBits N f value pos = some g ∧ tq_sv g N = tq_u64 value * 2 ^ P := by
  unfold f_setBits tq_nm
  dsimp only
  have e6 : (pos >>> ((6 : Int32) &&& 31)).toInt = ((P / 64 : Nat) : Int) := by
    rw [tq_i32_shr (k := 6) rfl (by omega), hP]; omega
  rw [tq_of_i32 e6]
  have c63 : ((63 : Int32)).toInt = 63 := rfl
  have em : (pos &&& 63).toInt = ((P % 64 : Nat) : Int) := by
    apply tq_i32_of_u
    · rw [tq_u32_and, tq_u32_of_i hP]
      have : tq_u32 (63 : Int32) = 2 ^ 6 - 1 := rfl
      rw [this, Nat.and_two_pow_sub_one_eq_mod]
    · omega
  have es : ((63 : Int32) - (pos &&& 63)).toInt = ((63 - P % 64 : Nat) : Int) := by
    rw [tq_i32_sub (by rw [c63, em]; omega), c63, em]; omega
  rw [if_neg (tq_nI_nn (by omega)), if_neg (fun q => absurd ((tq_nI_le (by omega) (by omega)).1 q) (by omega)), if_neg (tq_nI_ok (by omega) (by omega)), tq_nI_cl (by omega)]
  have eP : P = P % 64 + 64 * (P / 64) := by omega
  have hm : P % 64 < 64 := by omega
  generalize hidx : P / 64 = i at *
  generalize hmm : P % 64 = m at *
  have hsh := tq_u64_shl (x := value) em (by omega)
  generalize value <<< ((pos &&& 63).toInt64 &&& 63) = lo at *
  have hb := tq_u64_ushr (x := value) (y := 1) (k := 1) rfl (by omega)
  have hb2 := tq_u64_ushr (x := (value.toUInt64 >>> ((1 : Int32).toInt64.toUInt64 &&& Int64.toUInt64 63)).toInt64) es (by omega)
  have e1 : 1 + (63 - m) = 64 - m := by omega
  rw [hb, Nat.div_div_eq_div_mul, ← Nat.pow_add, e1] at hb2
  unfold f_setBits_b38
  rw [if_neg (tq_nI_nn (by omega)), tq_nI_add]
  generalize (((value.toUInt64 >>> ((1 : Int32).toInt64.toUInt64 &&& Int64.toUInt64 63)).toInt64).toUInt64 >>> (((63 : Int32) - (pos &&& 63)).toInt64.toUInt64 &&& Int64.toUInt64 63)).toInt64 = hi at *
  have hval : tq_u64 value * 2 ^ m = tq_u64 lo + tq_u64 hi * 2 ^ 64 := by
    rw [hsh, hb2]
    have e : 2 ^ 64 = 2 ^ (64 - m) * 2 ^ m := by rw [← Nat.pow_add]; congr 1; omega
    rw [e, Nat.mul_mod_mul_right, ← Nat.mul_assoc, ← Nat.add_mul]
    congr 1
    have := Nat.mod_add_div (tq_u64 value) (2 ^ (64 - m))
    rw [Nat.mul_comm (tq_u64 value / _)]; omega
  have hPv : tq_u64 value * 2 ^ P = tq_u64 lo * 2 ^ (64 * i) + tq_u64 hi * 2 ^ (64 * (i + 1)) := by
    rw [eP, Nat.pow_add, ← Nat.mul_assoc, hval, Nat.add_mul, tq_p64, Nat.mul_assoc]
  have z : tq_u64 (0 : Int64) = 0 := rfl
  have tail : ∀ (g : Nat → Int64) (a : Nat), a ≤ N → (∀ j, a ≤ j → j < N → g j = 0) → tq_sv g N = tq_sv g a := by
    intro g a ha hg
    obtain ⟨d, rfl⟩ : ∃ d, N = a + d := ⟨N - a, by omega⟩
    clear hv hPN
    have : ∀ d', d' ≤ d → tq_sv g (a + d') = tq_sv g a := by
      intro d'
      induction d' with
      | zero => intro _; rfl
      | succ d' ih =>
        intro h
        show tq_sv g (a + d') + tq_u64 (g (a + d')) * _ = _
        rw [ih (by omega), hg _ (by omega) (by omega), z]; simp
    exact this d (Nat.le_refl _)
  by_cases h : N ≤ i + 1
  · rw [if_pos ((tq_nI_le (by omega) (by omega)).2 h)]
    refine ⟨_, rfl, ?_⟩
    have : N = i + 1 := by omega
    subst this
    rw [hPv] at hv
    rw [tq_sv, tq_sv_upd, tq_upd_at, tq_sv_zero (fun j hj => hf j (by omega)), hPv]
    rcases Nat.eq_zero_or_pos (tq_u64 hi) with q | q
    · rw [q]; simp
    · have := Nat.mul_le_mul_right (2 ^ (64 * (i + 1))) q
      omega
  · rw [if_neg (fun q => h ((tq_nI_le (by omega) (by omega)).1 q)), if_neg (tq_nI_ok (by omega) (by omega)), tq_nI_cl (by omega)]
    refine ⟨_, rfl, ?_⟩
    rw [tail _ (i + 2) (by omega), tq_sv, tq_sv, tq_sv_congr (g := f) (fun j hj => by rw [tq_upd_ne (by omega), tq_upd_ne (by omega)]), tq_upd_at, tq_upd_ne (by omega), tq_upd_at, tq_sv_zero (fun j hj => hf j (by omega)), hPv, Nat.zero_add]
    intro j h1 h2
    rw [tq_upd_ne (by omega), tq_upd_ne (by omega)]; exact hf j h2
