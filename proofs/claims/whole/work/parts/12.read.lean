theorem tq_u64_of_32 (x : Int32) : tq_u64 (x.toInt64 &&& 4294967295) = tq_u32 x := by
  rw [tq_u64_and]
  have h1 := tq_u64_i x.toInt64
  rw [tq_i64_of_32] at h1
  have h2 := tq_u32_i x
  have : tq_u64 (4294967295 : Int64) = 2 ^ 32 - 1 := rfl
  rw [this, Nat.and_two_pow_sub_one_eq_mod]
  omega
theorem tq_or_add {a b k : Nat} (h : b < 2 ^ k) : 2 ^ k * a ||| b = 2 ^ k * a + b := (Nat.two_pow_add_eq_or_of_lt h a).symm
theorem tq_odd_le {t c m : Nat} (h : 2 ^ t * (2 * c + 1) < 2 ^ m) : t < m := by
  rcases Nat.lt_or_ge t m with h5 | h5
  · exact h5
  · have := Nat.pow_le_pow_right (n := 2) (by omega) h5
    have : 2 ^ t * 1 ≤ 2 ^ t * (2 * c + 1) := Nat.mul_le_mul_left _ (by omega)
    omega
theorem tq_readBody_b37 {body v3 t0 : Int32} {k Z : Nat} {r : Int} (hk : v3.toInt = k) (hk2 : k < 32) (hZ : tq_u32 body * 2 ^ (k + 1) % 2 ^ 32 = Z) (hr : t0.toInt = r) (hr2 : -40 ≤ r ∧ r ≤ 40)
    (nt0 ng0 : Int32) (mg0 : Int64) (ex0 : Int32) : ∃ (t c : Nat) (mg : Int64) (ex : Int32), 2 ^ 32 + 4 * Z % 2 ^ 32 = 2 ^ t * (2 * c + 1) ∧ t ≤ 32 ∧ f_readBody_b37 body v3 t0 nt0 ng0 mg0 ex0 = (nt0, ng0, mg, ex) ∧ mg.toInt = ((2 * c + 1 : Nat) : Int) ∧ ex.toInt = 4 * r + (Z / 2 ^ 30 : Nat) - 32 + t := by
  unfold f_readBody_b37 tq_nm
  dsimp only
  have h6 : tq_u32 ((body <<< (v3 &&& 31)) <<< ((1 : Int32) &&& 31)) = Z := by
    rw [tq_u32_shl (k := 1) rfl (by omega), tq_u32_shl hk hk2, Nat.mod_mul_mod, Nat.mul_assoc, ← Nat.pow_add, hZ]
  have hZl : Z < 2 ^ 32 := by omega
  generalize (body <<< (v3 &&& 31)) <<< ((1 : Int32) &&& 31) = x6 at *
  have h30 : ((x6.toUInt32 >>> ((30 : Int32).toUInt32 &&& Int32.toUInt32 31)).toInt32).toInt = ((Z / 2 ^ 30 : Nat) : Int) := by
    apply tq_i32_of_u
    · rw [tq_u32_ushr (k := 30) rfl (by omega), h6]
    · omega
  have c4 : ((4 : Int32)).toInt = 4 := rfl
  have e4 : ((4 : Int32) * t0).toInt = 4 * r := by rw [tq_i32_mul (by rw [hr, c4]; omega), hr, c4]
  have h7 : ((4 : Int32) * t0 + ((x6.toUInt32 >>> ((30 : Int32).toUInt32 &&& Int32.toUInt32 31)).toInt32)).toInt = 4 * r + (Z / 2 ^ 30 : Nat) := by
    rw [tq_i32_add (by rw [e4, h30]; omega), e4, h30]
  generalize (4 : Int32) * t0 + ((x6.toUInt32 >>> ((30 : Int32).toUInt32 &&& Int32.toUInt32 31)).toInt32) = x7 at *
  have h8 : tq_u64 (((x6 <<< ((2 : Int32) &&& 31)).toInt64) &&& (4294967295 : Int64)) = 4 * Z % 2 ^ 32 := by
    rw [tq_u64_of_32, tq_u32_shl (k := 2) rfl (by omega), h6]; omega
  generalize ((x6 <<< ((2 : Int32) &&& 31)).toInt64) &&& (4294967295 : Int64) = x8 at *
  have h9 : tq_u64 ((4294967296 : Int64) ||| x8) = 2 ^ 32 + 4 * Z % 2 ^ 32 := by
    rw [tq_u64_or, h8]
    have : tq_u64 (4294967296 : Int64) = 2 ^ 32 * 1 := rfl
    rw [this, tq_or_add (by omega)]
  generalize (4294967296 : Int64) ||| x8 = x9 at *
  obtain ⟨t, c, hc⟩ := tq_odd_part (2 ^ 32 + 4 * Z % 2 ^ 32) (by omega)
  have hl := tq_lntz_spec (h9.trans hc)
  have ht : t < 33 := tq_odd_le (c := c) (by rw [← hc]; omega)
  have hi9 : x9.toInt = ((2 ^ t * (2 * c + 1) : Nat) : Int) := tq_i64_of_u (h9.trans hc) (by omega)
  refine ⟨t, c, x9 >>> ((f_lntz x9).toInt64 &&& 63), (x7 - 32) + f_lntz x9, hc, by omega, rfl, ?_, ?_⟩
  · rw [tq_i64_shr hl (by omega), hi9]
    have : (2 : Int) ^ t = ((2 ^ t : Nat) : Int) := by norm_cast
    rw [this, ← Int.natCast_ediv, Nat.mul_div_cancel_left _ (Nat.two_pow_pos t)]
  · have c32 : ((32 : Int32)).toInt = 32 := rfl
    have e1 : (x7 - 32).toInt = 4 * r + (Z / 2 ^ 30 : Nat) - 32 := by rw [tq_i32_sub (by rw [h7, c32]; omega), h7, c32]
    rw [tq_i32_add (by rw [e1, hl]; omega), e1, hl]
/-- where in its row of bits a body stands: behind the run and its end, Z (of 2^32) -/
def tq_Body (B : Nat) (r : Int) (Z : Nat) : Prop :=
  Z < 2 ^ 32 ∧ ((0 ≤ r ∧ r ≤ 30 ∧ B * 2 ^ (r.toNat + 2) + 2 ^ 33 = 2 ^ 32 * 2 ^ (r.toNat + 2) + Z) ∨ (r < 0 ∧ -31 ≤ r ∧ B * 2 ^ ((-r).toNat + 1) = 2 ^ 32 + Z))
theorem tq_readBody_spec {body : Int32} (h0 : tq_u32 body ≠ 0) (he : tq_u32 body % 2 = 0) (nt0 ng0 : Int32) (mg0 : Int64) (ex0 : Int32) :
    ∃ (r : Int) (Z t c : Nat) (mg : Int64) (ex : Int32), tq_Body (tq_u32 body) r Z ∧ 2 ^ 32 + 4 * Z % 2 ^ 32 = 2 ^ t * (2 * c + 1) ∧ t ≤ 32 ∧ f_readBody nt0 ng0 mg0 ex0 body = (nt0, ng0, mg, ex) ∧ mg.toInt = ((2 * c + 1 : Nat) : Int) ∧ ex.toInt = 4 * r + (Z / 2 ^ 30 : Nat) - 32 + t := by
  have hu := tq_i32_u body
  have hl := tq_u32_lt body
  have c0 : ((0 : Int32)).toInt = 0 := rfl
  by_cases h : 0 ≤ body
  · have e : f_readBody nt0 ng0 mg0 ex0 body = f_readBody_b37 body (f_inlz body) (-(f_inlz body)) nt0 ng0 mg0 ex0 := by
      unfold f_readBody f_readBody_b9 f_readBody_b21; rw [if_pos h, if_pos rfl, tq_nm_e, if_pos rfl]
    rw [e]
    rw [Int32.le_iff_toInt_le, c0] at h
    have h31 : tq_u32 body < 2 ^ 31 := by split at hu <;> omega
    have nz : body ≠ 0 := fun q => h0 (by rw [q]; rfl)
    obtain ⟨t, a1, a2, a3, a4⟩ := tq_inlz_spec nz
    have t31 : t < 31 := by
      rcases Nat.lt_or_ge t 31 with q | q
      · exact q
      · have := Nat.pow_le_pow_right (n := 2) (by omega) q; omega
    have hk : (f_inlz body).toInt = ((31 - t : Nat) : Int) := by rw [a2]; omega
    have hng : (-(f_inlz body)).toInt = -((31 - t : Nat) : Int) := by rw [tq_i32_neg (by rw [hk]; omega), hk]
    have e1 : 2 ^ t * 2 ^ (31 - t + 1) = 2 ^ 32 := by rw [← Nat.pow_add, show t + (31 - t + 1) = 32 by omega]
    have e2 : 2 ^ (t + 1) * 2 ^ (31 - t + 1) = 2 ^ 33 := by rw [← Nat.pow_add, show t + 1 + (31 - t + 1) = 33 by omega]
    have b1 := Nat.mul_le_mul_right (2 ^ (31 - t + 1)) a3
    have b2 := Nat.mul_lt_mul_of_pos_right a4 (Nat.two_pow_pos (31 - t + 1))
    rw [e1] at b1; rw [e2] at b2
    have hZ : tq_u32 body * 2 ^ (31 - t + 1) % 2 ^ 32 = tq_u32 body * 2 ^ (31 - t + 1) - 2 ^ 32 := by omega
    obtain ⟨t', c, mg, ex, q1, q2, q3, q4, q5⟩ := tq_readBody_b37 hk (by omega) hZ hng (by omega) nt0 ng0 mg0 ex0
    refine ⟨_, _, t', c, mg, ex, ⟨by omega, .inr ⟨by omega, by omega, ?_⟩⟩, q1, q2, q3, q4, q5⟩
    have : (-(-((31 - t : Nat) : Int))).toNat = 31 - t := by omega
    rw [this]; omega
  · have e : f_readBody nt0 ng0 mg0 ex0 body = f_readBody_b37 body (f_inlz (body ^^^ (-1))) (f_inlz (body ^^^ (-1)) - 1) nt0 ng0 mg0 ex0 := by
      unfold f_readBody f_readBody_b9 f_readBody_b21; rw [if_neg h, if_neg (by decide), tq_nm_e, if_neg (by decide)]
    rw [e]
    rw [Int32.le_iff_toInt_le, c0] at h
    have h31 : 2 ^ 31 ≤ tq_u32 body := by split at hu <;> omega
    have hn := tq_u32_not body
    have nz : body ^^^ (-1) ≠ 0 := by
      intro q; rw [q] at hn; have : tq_u32 (0 : Int32) = 0 := rfl; omega
    obtain ⟨t, a1, a2, a3, a4⟩ := tq_inlz_spec nz
    rw [hn] at a3 a4
    have t31 : t < 31 := by
      rcases Nat.lt_or_ge t 31 with q | q
      · exact q
      · have := Nat.pow_le_pow_right (n := 2) (by omega) q; omega
    have hk : (f_inlz (body ^^^ (-1))).toInt = ((31 - t : Nat) : Int) := by rw [a2]; omega
    have c1 : ((1 : Int32)).toInt = 1 := rfl
    have hng : (f_inlz (body ^^^ (-1)) - 1).toInt = ((30 - t : Nat) : Int) := by rw [tq_i32_sub (by rw [hk, c1]; omega), hk, c1]; omega
    have e1 : 2 ^ t * 2 ^ (31 - t + 1) = 2 ^ 32 := by rw [← Nat.pow_add, show t + (31 - t + 1) = 32 by omega]
    have e2 : 2 ^ (t + 1) * 2 ^ (31 - t + 1) = 2 ^ 33 := by rw [← Nat.pow_add, show t + 1 + (31 - t + 1) = 33 by omega]
    have k1 := Nat.mul_le_mul_right (2 ^ (31 - t + 1)) (show 2 ^ t + (tq_u32 body + 1) ≤ 2 ^ 32 by omega)
    have k2 := Nat.mul_le_mul_right (2 ^ (31 - t + 1)) (show 2 ^ 32 ≤ 2 ^ (t + 1) + tq_u32 body by omega)
    rw [Nat.add_mul, Nat.add_mul, e1] at k1
    rw [Nat.add_mul, e2] at k2
    have e3 : 2 ^ 32 * 2 ^ (31 - t + 1) = 2 ^ 33 * 2 ^ (31 - t) := by
      rw [Nat.pow_succ 2 (31 - t)]; omega
    have p := Nat.two_pow_pos (31 - t)
    have hZ : tq_u32 body * 2 ^ (31 - t + 1) % 2 ^ 32 = tq_u32 body * 2 ^ (31 - t + 1) + 2 ^ 33 - 2 ^ 32 * 2 ^ (31 - t + 1) := by
      omega
    obtain ⟨t', c, mg, ex, q1, q2, q3, q4, q5⟩ := tq_readBody_b37 hk (by omega) hZ hng (by omega) nt0 ng0 mg0 ex0
    refine ⟨_, _, t', c, mg, ex, ⟨by omega, .inl ⟨by omega, by omega, ?_⟩⟩, q1, q2, q3, q4, q5⟩
    have : (((30 - t : Nat) : Int)).toNat + 2 = 31 - t + 1 := by omega
    rw [this]; omega

/-- the pattern of n bits that an int hands in -/
def tq_pat (n : Nat) (x : Int32) : Int := if tq_u32 x % 2 ^ n < 2 ^ (n - 1) then ((tq_u32 x % 2 ^ n : Nat) : Int) else ((tq_u32 x % 2 ^ n : Nat) : Int) - 2 ^ n
def tq_Sz (size : Int32) (n : Nat) : Prop := size.toInt = n ∧ (n = 8 ∨ n = 16 ∨ n = 32)
theorem tq_pat_rng {n : Nat} {x : Int32} (hn : n = 8 ∨ n = 16 ∨ n = 32) : -2 ^ (n - 1) ≤ tq_pat n x ∧ tq_pat n x < 2 ^ (n - 1) := by
  unfold tq_pat
  rcases hn with rfl | rfl | rfl <;> split <;> omega
theorem tq_patternOf_spec {size : Int32} {n : Nat} (h : tq_Sz size n) (x : Int32) : (f_patternOf x size).toInt = tq_pat n x := by
  unfold f_patternOf tq_pat
  have c32 : ((32 : Int32)).toInt = 32 := rfl
  have hl := tq_u32_lt x
  obtain ⟨h1, h2⟩ := h
  have hs : ((32 : Int32) - size).toInt = ((32 - n : Nat) : Int) := by rw [tq_i32_sub (by rw [c32, h1]; omega), c32, h1]; omega
  rw [tq_i32_shr hs (by omega), tq_i32_u, tq_u32_shl hs (by omega)]
  rcases h2 with rfl | rfl | rfl
  · show (if tq_u32 x * 2 ^ 24 % 2 ^ 32 < 2 ^ 31 then _ else _) / 2 ^ 24 = _
    split <;> split <;> omega
  · show (if tq_u32 x * 2 ^ 16 % 2 ^ 32 < 2 ^ 31 then _ else _) / 2 ^ 16 = _
    split <;> split <;> omega
  · show (if tq_u32 x * 2 ^ 0 % 2 ^ 32 < 2 ^ 31 then _ else _) / 2 ^ 0 = _
    split <;> split <;> omega
theorem tq_notOf_spec {size : Int32} {n : Nat} (h : tq_Sz size n) : (f_notOf size).toInt = -2 ^ (n - 1) := by
  obtain ⟨h1, h2⟩ := h
  have e := tq_of_i32 h1
  rcases h2 with rfl | rfl | rfl <;> subst e <;> decide
theorem tq_one_spec {size : Int32} {n : Nat} (h : tq_Sz size n) : (f_one size).toInt = 2 ^ (n - 2) := by
  obtain ⟨h1, h2⟩ := h
  have e := tq_of_i32 h1
  rcases h2 with rfl | rfl | rfl <;> subst e <;> decide
theorem tq_sizeOfWidth_spec (w : Int32) : tq_Sz (f_sizeOfWidth w) (if w = 0 then 8 else if w = 1 then 16 else 32) := by
  unfold f_sizeOfWidth tq_Sz
  by_cases h : w = 0
  · rw [if_neg (by simpa using h), if_pos h]; exact ⟨rfl, by omega⟩
  · rw [if_pos h, if_neg h]
    by_cases h : w = 1
    · rw [if_neg (by simpa using h), if_pos h]; exact ⟨rfl, by omega⟩
    · rw [if_pos h, if_neg h]; exact ⟨rfl, by omega⟩
def tq_Op (n : Nat) (p : Int) (nt ng : Int32) (mg : Int64) (ex : Int32) : Prop :=
  (nt = if p = -2 ^ (n - 1) then 1 else 0) ∧ (ng = if p < 0 then 1 else 0) ∧
  ((p = 0 ∨ p = -2 ^ (n - 1)) → mg = 0 ∧ ex = 0) ∧
  (p ≠ 0 → p ≠ -2 ^ (n - 1) → ∃ (r : Int) (Z t c : Nat), tq_Body (p.natAbs * 2 ^ (33 - n)) r Z ∧ 2 ^ 32 + 4 * Z % 2 ^ 32 = 2 ^ t * (2 * c + 1) ∧ t ≤ 32 ∧ mg.toInt = ((2 * c + 1 : Nat) : Int) ∧ ex.toInt = 4 * r + (Z / 2 ^ 30 : Nat) - 32 + t)
theorem tq_read_b33 {size : Int32} {n : Nat} (h : tq_Sz size n) {v3 : Int32} (hr : -2 ^ (n - 1) ≤ v3.toInt ∧ v3.toInt < 2 ^ (n - 1)) {nt ng : Int32} (hnt : nt = if v3.toInt = -2 ^ (n - 1) then 1 else 0) (hng : ng = if v3.toInt < 0 then 1 else 0)
    (ng0 : Int32) (mg0 : Int64) (ex0 : Int32) : ∃ mg ex, f_read_b33 size v3 ng nt ng0 mg0 ex0 = (nt, ng, mg, ex) ∧ tq_Op n v3.toInt nt ng mg ex := by
  have c0 : ((0 : Int32)).toInt = 0 := rfl
  unfold f_read_b33
  by_cases h3 : v3 = 0
  · rw [if_pos h3]
    refine ⟨0, 0, rfl, hnt, hng, fun _ => ⟨rfl, rfl⟩, fun q => absurd (by rw [h3]; rfl) q⟩
  · rw [if_neg h3]
    have n0 : v3.toInt ≠ 0 := fun q => h3 (Int32.toInt.inj q)
    by_cases h4 : v3.toInt = -2 ^ (n - 1)
    · rw [if_pos h4] at hnt
      rw [if_pos (by rw [hnt]; decide)]
      refine ⟨0, 0, rfl, by rw [if_pos h4]; exact hnt, hng, fun _ => ⟨rfl, rfl⟩, fun _ q => absurd h4 q⟩
    · have hnt2 := hnt
      rw [if_neg h4] at hnt2
      rw [if_neg (by rw [hnt2]; decide)]
      obtain ⟨h1, h2⟩ := h
      have hab : (if 0 ≤ v3 then v3 else 0 - v3).toInt = (v3.toInt.natAbs : Int) := by
        by_cases q : 0 ≤ v3
        · rw [if_pos q]; rw [Int32.le_iff_toInt_le, c0] at q; omega
        · rw [if_neg q]; rw [Int32.le_iff_toInt_le, c0] at q
          have : -2 ^ 31 < v3.toInt := by rcases h2 with rfl | rfl | rfl <;> omega
          rw [tq_i32_sub (by rw [c0]; omega), c0]; omega
      generalize (if 0 ≤ v3 then v3 else 0 - v3) = a at *
      have c33 : ((33 : Int32)).toInt = 33 := rfl
      have hs : ((33 : Int32) - size).toInt = ((33 - n : Nat) : Int) := by rw [tq_i32_sub (by rw [c33, h1]; omega), c33, h1]; omega
      have hu : tq_u32 (a <<< (((33 : Int32) - size) &&& 31)) = v3.toInt.natAbs * 2 ^ (33 - n) := by
        rw [tq_u32_shl hs (by omega), tq_u32_of_i hab]
        rcases h2 with rfl | rfl | rfl <;> omega
      generalize a <<< (((33 : Int32) - size) &&& 31) = body at *
      obtain ⟨r, Z, t, c, mg, ex, q1, q2, q3, q4, q5, q6⟩ := tq_readBody_spec (body := body) (by rw [hu]; rcases h2 with rfl | rfl | rfl <;> omega) (by rw [hu]; rcases h2 with rfl | rfl | rfl <;> omega) nt ng 0 0
      rw [q4, tq_nm_e, tq_nm_e, tq_nm_e, tq_nm_e, tq_nm_e]
      refine ⟨mg, ex, rfl, hnt, hng, fun q => absurd q (by omega), fun _ _ => ⟨r, Z, t, c, by rw [← hu]; exact q1, q2, q3, q5, q6⟩⟩
theorem tq_read_spec {size : Int32} {n : Nat} (h : tq_Sz size n) (x : Int32) (nt0 ng0 : Int32) (mg0 : Int64) (ex0 : Int32) :
    ∃ nt ng mg ex, f_read nt0 ng0 mg0 ex0 x size = (nt, ng, mg, ex) ∧ tq_Op n (tq_pat n x) nt ng mg ex := by
  have c0 : ((0 : Int32)).toInt = 0 := rfl
  unfold f_read
  rw [tq_nm_e]
  have hp := tq_patternOf_spec h x
  have hr := tq_pat_rng (x := x) h.2
  have hn := tq_notOf_spec h
  generalize f_patternOf x size = v at *
  rw [← hp] at hr ⊢
  have key : ∀ nt : Int32, (nt = if v.toInt = -2 ^ (n - 1) then 1 else 0) → ∃ nt' ng mg ex, f_read_b20 size v nt nt0 ng0 mg0 ex0 = (nt', ng, mg, ex) ∧ tq_Op n v.toInt nt' ng mg ex := by
    intro nt hnt
    unfold f_read_b20
    by_cases q : 0 ≤ v
    · rw [if_pos q]; rw [Int32.le_iff_toInt_le, c0] at q
      obtain ⟨mg, ex, a, b⟩ := tq_read_b33 h hr hnt (ng := 0) (by rw [if_neg (by omega)]) ng0 mg0 ex0
      exact ⟨nt, 0, mg, ex, a, b⟩
    · rw [if_neg q]; rw [Int32.le_iff_toInt_le, c0] at q
      obtain ⟨mg, ex, a, b⟩ := tq_read_b33 h hr hnt (ng := 1) (by rw [if_pos (by omega)]) ng0 mg0 ex0
      exact ⟨nt, 1, mg, ex, a, b⟩
  by_cases q : v = f_notOf size
  · rw [if_neg (by simpa using q)]
    exact key 1 (by rw [if_pos (by rw [q, hn])])
  · rw [if_pos q]
    exact key 0 (by rw [if_neg (fun e => q (Int32.toInt.inj (by rw [e, hn])))])
