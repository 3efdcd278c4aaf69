-- unsigned views
def tq_u32 (x : Int32) : Nat := x.toBitVec.toNat
def tq_u64 (x : Int64) : Nat := x.toBitVec.toNat
theorem tq_u32_lt (x : Int32) : tq_u32 x < 2 ^ 32 := x.toBitVec.isLt
theorem tq_u64_lt (x : Int64) : tq_u64 x < 2 ^ 64 := x.toBitVec.isLt
theorem tq_u32_inj {x y : Int32} (h : tq_u32 x = tq_u32 y) : x = y := Int32.toBitVec.inj (BitVec.eq_of_toNat_eq h)
theorem tq_u64_inj {x y : Int64} (h : tq_u64 x = tq_u64 y) : x = y := Int64.toBitVec.inj (BitVec.eq_of_toNat_eq h)
theorem tq_i32_u (x : Int32) : x.toInt = if tq_u32 x < 2 ^ 31 then (tq_u32 x : Int) else (tq_u32 x : Int) - 2 ^ 32 := by
  rw [← Int32.toInt_toBitVec, BitVec.toInt_eq_toNat_cond]; unfold tq_u32; split <;> split <;> omega
theorem tq_i64_u (x : Int64) : x.toInt = if tq_u64 x < 2 ^ 63 then (tq_u64 x : Int) else (tq_u64 x : Int) - 2 ^ 64 := by
  rw [← Int64.toInt_toBitVec, BitVec.toInt_eq_toNat_cond]; unfold tq_u64; split <;> split <;> omega
theorem tq_u32_i (x : Int32) : (tq_u32 x : Int) = x.toInt % 2 ^ 32 := by
  have h := tq_i32_u x; have := tq_u32_lt x; split at h <;> omega
theorem tq_u64_i (x : Int64) : (tq_u64 x : Int) = x.toInt % 2 ^ 64 := by
  have h := tq_i64_u x; have := tq_u64_lt x; split at h <;> omega
theorem tq_i32_rng (x : Int32) : -2 ^ 31 ≤ x.toInt ∧ x.toInt < 2 ^ 31 := ⟨x.le_toInt, x.toInt_lt⟩
theorem tq_i64_rng (x : Int64) : -2 ^ 63 ≤ x.toInt ∧ x.toInt < 2 ^ 63 := ⟨x.le_toInt, x.toInt_lt⟩
theorem tq_u32_of_i {x : Int32} {k : Nat} (h : x.toInt = k) : tq_u32 x = k := by
  have := tq_u32_i x; have := tq_i32_rng x; omega
theorem tq_u64_of_i {x : Int64} {k : Nat} (h : x.toInt = k) : tq_u64 x = k := by
  have := tq_u64_i x; have := tq_i64_rng x; omega
theorem tq_i32_of_u {x : Int32} {k : Nat} (h : tq_u32 x = k) (hk : k < 2 ^ 31) : x.toInt = k := by
  have h2 := tq_i32_u x; split at h2 <;> omega
theorem tq_i64_of_u {x : Int64} {k : Nat} (h : tq_u64 x = k) (hk : k < 2 ^ 63) : x.toInt = k := by
  have h2 := tq_i64_u x; split at h2 <;> omega
theorem tq_bmod_of {a : Int} {m : Nat} (h : -(m : Int) ≤ 2 * a ∧ 2 * a < m) : a.bmod m = a := by
  apply Int.bmod_eq_of_le <;> omega
theorem tq_i32_add {a b : Int32} (h : -2 ^ 31 ≤ a.toInt + b.toInt ∧ a.toInt + b.toInt < 2 ^ 31) : (a + b).toInt = a.toInt + b.toInt := by
  rw [Int32.toInt_add]; exact tq_bmod_of (by omega)
theorem tq_i32_sub {a b : Int32} (h : -2 ^ 31 ≤ a.toInt - b.toInt ∧ a.toInt - b.toInt < 2 ^ 31) : (a - b).toInt = a.toInt - b.toInt := by
  rw [Int32.toInt_sub]; exact tq_bmod_of (by omega)
theorem tq_i32_neg {a : Int32} (h : -2 ^ 31 < a.toInt) : (-a).toInt = -a.toInt := by
  rw [Int32.toInt_neg]; have := tq_i32_rng a; exact tq_bmod_of (by omega)
theorem tq_i32_mul {a b : Int32} (h : -2 ^ 31 ≤ a.toInt * b.toInt ∧ a.toInt * b.toInt < 2 ^ 31) : (a * b).toInt = a.toInt * b.toInt := by
  rw [Int32.toInt_mul]; exact tq_bmod_of (by omega)
theorem tq_i64_add {a b : Int64} (h : -2 ^ 63 ≤ a.toInt + b.toInt ∧ a.toInt + b.toInt < 2 ^ 63) : (a + b).toInt = a.toInt + b.toInt := by
  rw [Int64.toInt_add]; exact tq_bmod_of (by omega)
theorem tq_i64_sub {a b : Int64} (h : -2 ^ 63 ≤ a.toInt - b.toInt ∧ a.toInt - b.toInt < 2 ^ 63) : (a - b).toInt = a.toInt - b.toInt := by
  rw [Int64.toInt_sub]; exact tq_bmod_of (by omega)
theorem tq_i64_neg {a : Int64} (h : -2 ^ 63 < a.toInt) : (-a).toInt = -a.toInt := by
  rw [Int64.toInt_neg]; have := tq_i64_rng a; exact tq_bmod_of (by omega)
theorem tq_i64_mul {a b : Int64} (h : -2 ^ 63 ≤ a.toInt * b.toInt ∧ a.toInt * b.toInt < 2 ^ 63) : (a * b).toInt = a.toInt * b.toInt := by
  rw [Int64.toInt_mul]; exact tq_bmod_of (by omega)
theorem tq_u64_add (a b : Int64) : tq_u64 (a + b) = (tq_u64 a + tq_u64 b) % 2 ^ 64 := by
  unfold tq_u64; rw [Int64.toBitVec_add, BitVec.toNat_add]
theorem tq_u64_mul (a b : Int64) : tq_u64 (a * b) = (tq_u64 a * tq_u64 b) % 2 ^ 64 := by
  unfold tq_u64; rw [Int64.toBitVec_mul, BitVec.toNat_mul]
theorem tq_u32_add (a b : Int32) : tq_u32 (a + b) = (tq_u32 a + tq_u32 b) % 2 ^ 32 := by
  unfold tq_u32; rw [Int32.toBitVec_add, BitVec.toNat_add]
theorem tq_u64_and (a b : Int64) : tq_u64 (a &&& b) = tq_u64 a &&& tq_u64 b := by
  unfold tq_u64; rw [Int64.toBitVec_and, BitVec.toNat_and]
theorem tq_u64_or (a b : Int64) : tq_u64 (a ||| b) = tq_u64 a ||| tq_u64 b := by
  unfold tq_u64; rw [Int64.toBitVec_or, BitVec.toNat_or]
theorem tq_u64_xor (a b : Int64) : tq_u64 (a ^^^ b) = tq_u64 a ^^^ tq_u64 b := by
  unfold tq_u64; rw [Int64.toBitVec_xor, BitVec.toNat_xor]
theorem tq_u32_and (a b : Int32) : tq_u32 (a &&& b) = tq_u32 a &&& tq_u32 b := by
  unfold tq_u32; rw [Int32.toBitVec_and, BitVec.toNat_and]
theorem tq_u32_or (a b : Int32) : tq_u32 (a ||| b) = tq_u32 a ||| tq_u32 b := by
  unfold tq_u32; rw [Int32.toBitVec_or, BitVec.toNat_or]
theorem tq_u32_xor (a b : Int32) : tq_u32 (a ^^^ b) = tq_u32 a ^^^ tq_u32 b := by
  unfold tq_u32; rw [Int32.toBitVec_xor, BitVec.toNat_xor]
theorem tq_u64_not (a : Int64) : tq_u64 (a ^^^ (-1)) = 2 ^ 64 - 1 - tq_u64 a := by
  unfold tq_u64; rw [Int64.xor_neg_one, Int64.toBitVec_not, BitVec.toNat_not]
theorem tq_u32_not (a : Int32) : tq_u32 (a ^^^ (-1)) = 2 ^ 32 - 1 - tq_u32 a := by
  unfold tq_u32; rw [Int32.xor_neg_one, Int32.toBitVec_not, BitVec.toNat_not]
theorem tq_amt32 {y : Int32} {k : Nat} (h : y.toInt = k) (hk : k < 32) : (y &&& 31).toBitVec.smod 32 = BitVec.ofNat 32 k := by
  have e : y = Int32.ofNat k := by
    apply Int32.toInt.inj; rw [h, Int32.toInt_ofNat_of_lt (by omega)]
  subst e
  have : ∀ k : Fin 32, (Int32.ofNat k.1 &&& 31).toBitVec.smod 32 = BitVec.ofNat 32 k.1 := by decide
  exact this ⟨k, hk⟩
theorem tq_u32_shl {x y : Int32} {k : Nat} (h : y.toInt = k) (hk : k < 32) : tq_u32 (x <<< (y &&& 31)) = tq_u32 x * 2 ^ k % 2 ^ 32 := by
  unfold tq_u32
  rw [Int32.toBitVec_shiftLeft, tq_amt32 h hk, BitVec.shiftLeft_eq', BitVec.toNat_shiftLeft, BitVec.toNat_ofNat, Nat.mod_eq_of_lt (a := k) (by omega), Nat.shiftLeft_eq]
theorem tq_i32_shr {x y : Int32} {k : Nat} (h : y.toInt = k) (hk : k < 32) : (x >>> (y &&& 31)).toInt = x.toInt / 2 ^ k := by
  rw [← Int32.toInt_toBitVec, Int32.toBitVec_shiftRight, tq_amt32 h hk, BitVec.sshiftRight_eq', BitVec.toInt_sshiftRight, BitVec.toNat_ofNat, Nat.mod_eq_of_lt (by omega), Int32.toInt_toBitVec, Int.shiftRight_eq_div_pow]
  norm_cast
theorem tq_u32_ushr {x y : Int32} {k : Nat} (h : y.toInt = k) (hk : k < 32) : tq_u32 ((x.toUInt32 >>> (y.toUInt32 &&& Int32.toUInt32 31)).toInt32) = tq_u32 x / 2 ^ k := by
  have e : y = Int32.ofNat k := by
    apply Int32.toInt.inj; rw [h, Int32.toInt_ofNat_of_lt (by omega)]
  subst e
  have t : ∀ k : Fin 32, (((Int32.ofNat k.1).toUInt32 &&& Int32.toUInt32 31).toBitVec % 32) = BitVec.ofNat 32 k.1 := by decide
  have t := t ⟨k, hk⟩
  show (x.toUInt32 >>> _).toBitVec.toNat = _
  rw [UInt32.toBitVec_shiftRight, t, BitVec.ushiftRight_eq', BitVec.toNat_ushiftRight, BitVec.toNat_ofNat, Nat.mod_eq_of_lt (by omega), Nat.shiftRight_eq_div_pow]
  rfl
theorem tq_amt64 {y : Int32} {k : Nat} (h : y.toInt = k) (hk : k < 64) : (y.toInt64 &&& 63).toBitVec.smod 64 = BitVec.ofNat 64 k := by
  have e : y = Int32.ofNat k := by
    apply Int32.toInt.inj; rw [h, Int32.toInt_ofNat_of_lt (by omega)]
  subst e
  have : ∀ k : Fin 64, ((Int32.ofNat k.1).toInt64 &&& 63).toBitVec.smod 64 = BitVec.ofNat 64 k.1 := by decide
  exact this ⟨k, hk⟩
theorem tq_u64_shl {x : Int64} {y : Int32} {k : Nat} (h : y.toInt = k) (hk : k < 64) : tq_u64 (x <<< (y.toInt64 &&& 63)) = tq_u64 x * 2 ^ k % 2 ^ 64 := by
  unfold tq_u64
  rw [Int64.toBitVec_shiftLeft, tq_amt64 h hk, BitVec.shiftLeft_eq', BitVec.toNat_shiftLeft, BitVec.toNat_ofNat, Nat.mod_eq_of_lt (a := k) (by omega), Nat.shiftLeft_eq]
theorem tq_i64_shr {x : Int64} {y : Int32} {k : Nat} (h : y.toInt = k) (hk : k < 64) : (x >>> (y.toInt64 &&& 63)).toInt = x.toInt / 2 ^ k := by
  rw [← Int64.toInt_toBitVec, Int64.toBitVec_shiftRight, tq_amt64 h hk, BitVec.sshiftRight_eq', BitVec.toInt_sshiftRight, BitVec.toNat_ofNat, Nat.mod_eq_of_lt (by omega), Int64.toInt_toBitVec, Int.shiftRight_eq_div_pow]
  norm_cast
theorem tq_u64_ushr {x : Int64} {y : Int32} {k : Nat} (h : y.toInt = k) (hk : k < 64) : tq_u64 ((x.toUInt64 >>> (y.toInt64.toUInt64 &&& Int64.toUInt64 63)).toInt64) = tq_u64 x / 2 ^ k := by
  have e : y = Int32.ofNat k := by
    apply Int32.toInt.inj; rw [h, Int32.toInt_ofNat_of_lt (by omega)]
  subst e
  have t : ∀ k : Fin 64, (((Int32.ofNat k.1).toInt64.toUInt64 &&& Int64.toUInt64 63).toBitVec % 64) = BitVec.ofNat 64 k.1 := by decide
  have t := t ⟨k, hk⟩
  show (x.toUInt64 >>> _).toBitVec.toNat = _
  rw [UInt64.toBitVec_shiftRight, t, BitVec.ushiftRight_eq', BitVec.toNat_ushiftRight, BitVec.toNat_ofNat, Nat.mod_eq_of_lt (by omega), Nat.shiftRight_eq_div_pow]
  rfl
theorem tq_i64_of_32 (x : Int32) : x.toInt64.toInt = x.toInt := by simp
theorem tq_u32_of_64 (x : Int64) : tq_u32 x.toInt32 = tq_u64 x % 2 ^ 32 := by
  unfold tq_u32 tq_u64
  rw [Int64.toBitVec_toInt32, BitVec.signExtend_eq_setWidth_of_le _ (by decide), BitVec.toNat_setWidth]
theorem tq_nI_i {n : Nat} (h : n < 2 ^ 31) : (nI n).toInt = n := Int32.toInt_ofNat_of_lt h
theorem tq_cl_i {x : Int32} (h : 0 ≤ x.toInt) : (x.toNatClampNeg : Int) = x.toInt := by
  rw [← Int32.toNat_toInt]; omega
theorem tq_cl_n {x : Int32} {k : Nat} (h : x.toInt = k) : x.toNatClampNeg = k := by
  rw [← Int32.toNat_toInt]; omega
theorem tq_cmp_cases (x y : Int64) : (y.toInt < x.toInt ∧ lg_cmp x y = 1) ∨ (x = y ∧ lg_cmp x y = 0) ∨ (x.toInt < y.toInt ∧ lg_cmp x y = -1) := by
  unfold lg_cmp
  by_cases h : x > y
  · left; rw [if_pos h]; exact ⟨Int64.lt_iff_toInt_lt.1 h, rfl⟩
  · rw [if_neg h]
    by_cases h2 : x = y
    · right; left; rw [if_pos h2]; exact ⟨h2, rfl⟩
    · right; right; rw [if_neg h2]; refine ⟨?_, rfl⟩
      rw [gt_iff_lt, Int64.lt_iff_toInt_lt] at h; rw [← Int64.toInt_inj] at h2; omega
theorem tq_cmp_gt {x y : Int64} : (0 < lg_cmp x y) ↔ y.toInt < x.toInt := by
  rcases tq_cmp_cases x y with ⟨h, e⟩ | ⟨h, e⟩ | ⟨h, e⟩ <;> rw [e]
  · simp [h]
  · subst h; simp
  · constructor
    · intro q; exact absurd q (by decide)
    · intro; omega
theorem tq_cmp_eq {x y : Int64} : (lg_cmp x y = 0) ↔ x = y := by
  rcases tq_cmp_cases x y with ⟨h, e⟩ | ⟨h, e⟩ | ⟨h, e⟩ <;> rw [e]
  · constructor
    · intro q; exact absurd q (by decide)
    · intro q; subst q; omega
  · simp [h]
  · constructor
    · intro q; exact absurd q (by decide)
    · intro q; subst q; omega
theorem tq_cmp_ge {x y : Int64} : (0 ≤ lg_cmp x y) ↔ y.toInt ≤ x.toInt := by
  rcases tq_cmp_cases x y with ⟨h, e⟩ | ⟨h, e⟩ | ⟨h, e⟩ <;> rw [e]
  · constructor
    · intro; omega
    · intro; decide
  · subst h; simp
  · constructor
    · intro q; exact absurd q (by decide)
    · intro; omega
theorem tq_nm_e {α β : Type} (a : α) (k : α → β) : tq_nm a k = k a := rfl
theorem tq_bd_e {α β : Type} {x : Option α} {a : α} {k : α → Option β} (h : x = some a) : tq_bd x k = k a := by rw [h]; rfl

theorem tq_pw_div {a s t : Nat} (h1 : 2 ^ t ≤ a / 2 ^ s) (h2 : a / 2 ^ s < 2 ^ (t + 1)) : 2 ^ (t + s) ≤ a ∧ a < 2 ^ (t + s + 1) := by
  have p : 0 < 2 ^ s := Nat.two_pow_pos s
  have e : 2 ^ (t + s + 1) = 2 ^ (t + 1) * 2 ^ s := by rw [← Nat.pow_add]; congr 1; omega
  rw [Nat.pow_add, e]
  exact ⟨(Nat.le_div_iff_mul_le p).1 h1, (Nat.div_lt_iff_lt_mul p).1 h2⟩
theorem tq_sh_nat {v : Int32} {a k : Nat} {y : Int32} (hv : v.toInt = a) (hy : y.toInt = k) (hk : k < 32) : ((v.toUInt32 >>> (y.toUInt32 &&& Int32.toUInt32 31)).toInt32).toInt = ((a / 2 ^ k : Nat) : Int) := by
  apply tq_i32_of_u
  · rw [tq_u32_ushr hy hk, tq_u32_of_i hv]
  · have := tq_i32_rng v; have : a / 2 ^ k ≤ a := Nat.div_le_self _ _; omega
theorem tq_inlz_b73 {v0 v1 : Int32} {a : Nat} (h0 : v0.toInt = a) (ha : 1 ≤ a ∧ a < 2 ^ 2) (h1 : 0 ≤ v1.toInt ∧ v1.toInt ≤ 31) : ∃ t : Nat, t < 2 ∧ (f_inlz_b73 v0 v1).toInt = v1.toInt - t ∧ 2 ^ t ≤ a ∧ a < 2 ^ (t + 1) := by
  unfold f_inlz_b73
  have hs := tq_sh_nat (y := 1) (k := 1) h0 rfl (by omega)
  refine ⟨a / 2, by omega, ?_, ?_⟩
  · rw [tq_i32_sub (by rw [hs]; omega), hs]
  · have : a = 1 ∨ a = 2 ∨ a = 3 := by omega
    rcases this with rfl | rfl | rfl <;> decide
theorem tq_inlz_b61 {v0 v1 : Int32} {a : Nat} (h0 : v0.toInt = a) (ha : 1 ≤ a ∧ a < 2 ^ 4) (h1 : 2 ≤ v1.toInt ∧ v1.toInt ≤ 31) : ∃ t : Nat, t < 4 ∧ (f_inlz_b61 v0 v1).toInt = v1.toInt - t ∧ 2 ^ t ≤ a ∧ a < 2 ^ (t + 1) := by
  unfold f_inlz_b61
  have c4 : ((4 : Int32)).toInt = 4 := rfl
  split
  · rename_i h; rw [Int32.lt_iff_toInt_lt] at h
    obtain ⟨t, a1, a2⟩ := tq_inlz_b73 (v1 := v1) h0 (by omega) (by omega); exact ⟨t, by omega, a2⟩
  · rename_i h; rw [Int32.lt_iff_toInt_lt] at h
    unfold tq_nm
    have hs := tq_sh_nat (y := 2) (k := 2) h0 rfl (by omega)
    have e : (v1 + (-2 : Int32)).toInt = v1.toInt - 2 := tq_i32_add (by rw [show ((-2 : Int32)).toInt = -2 from rfl]; omega)
    obtain ⟨t, a1, a2, a3, a4⟩ := tq_inlz_b73 (v1 := v1 + (-2)) hs (by omega) (by omega)
    refine ⟨t + 2, by omega, by rw [a2, e]; omega, tq_pw_div a3 a4⟩
theorem tq_inlz_b48 {v0 v1 : Int32} {a : Nat} (h0 : v0.toInt = a) (ha : 1 ≤ a ∧ a < 2 ^ 8) (h1 : 6 ≤ v1.toInt ∧ v1.toInt ≤ 31) : ∃ t : Nat, t < 8 ∧ (f_inlz_b48 v0 v1).toInt = v1.toInt - t ∧ 2 ^ t ≤ a ∧ a < 2 ^ (t + 1) := by
  unfold f_inlz_b48
  have c4 : ((16 : Int32)).toInt = 16 := rfl
  split
  · rename_i h; rw [Int32.lt_iff_toInt_lt] at h
    obtain ⟨t, a1, a2⟩ := tq_inlz_b61 (v1 := v1) h0 (by omega) (by omega); exact ⟨t, by omega, a2⟩
  · rename_i h; rw [Int32.lt_iff_toInt_lt] at h
    unfold tq_nm
    have hs := tq_sh_nat (y := 4) (k := 4) h0 rfl (by omega)
    have e : (v1 + (-4 : Int32)).toInt = v1.toInt - 4 := tq_i32_add (by rw [show ((-4 : Int32)).toInt = -4 from rfl]; omega)
    obtain ⟨t, a1, a2, a3, a4⟩ := tq_inlz_b61 (v1 := v1 + (-4)) hs (by omega) (by omega)
    refine ⟨t + 4, by omega, by rw [a2, e]; omega, tq_pw_div a3 a4⟩
theorem tq_inlz_b33 {v0 v1 : Int32} {a : Nat} (h0 : v0.toInt = a) (ha : 1 ≤ a ∧ a < 2 ^ 16) (h1 : 14 ≤ v1.toInt ∧ v1.toInt ≤ 31) : ∃ t : Nat, t < 16 ∧ (f_inlz_b33 v0 v1).toInt = v1.toInt - t ∧ 2 ^ t ≤ a ∧ a < 2 ^ (t + 1) := by
  unfold f_inlz_b33
  have c4 : ((256 : Int32)).toInt = 256 := rfl
  split
  · rename_i h; rw [Int32.lt_iff_toInt_lt] at h
    obtain ⟨t, a1, a2⟩ := tq_inlz_b48 (v1 := v1) h0 (by omega) (by omega); exact ⟨t, by omega, a2⟩
  · rename_i h; rw [Int32.lt_iff_toInt_lt] at h
    unfold tq_nm
    have hs := tq_sh_nat (y := 8) (k := 8) h0 rfl (by omega)
    have e : (v1 + (-8 : Int32)).toInt = v1.toInt - 8 := tq_i32_add (by rw [show ((-8 : Int32)).toInt = -8 from rfl]; omega)
    obtain ⟨t, a1, a2, a3, a4⟩ := tq_inlz_b48 (v1 := v1 + (-8)) hs (by omega) (by omega)
    refine ⟨t + 8, by omega, by rw [a2, e]; omega, tq_pw_div a3 a4⟩
theorem tq_inlz_zero : f_inlz 0 = 32 := rfl
theorem tq_inlz_spec {x : Int32} (hx : x ≠ 0) : ∃ t : Nat, t < 32 ∧ (f_inlz x).toInt = 31 - t ∧ 2 ^ t ≤ tq_u32 x ∧ tq_u32 x < 2 ^ (t + 1) := by
  unfold f_inlz
  have c4 : ((65536 : Int32)).toInt = 65536 := rfl
  have c0 : ((0 : Int32)).toInt = 0 := rfl
  have c31 : ((31 : Int32)).toInt = 31 := rfl
  have hu := tq_i32_u x
  have hl := tq_u32_lt x
  split
  · rename_i h; rw [Int32.lt_iff_toInt_lt] at h
    have hu : x.toInt = tq_u32 x := by split at hu <;> omega
    have hr := tq_i32_rng x
    split
    · rename_i h; rw [Int32.lt_iff_toInt_lt] at h
      obtain ⟨t, a1, a2⟩ := tq_inlz_b33 (v1 := 31) hu (by omega) (by omega); exact ⟨t, by omega, a2⟩
    · rename_i h; rw [Int32.lt_iff_toInt_lt] at h
      unfold tq_nm
      have hs := tq_sh_nat (y := 16) (k := 16) hu rfl (by omega)
      have e : ((31 : Int32) + (-16 : Int32)).toInt = 15 := rfl
      obtain ⟨t, a1, a2, a3, a4⟩ := tq_inlz_b33 (v1 := 31 + (-16)) hs (by omega) (by omega)
      refine ⟨t + 16, by omega, by rw [a2, e]; omega, tq_pw_div a3 a4⟩
  · rename_i h; rw [Int32.lt_iff_toInt_lt] at h
    refine ⟨31, by omega, rfl, ?_⟩
    have : x.toInt ≠ 0 := fun q => hx (Int32.toInt.inj (by rw [q]; rfl))
    split at hu <;> omega
theorem tq_lnlz_zero : f_lnlz 0 = 64 := rfl
theorem tq_lnlz_spec {x : Int64} (hx : x ≠ 0) : ∃ t : Nat, t < 64 ∧ (f_lnlz x).toInt = 63 - t ∧ 2 ^ t ≤ tq_u64 x ∧ tq_u64 x < 2 ^ (t + 1) := by
  unfold f_lnlz tq_nm
  have hs := tq_u64_ushr (x := x) (y := 32) (k := 32) rfl (by omega)
  have hl := tq_u64_lt x
  generalize hz : (x.toUInt64 >>> ((32 : Int32).toInt64.toUInt64 &&& Int64.toUInt64 63)).toInt64 = z at *
  have h3 := tq_u32_of_64 z
  dsimp only
  split
  · rename_i h
    obtain ⟨t, a1, a2, a3, a4⟩ := tq_inlz_spec h
    have e : tq_u32 z.toInt32 = tq_u64 x / 2 ^ 32 := by rw [h3, hs]; omega
    rw [e] at a3 a4
    exact ⟨t + 32, by omega, by rw [a2]; omega, tq_pw_div a3 a4⟩
  · rename_i h
    have h : z.toInt32 = 0 := by simpa using h
    have e : tq_u32 z.toInt32 = 0 := by rw [h]; rfl
    have h4 := tq_u32_of_64 x
    have nz : x.toInt32 ≠ 0 := by
      intro q; apply hx; apply tq_u64_inj
      have : tq_u32 x.toInt32 = 0 := by rw [q]; rfl
      show tq_u64 x = 0
      omega
    obtain ⟨t, a1, a2, a3, a4⟩ := tq_inlz_spec nz
    have e2 : tq_u32 x.toInt32 = tq_u64 x := by omega
    rw [e2] at a3 a4
    refine ⟨t, by omega, ?_, a3, a4⟩
    have c : ((32 : Int32)).toInt = 32 := rfl
    rw [tq_i32_add (by omega), a2, c]; omega

theorem tq_p2t_div {t s : Nat} (h : s ≤ t) : (2 ^ t - 1) / 2 ^ s = 2 ^ (t - s) - 1 := by
  have p : 0 < 2 ^ s := Nat.two_pow_pos s
  have q : 0 < 2 ^ (t - s) := Nat.two_pow_pos _
  have e : 2 ^ t = 2 ^ (t - s) * 2 ^ s := by rw [← Nat.pow_add]; congr 1; omega
  rw [e]
  generalize 2 ^ (t - s) = u at *
  generalize 2 ^ s = v at *
  have : u * v - 1 = (v - 1) + (u - 1) * v := by
    rw [Nat.sub_mul]; have : 1 * v ≤ u * v := Nat.mul_le_mul_right _ q; omega
  rw [this, Nat.add_mul_div_right _ _ p, Nat.div_eq_of_lt (by omega)]; omega
theorem tq_p2t_lt {t k : Nat} (h : t < k) : 2 ^ t - 1 < 2 ^ (k - 1) := by
  have := Nat.pow_le_pow_right (n := 2) (by omega) (show t ≤ k - 1 by omega)
  have := Nat.two_pow_pos t
  omega
theorem tq_p2t_ge {t k : Nat} (h : k ≤ t) : 2 ^ k - 1 ≤ 2 ^ t - 1 := by
  have := Nat.pow_le_pow_right (n := 2) (by omega) h
  omega
theorem tq_intz_b74 {v0 v1 : Int32} {t : Nat} (h0 : v0.toInt = ((2 ^ t - 1 : Nat) : Int)) (ht : 1 ≤ t ∧ t < 3) (h1 : 0 ≤ v1.toInt ∧ v1.toInt ≤ 40) : (f_intz_b74 v0 v1).toInt = v1.toInt + t - 1 := by
  unfold f_intz_b74
  have hs := tq_sh_nat (y := 1) (k := 1) h0 rfl (by omega)
  have : t = 1 ∨ t = 2 := by omega
  rcases this with rfl | rfl
  · rw [tq_i32_add (by rw [hs]; omega), hs]; omega
  · rw [tq_i32_add (by rw [hs]; omega), hs]; omega
theorem tq_intz_b62 {v0 v1 : Int32} {t : Nat} (h0 : v0.toInt = ((2 ^ t - 1 : Nat) : Int)) (ht : 1 ≤ t ∧ t < 5) (h1 : 0 ≤ v1.toInt ∧ v1.toInt ≤ 35) : (f_intz_b62 v0 v1).toInt = v1.toInt + t - 1 := by
  unfold f_intz_b62
  have c4 : ((4 : Int32)).toInt = 4 := rfl
  split
  · rename_i h; rw [Int32.le_iff_toInt_le, h0] at h
    have : t < 3 := by
      rcases Nat.lt_or_ge t 3 with h5 | h5
      · exact h5
      · have := tq_p2t_ge h5; omega
    exact tq_intz_b74 h0 (by omega) (by omega)
  · rename_i h; rw [Int32.le_iff_toInt_le, h0] at h
    have : 3 ≤ t := by
      rcases Nat.lt_or_ge t 3 with h5 | h5
      · have := tq_p2t_lt h5; omega
      · exact h5
    unfold tq_nm
    have hs := tq_sh_nat (y := 2) (k := 2) h0 rfl (by omega)
    rw [tq_p2t_div (by omega)] at hs
    have e : (v1 + (2 : Int32)).toInt = v1.toInt + 2 := tq_i32_add (by rw [show ((2 : Int32)).toInt = 2 from rfl]; omega)
    rw [tq_intz_b74 hs (by omega) (by omega), e]; omega
theorem tq_intz_b49 {v0 v1 : Int32} {t : Nat} (h0 : v0.toInt = ((2 ^ t - 1 : Nat) : Int)) (ht : 1 ≤ t ∧ t < 9) (h1 : 0 ≤ v1.toInt ∧ v1.toInt ≤ 30) : (f_intz_b49 v0 v1).toInt = v1.toInt + t - 1 := by
  unfold f_intz_b49
  have c4 : ((16 : Int32)).toInt = 16 := rfl
  split
  · rename_i h; rw [Int32.le_iff_toInt_le, h0] at h
    have : t < 5 := by
      rcases Nat.lt_or_ge t 5 with h5 | h5
      · exact h5
      · have := tq_p2t_ge h5; omega
    exact tq_intz_b62 h0 (by omega) (by omega)
  · rename_i h; rw [Int32.le_iff_toInt_le, h0] at h
    have : 5 ≤ t := by
      rcases Nat.lt_or_ge t 5 with h5 | h5
      · have := tq_p2t_lt h5; omega
      · exact h5
    unfold tq_nm
    have hs := tq_sh_nat (y := 4) (k := 4) h0 rfl (by omega)
    rw [tq_p2t_div (by omega)] at hs
    have e : (v1 + (4 : Int32)).toInt = v1.toInt + 4 := tq_i32_add (by rw [show ((4 : Int32)).toInt = 4 from rfl]; omega)
    rw [tq_intz_b62 hs (by omega) (by omega), e]; omega
theorem tq_intz_b34 {v0 v1 : Int32} {t : Nat} (h0 : v0.toInt = ((2 ^ t - 1 : Nat) : Int)) (ht : 1 ≤ t ∧ t < 17) (h1 : 0 ≤ v1.toInt ∧ v1.toInt ≤ 20) : (f_intz_b34 v0 v1).toInt = v1.toInt + t - 1 := by
  unfold f_intz_b34
  have c4 : ((256 : Int32)).toInt = 256 := rfl
  split
  · rename_i h; rw [Int32.le_iff_toInt_le, h0] at h
    have : t < 9 := by
      rcases Nat.lt_or_ge t 9 with h5 | h5
      · exact h5
      · have := tq_p2t_ge h5; omega
    exact tq_intz_b49 h0 (by omega) (by omega)
  · rename_i h; rw [Int32.le_iff_toInt_le, h0] at h
    have : 9 ≤ t := by
      rcases Nat.lt_or_ge t 9 with h5 | h5
      · have := tq_p2t_lt h5; omega
      · exact h5
    unfold tq_nm
    have hs := tq_sh_nat (y := 8) (k := 8) h0 rfl (by omega)
    rw [tq_p2t_div (by omega)] at hs
    have e : (v1 + (8 : Int32)).toInt = v1.toInt + 8 := tq_i32_add (by rw [show ((8 : Int32)).toInt = 8 from rfl]; omega)
    rw [tq_intz_b49 hs (by omega) (by omega), e]; omega
theorem tq_low_mask {w t c : Nat} (h : 2 ^ t * (2 * c + 1) < 2 ^ w) : (2 ^ w - 1 - 2 ^ t * (2 * c + 1)) &&& (2 ^ t * (2 * c + 1) - 1) = 2 ^ t - 1 := by
  have p : 0 < 2 ^ t := Nat.two_pow_pos t
  have ht : t < w := by
    rcases Nat.lt_or_ge t w with h5 | h5
    · exact h5
    · have := Nat.pow_le_pow_right (n := 2) (by omega) h5
      have : 2 ^ t * 1 ≤ 2 ^ t * (2 * c + 1) := Nat.mul_le_mul_left _ (by omega)
      omega
  have e1 : 2 ^ t * (2 * c + 1) - 1 = 2 ^ t * (2 * c) + (2 ^ t - 1) := by
    rw [Nat.mul_add]; omega
  have e2 : 2 ^ w - 1 - 2 ^ t * (2 * c + 1) = 2 ^ w - (2 ^ t * (2 * c + 1) + 1) := by omega
  apply Nat.eq_of_testBit_eq
  intro j
  rw [e2, Nat.testBit_and, Nat.testBit_two_pow_sub_succ h, e1, Nat.testBit_two_pow_mul_add _ (by omega)]
  have e3 : 2 ^ t * (2 * c + 1) = 2 ^ t * (2 * c + 1) + 0 := rfl
  rw [e3, Nat.testBit_two_pow_mul_add _ p, Nat.testBit_two_pow_sub_one]
  by_cases hj : j < t
  · simp [hj]; omega
  · simp only [hj, if_false]
    rcases Nat.eq_or_lt_of_le (Nat.le_of_not_lt hj) with q | q
    · subst q; simp
    · obtain ⟨k, hk⟩ : ∃ k, j - t = k + 1 := ⟨j - t - 1, by omega⟩
      rw [hk, Nat.testBit_succ, Nat.testBit_succ]
      have a1 : (2 * c + 1) / 2 = c := by omega
      have a2 : 2 * c / 2 = c := by omega
      rw [a1, a2]; cases c.testBit k <;> simp
theorem tq_odd_part : ∀ n : Nat, n ≠ 0 → ∃ t c, n = 2 ^ t * (2 * c + 1) := by
  intro n
  induction n using Nat.strongRecOn with
  | ind n ih =>
    intro h
    rcases Nat.mod_two_eq_zero_or_one n with q | q
    · obtain ⟨t, c, e⟩ := ih (n / 2) (by omega) (by omega)
      refine ⟨t + 1, c, ?_⟩
      have : n = 2 * (n / 2) := by omega
      rw [this, e, Nat.pow_succ, Nat.mul_comm (2 ^ t) 2, Nat.mul_assoc]
    · exact ⟨0, n / 2, by omega⟩
theorem tq_intz_zero : f_intz 0 = 32 := rfl
theorem tq_intz_spec {x : Int32} {t c : Nat} (hx : tq_u32 x = 2 ^ t * (2 * c + 1)) : (f_intz x).toInt = t := by
  unfold f_intz tq_nm
  have hl := tq_u32_lt x
  rw [hx] at hl
  have ht : t < 32 := by
    rcases Nat.lt_or_ge t 32 with h5 | h5
    · exact h5
    · have := Nat.pow_le_pow_right (n := 2) (by omega) h5
      have : 2 ^ t * 1 ≤ 2 ^ t * (2 * c + 1) := Nat.mul_le_mul_left _ (by omega)
      omega
  have p : 0 < 2 ^ t := Nat.two_pow_pos t
  have nz : 0 < 2 ^ t * (2 * c + 1) := Nat.mul_pos p (by omega)
  have h1 : tq_u32 (x - 1) = 2 ^ t * (2 * c + 1) - 1 := by
    have a := tq_u32_i (x - 1)
    have b := tq_u32_i x
    rw [Int32.toInt_sub] at a
    have c1 : ((1 : Int32)).toInt = 1 := rfl
    rw [c1] at a
    have d : ((x.toInt - 1).bmod (2 ^ 32)) % 2 ^ 32 = (x.toInt - 1) % 2 ^ 32 := Int.bmod_emod (m := 2 ^ 32) ..
    omega
  have hm := tq_low_mask hl
  have h2 : tq_u32 ((x ^^^ (-1 : Int32)) &&& (x - (1 : Int32))) = 2 ^ t - 1 := by
    rw [tq_u32_and, tq_u32_not, h1, hx]; exact hm
  generalize (x ^^^ (-1 : Int32)) &&& (x - (1 : Int32)) = m at *
  dsimp only
  have pt : 2 ^ t - 1 < 2 ^ 31 := by
    have := Nat.pow_le_pow_right (n := 2) (by omega) (show t ≤ 31 by omega)
    omega
  have hi := tq_i32_of_u h2 pt
  have c0 : ((0 : Int32)).toInt = 0 := rfl
  have c4 : ((65536 : Int32)).toInt = 65536 := rfl
  have c1 : ((1 : Int32)).toInt = 1 := rfl
  by_cases h : 0 < m
  · rw [if_pos h]; rw [Int32.lt_iff_toInt_lt, hi] at h
    have t1 : 1 ≤ t := by
      rcases Nat.eq_zero_or_pos t with q | q
      · subst q; simp at h
      · exact q
    by_cases h : m ≤ 65536
    · rw [if_pos h]; rw [Int32.le_iff_toInt_le, hi] at h
      have : t < 17 := by
        rcases Nat.lt_or_ge t 17 with h5 | h5
        · exact h5
        · have := tq_p2t_ge h5; omega
      rw [tq_intz_b34 hi (by omega) (by omega)]; omega
    · rw [if_neg h]; rw [Int32.le_iff_toInt_le, hi] at h
      have : 17 ≤ t := by
        rcases Nat.lt_or_ge t 17 with h5 | h5
        · have := tq_p2t_lt h5; omega
        · exact h5
      have hs := tq_sh_nat (y := 16) (k := 16) hi rfl (by omega)
      rw [tq_p2t_div (by omega)] at hs
      have e : ((1 : Int32) + (16 : Int32)).toInt = 17 := rfl
      rw [tq_intz_b34 hs (by omega) (by omega), e]; omega
  · rw [if_neg h]; rw [Int32.lt_iff_toInt_lt, hi] at h
    have : t = 0 := by
      rcases Nat.eq_zero_or_pos t with q | q
      · exact q
      · have := tq_p2t_ge (show 1 ≤ t from q); omega
    subst this
    have : m = 0 := by apply tq_u32_inj; rw [h2]; rfl
    subst this; rfl
theorem tq_lntz_spec {x : Int64} {t c : Nat} (hx : tq_u64 x = 2 ^ t * (2 * c + 1)) : (f_lntz x).toInt = t := by
  unfold f_lntz tq_nm
  have hs := tq_u64_ushr (x := x) (y := 32) (k := 32) rfl (by omega)
  have hl := tq_u64_lt x
  have h1 := tq_u32_of_64 x
  have p : 0 < 2 ^ t := Nat.two_pow_pos t
  dsimp only
  by_cases h : x.toInt32 = 0
  · rw [if_neg (by simpa using h)]
    have e0 : tq_u32 x.toInt32 = 0 := by rw [h]; rfl
    have ht : 32 ≤ t := by
      rcases Nat.lt_or_ge t 32 with h5 | h5
      · exfalso
        have e : 2 ^ 32 = 2 ^ t * (2 * 2 ^ (31 - t)) := by
          rw [← Nat.pow_succ', ← Nat.pow_add]; congr 1; omega
        rw [h1, hx, e, Nat.mul_mod_mul_left] at e0
        have := (Nat.mul_eq_zero.1 e0).resolve_left (by omega)
        generalize 2 ^ (31 - t) = q at *
        have : (2 * c + 1) % (2 * q) % 2 = (2 * c + 1) % 2 := Nat.mod_mul_right_mod _ _ _
        omega
      · exact h5
    generalize (x.toUInt64 >>> ((32 : Int32).toInt64.toUInt64 &&& Int64.toUInt64 63)).toInt64 = z at *
    have h3 := tq_u32_of_64 z
    have e : tq_u32 z.toInt32 = 2 ^ (t - 32) * (2 * c + 1) := by
      have : 2 ^ t = 2 ^ 32 * 2 ^ (t - 32) := by rw [← Nat.pow_add]; congr 1; omega
      rw [h3, hs, hx, this, Nat.mul_assoc, Nat.mul_div_cancel_left _ (by decide)]
      rw [Nat.mod_eq_of_lt]
      rw [hx, this, Nat.mul_assoc] at hl
      omega
    have r := tq_intz_spec e
    have c32 : ((32 : Int32)).toInt = 32 := rfl
    have ht2 : t < 64 := by
      rcases Nat.lt_or_ge t 64 with h5 | h5
      · exact h5
      · have := Nat.pow_le_pow_right (n := 2) (by omega) h5
        have : 2 ^ t * 1 ≤ 2 ^ t * (2 * c + 1) := Nat.mul_le_mul_left _ (by omega)
        omega
    rw [tq_i32_add (by omega), r, c32]; omega
  · rw [if_pos (by simpa using h)]
    have e0 : tq_u32 x.toInt32 ≠ 0 := fun q => h (tq_u32_inj (by rw [q]; rfl))
    have ht : t < 32 := by
      rcases Nat.lt_or_ge t 32 with h5 | h5
      · exact h5
      · exfalso; apply e0
        have : 2 ^ t = 2 ^ 32 * 2 ^ (t - 32) := by rw [← Nat.pow_add]; congr 1; omega
        rw [h1, hx, this, Nat.mul_assoc, Nat.mul_mod_right]
    have e : 2 ^ 32 = 2 ^ t * (2 * 2 ^ (31 - t)) := by
      rw [← Nat.pow_succ', ← Nat.pow_add]; congr 1; omega
    have e2 : tq_u32 x.toInt32 = 2 ^ t * (2 * (c % 2 ^ (31 - t)) + 1) := by
      rw [h1, hx, e, Nat.mul_mod_mul_left]
      congr 1
      have q := Nat.two_pow_pos (31 - t)
      generalize 2 ^ (31 - t) = k at *
      have : 2 * c + 1 = (2 * (c % k) + 1) + (2 * k) * (c / k) := by
        have := Nat.mod_add_div c k
        rw [Nat.mul_assoc]; omega
      rw [this, Nat.add_mul_mod_self_left, Nat.mod_eq_of_lt]
      have := Nat.mod_lt c q; omega
    exact tq_intz_spec e2
theorem tq_labs_spec {x : Int64} (h : -2 ^ 63 < x.toInt) : (if 0 < x then x else -x).toInt = x.toInt.natAbs := by
  have c0 : ((0 : Int64)).toInt = 0 := rfl
  by_cases q : 0 < x
  · rw [if_pos q]; rw [Int64.lt_iff_toInt_lt, c0] at q; omega
  · rw [if_neg q]; rw [Int64.lt_iff_toInt_lt, c0] at q; rw [tq_i64_neg h]; omega
