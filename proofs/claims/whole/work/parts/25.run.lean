theorem tq_bitL {pv : Int64} {P : Nat} (hp : pv.toInt = P) {v : Int32} {i : Nat} (hv : v.toInt = i) (hi : i < 64) : ((pv >>> (v.toInt64 &&& 63)) &&& 1).toInt = ((P / 2 ^ i % 2 : Nat) : Int) := by
  have h1 : (pv >>> (v.toInt64 &&& 63)).toInt = ((P / 2 ^ i : Nat) : Int) := by rw [tq_i64_shr hv hi, hp]; norm_cast
  apply tq_i64_of_u
  · rw [tq_u64_and, tq_u64_of_i h1]
    have : tq_u64 (1 : Int64) = 1 := rfl
    rw [this, Nat.and_one_is_mod]
  · omega
theorem tq_half_step (P j : Nat) : P / 2 ^ j = 2 * (P / 2 ^ (j + 1)) + P / 2 ^ j % 2 := by
  have e : P / 2 ^ (j + 1) = P / 2 ^ j / 2 := by rw [Nat.pow_succ, Nat.div_div_eq_div_mul]
  rw [e]; omega
/-- what stands above place j: k ones, or nothing -/
def tq_Above (P F k j : Nat) : Prop := (F = 1 ∧ P / 2 ^ j + 1 = 2 ^ k) ∨ (F = 0 ∧ P / 2 ^ j = 0)
theorem tq_run_loop {rg : Int32} {pv : Int64} {P : Nat} (hp : pv.toInt = P) {un : Int32} {S : Nat} (hS : S ≤ 33) {first : Int64} {F : Nat} (hF : first.toInt = F) (lf : Nat → Int32) : ∀ j n, j + 1 ≤ S → j < n → tq_Above P F (S - 1 - j) j →
    ∃ q, q ≤ j ∧ tq_Above P F (S - 1 - q) q ∧ (q = 0 ∨ P / 2 ^ (q - 1) % 2 ≠ F) ∧ m_value_b17 rg pv un n (nI j + (-1)) first (nI (S - 1 - j)) lf = m_value_b43 rg pv un (nI q + (-1)) first (nI (S - 1 - q)) lf := by
  intro j
  induction j with
  | zero =>
    intro n h1 h2 hA
    obtain ⟨m, rfl⟩ : ∃ m, n = m + 1 := ⟨n - 1, by omega⟩
    refine ⟨0, Nat.le_refl _, hA, .inl rfl, ?_⟩
    rw [m_value_b17, if_pos (by decide)]
  | succ j ih =>
    intro n h1 h2 hA
    obtain ⟨m, rfl⟩ : ∃ m, n = m + 1 := ⟨n - 1, by omega⟩
    have hb := tq_bitL hp (tq_nI_i (n := j) (by omega)) (by omega)
    have hs := tq_half_step P j
    by_cases q : P / 2 ^ j % 2 = F
    · have hA2 : tq_Above P F (S - 1 - j) j := by
        have e : S - 1 - j = S - 1 - (j + 1) + 1 := by omega
        rcases hA with ⟨a, b⟩ | ⟨a, b⟩
        · left; refine ⟨a, ?_⟩
          rw [e, Nat.pow_succ]; omega
        · right; exact ⟨a, by omega⟩
      obtain ⟨q0, w1, w2, w3, w4⟩ := ih m (by omega) (by omega) hA2
      refine ⟨q0, by omega, w2, w3, ?_⟩
      rw [← w4, m_value_b17, tq_nI_pred (by omega), if_neg (tq_nI_nn (by omega)), if_neg (fun z => z (tq_cmp_eq.2 (Int64.toInt.inj (by rw [hb, hF, q])))), tq_nI_add]
      have e : S - 1 - (j + 1) + 1 = S - 1 - j := by omega
      rw [e]
    · refine ⟨j + 1, Nat.le_refl _, hA, .inr (by rw [Nat.add_sub_cancel]; exact q), ?_⟩
      rw [m_value_b17, tq_nI_pred (by omega), if_neg (tq_nI_nn (by omega)), if_pos (show ¬ lg_cmp _ first = 0 from fun z => q (by
        have := tq_cmp_eq.1 z
        have : ((pv >>> ((nI j).toInt64 &&& 63)) &&& 1).toInt = first.toInt := by rw [this]
        rw [hb, hF] at this; omega))]
/-- the rest behind the run, left-aligned in 32 bits -/
def tq_restZ (P q : Nat) : Nat := P % 2 ^ (q - 1) * 2 ^ (33 - q)
theorem tq_body_of_run {P S F q : Nat} (hS : 2 ≤ S ∧ S ≤ 33) (hq : q + 1 < S) (hP : 1 ≤ P) (hne : S = 33 → q ≠ 0) (hA : tq_Above P F (S - 1 - q) q) (hend : q = 0 ∨ P / 2 ^ (q - 1) % 2 ≠ F) :
    tq_Body (P * 2 ^ (33 - S)) (if F = 1 then ((S - 1 - q : Nat) : Int) - 1 else -((S - 1 - q : Nat) : Int)) (tq_restZ P q) := by
  have hZ : tq_restZ P q < 2 ^ 32 := by
    unfold tq_restZ
    rcases Nat.eq_zero_or_pos q with z | z
    · subst z; simp [Nat.mod_one]
    · have e : 2 ^ 32 = 2 ^ (q - 1) * 2 ^ (33 - q) := by rw [← Nat.pow_add, show q - 1 + (33 - q) = 32 by omega]
      rw [e]; exact Nat.mul_lt_mul_of_pos_right (Nat.mod_lt _ (Nat.two_pow_pos _)) (Nat.two_pow_pos _)
  -- P by its parts
  have hst : 1 ≤ q → P = P / 2 ^ q * 2 ^ q + P / 2 ^ (q - 1) % 2 * 2 ^ (q - 1) + P % 2 ^ (q - 1) := by
    intro z
    have h1 := tq_half_step P (q - 1)
    rw [show q - 1 + 1 = q by omega] at h1
    have h2 := Nat.div_add_mod P (2 ^ (q - 1))
    have e : 2 ^ q = 2 ^ (q - 1) * 2 := by
      have h := Nat.pow_add 2 (q - 1) 1
      rw [show q - 1 + 1 = q by omega] at h; exact h
    rw [e]
    generalize P / 2 ^ (q - 1) % 2 = b at *
    rw [h1] at h2
    rw [Nat.mul_add, Nat.mul_comm (2 ^ (q - 1)) b] at h2
    have : P / (2 ^ (q - 1) * 2) * (2 ^ (q - 1) * 2) = 2 ^ (q - 1) * (2 * (P / (2 ^ (q - 1) * 2))) := by ac_rfl
    rw [this]
    rw [e] at h2
    omega
  rcases hA with ⟨a, b⟩ | ⟨a, b⟩
  · rw [if_pos a]
    refine ⟨hZ, .inl ⟨by omega, by omega, ?_⟩⟩
    have er : (((S - 1 - q : Nat) : Int) - 1).toNat + 2 = S - q := by omega
    rw [er, Nat.mul_assoc, ← Nat.pow_add, show 33 - S + (S - q) = 33 - q by omega]
    have hfin : P = (2 ^ (S - 1 - q) - 1) * 2 ^ q + P % 2 ^ (q - 1) := by
      rcases Nat.eq_zero_or_pos q with z | z
      · subst z
        rw [Nat.pow_zero, Nat.div_one] at b
        simp only [Nat.pow_zero, Nat.mul_one, Nat.mod_one]
        have e0 : 0 - 1 = 0 := rfl
        rw [e0, Nat.pow_zero, Nat.mod_one]; omega
      · have hb0 : P / 2 ^ (q - 1) % 2 = 0 := by have := hend.resolve_left (by omega); omega
        have := hst z
        rw [hb0] at this
        have pk := Nat.two_pow_pos (S - 1 - q)
        have e : P / 2 ^ q = 2 ^ (S - 1 - q) - 1 := by omega
        rw [e] at this
        omega
    have e2 : 2 ^ 32 * 2 ^ (S - q) = 2 ^ (S - 1 - q) * 2 ^ 33 := by rw [← Nat.pow_add, ← Nat.pow_add]; congr 1; omega
    have e3 : 2 ^ q * 2 ^ (33 - q) = 2 ^ 33 := by rw [← Nat.pow_add, show q + (33 - q) = 33 by omega]
    have pk := Nat.two_pow_pos (S - 1 - q)
    have e4 : P * 2 ^ (33 - q) = (2 ^ (S - 1 - q) - 1) * 2 ^ 33 + tq_restZ P q := by
      unfold tq_restZ
      have this : P * 2 ^ (33 - q) = ((2 ^ (S - 1 - q) - 1) * 2 ^ q + P % 2 ^ (q - 1)) * 2 ^ (33 - q) := congrArg (· * 2 ^ (33 - q)) hfin
      rw [this, Nat.add_mul, Nat.mul_assoc, e3]
    rw [e4, e2, Nat.sub_mul]
    have := Nat.mul_le_mul_right (2 ^ 33) pk
    omega
  · have nf : ¬ F = 1 := by omega
    rw [if_neg nf]
    have q1 : 1 ≤ q := by
      rcases Nat.eq_zero_or_pos q with z | z
      · subst z; rw [Nat.pow_zero, Nat.div_one] at b; omega
      · exact z
    have hb1 : P / 2 ^ (q - 1) % 2 = 1 := by have := hend.resolve_left (by omega); omega
    have hfin := hst q1
    rw [hb1, b, Nat.zero_mul, Nat.zero_add, Nat.one_mul] at hfin
    refine ⟨hZ, .inr ⟨by omega, by omega, ?_⟩⟩
    have er : (-(-((S - 1 - q : Nat) : Int))).toNat + 1 = S - q := by omega
    rw [er, Nat.mul_assoc, ← Nat.pow_add, show 33 - S + (S - q) = 33 - q by omega]
    have e3 : 2 ^ (q - 1) * 2 ^ (33 - q) = 2 ^ 32 := by rw [← Nat.pow_add, show q - 1 + (33 - q) = 32 by omega]
    unfold tq_restZ
    have this : P * 2 ^ (33 - q) = (2 ^ (q - 1) + P % 2 ^ (q - 1)) * 2 ^ (33 - q) := congrArg (· * 2 ^ (33 - q)) hfin
    rw [this, Nat.add_mul, e3]
/-- the exponent's two bits and the fraction's bits, out of the rest -/
theorem tq_rest_e {P q : Nat} (hq : q ≤ 32) : tq_restZ P q / 2 ^ 30 = (if q < 2 then 0 else 2 * (P / 2 ^ (q - 2) % 2)) + (if q < 3 then 0 else P / 2 ^ (q - 3) % 2) := by
  unfold tq_restZ
  by_cases h2 : q < 2
  · rw [if_pos h2, if_pos (by omega)]
    have : q - 1 = 0 := by omega
    rw [this, Nat.pow_zero, Nat.mod_one]; simp
  · rw [if_neg h2]
    by_cases h3 : q < 3
    · rw [if_pos h3]
      have : q = 2 := by omega
      subst this
      simp only [Nat.reduceSub, Nat.reducePow, Nat.div_one]
      omega
    · rw [if_neg h3]
      have e : 33 - q + (q - 3) = 30 := by omega
      have e1 : 2 ^ 30 = 2 ^ (q - 3) * 2 ^ (33 - q) := by rw [← Nat.pow_add, show q - 3 + (33 - q) = 30 by omega]
      rw [e1, Nat.mul_div_mul_right _ _ (Nat.two_pow_pos _)]
      have e2 : 2 ^ (q - 1) = 2 ^ (q - 3) * 4 := by rw [show q - 1 = q - 3 + 2 by omega, Nat.pow_add]
      rw [e2, Nat.mod_mul_right_div_self]
      have e3 : P / 2 ^ (q - 2) = P / 2 ^ (q - 3) / 2 := by rw [show q - 2 = q - 3 + 1 by omega, Nat.pow_succ, Nat.div_div_eq_div_mul]
      rw [e3]; omega
theorem tq_rest_f {P q : Nat} (hq : q ≤ 32) : 2 ^ 32 + 4 * tq_restZ P q % 2 ^ 32 = (2 ^ (q - 3) + P % 2 ^ (q - 3)) * 2 ^ (32 - (q - 3)) := by
  unfold tq_restZ
  have e1 : 2 ^ (q - 3) * 2 ^ (32 - (q - 3)) = 2 ^ 32 := by rw [← Nat.pow_add, show q - 3 + (32 - (q - 3)) = 32 by omega]
  rw [Nat.add_mul, e1]
  congr 1
  by_cases h3 : q < 3
  · have z : q - 3 = 0 := by omega
    rw [z, Nat.pow_zero, Nat.mod_one, Nat.zero_mul]
    have : q = 0 ∨ q = 1 ∨ q = 2 := by omega
    rcases this with rfl | rfl | rfl
    · simp [Nat.mod_one]
    · simp [Nat.mod_one]
    · simp only [Nat.reduceSub, Nat.reducePow]; omega
  · have e4 : 4 * (P % 2 ^ (q - 1) * 2 ^ (33 - q)) = P % 2 ^ (q - 1) * 2 ^ (35 - q) := by
      rw [show 35 - q = 33 - q + 2 by omega, Nat.pow_add, Nat.mul_left_comm, Nat.mul_comm 4]
    have e5 : 2 ^ 32 = 2 ^ (q - 3) * 2 ^ (35 - q) := by rw [← Nat.pow_add, show q - 3 + (35 - q) = 32 by omega]
    rw [e4, e5, Nat.mul_mod_mul_right, show 32 - (q - 3) = 35 - q by omega]
    congr 1
    have e2 : 2 ^ (q - 1) = 2 ^ (q - 3) * 4 := by rw [show q - 1 = q - 3 + 2 by omega, Nat.pow_add]
    rw [e2, Nat.mod_mul_right_mod]
