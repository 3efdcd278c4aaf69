/-- a pattern's value in units of 2^(8 - 4 n), with its sign -/
noncomputable def tq_iv (n : Nat) (p : Int) : Int := tq_sg (decide (p < 0)) (tq_mag n p.natAbs)
theorem tq_iv_abs (n : Nat) (p : Int) : (tq_iv n p).natAbs = tq_mag n p.natAbs := by
  unfold tq_iv tq_sg; split <;> omega
theorem tq_mag_le {n : Nat} {p : Int} (hn : n = 8 ∨ n = 16 ∨ n = 32) (hp : -2 ^ (n - 1) < p ∧ p < 2 ^ (n - 1)) : tq_mag n p.natAbs ≤ 2 ^ (8 * n - 16) := by
  by_cases q : p = 0
  · have : tq_mag n p.natAbs = 0 := tq_mag_eq hn (.inl ⟨by omega, rfl⟩)
    rw [this]; exact Nat.zero_le _
  · have hP : 1 ≤ p.natAbs ∧ p.natAbs < 2 ^ (n - 1) := by rcases hn with rfl | rfl | rfl <;> omega
    have h31 : 2 ^ (n - 1) ≤ 2 ^ 31 := Nat.pow_le_pow_right (by omega) (by omega)
    have hpv : (Int64.ofNat p.natAbs).toInt = p.natAbs := Int64.toInt_ofNat_of_lt (by omega)
    obtain ⟨g, e, w, fr, R, Z, hb, hk, hv⟩ := tq_value_spec (r := 0) (by omega) tq_WL0 hpv (size := nI n) (un := nI (4 * n - 8)) (S := n) (U := 4 * n - 8) (tq_nI_i (by omega)) (by omega) hP (by omega) (tq_nI_i (by omega)) ⟨by omega, by omega⟩
    obtain ⟨t, c, hc⟩ := tq_odd_part (2 ^ 32 + 4 * Z % 2 ^ 32) (by omega)
    have ht : t < 33 := tq_odd_le (c := c) (by rw [← hc]; omega)
    obtain ⟨_, _, _, _, b5⟩ := tq_op_val hn hP hb hc (by omega)
    rw [tq_mag_eq hn (.inr ⟨hP.1, hP.2, R, Z, hb, rfl⟩)]; exact b5
theorem tq_mag_one {n : Nat} (hn : n = 8 ∨ n = 16 ∨ n = 32) : tq_mag n (2 ^ (n - 2)) = 2 ^ (4 * n - 8) := by
  have hb : tq_Body (2 ^ (n - 2) * 2 ^ (33 - n)) 0 0 := by
    refine ⟨by omega, .inl ⟨by omega, by omega, ?_⟩⟩
    rw [← Nat.pow_add, show n - 2 + (33 - n) = 31 by omega]; decide
  have hP : 1 ≤ 2 ^ (n - 2) ∧ 2 ^ (n - 2) < 2 ^ (n - 1) := ⟨Nat.two_pow_pos _, Nat.pow_lt_pow_right (by omega) (by omega)⟩
  have h := (tq_mag_div hn hP hb).1
  have e : (4 * (0 : Int) + ((0 / 2 ^ 30 : Nat) : Int) + ((4 * n - 8 : Nat) : Int)).toNat = 4 * n - 8 := by omega
  rw [e, show 2 ^ 32 + 4 * 0 % 2 ^ 32 = 2 ^ 32 from rfl, Nat.mul_comm (2 ^ 32)] at h
  exact Nat.eq_of_mul_eq_mul_right (by decide) h
theorem tq_sg_mul (a b : Bool) (x y : Nat) : tq_sg a x * tq_sg b y = tq_sg (a != b) (x * y) := by
  unfold tq_sg; cases a <;> cases b <;> simp [Int.neg_mul, Int.mul_neg]
/-- a sum that is no NOT, as an integer -/
def tq_isS (n S : Nat) (i : Int) : Prop := S < 2 ^ (16 * n) ∧ S ≠ 2 ^ (16 * n - 1) ∧ tq_sgnd n S = i
theorem tq_p16n {n : Nat} (hn : n = 8 ∨ n = 16 ∨ n = 32) : 2 ^ (16 * n) = 2 * 2 ^ (16 * n - 1) := by
  have h := Nat.pow_add 2 1 (16 * n - 1)
  rw [show 1 + (16 * n - 1) = 16 * n by omega] at h; exact h
theorem tq_isS_mk {n : Nat} (hn : n = 8 ∨ n = 16 ∨ n = 32) {S : Nat} {i : Int} (hS : S < 2 ^ (16 * n)) (hi : i.natAbs < 2 ^ (16 * n - 1)) (h : ((S : Int) - i) % ((2 ^ (16 * n) : Nat) : Int) = 0) : tq_isS n S i := by
  have hp := tq_p16n hn
  unfold tq_isS tq_sgnd
  rw [hp] at h hS ⊢
  generalize 2 ^ (16 * n - 1) = H at *
  obtain ⟨k, hk⟩ := Int.dvd_of_emod_eq_zero h
  have hH : 0 < H := by omega
  have k1 : k = 0 ∨ k = 1 := by
    have h1 : ((2 * H : Nat) : Int) * k < ((2 * H : Nat) : Int) * 2 := by omega
    have h2 : ((2 * H : Nat) : Int) * (-1) < ((2 * H : Nat) : Int) * k := by omega
    have := Int.lt_of_mul_lt_mul_left h1 (by omega)
    have := Int.lt_of_mul_lt_mul_left h2 (by omega)
    omega
  rcases k1 with rfl | rfl
  · refine ⟨hS, by omega, ?_⟩
    split <;> omega
  · refine ⟨hS, by omega, ?_⟩
    split <;> omega
theorem tq_isS_inc {n : Nat} (hn : n = 8 ∨ n = 16 ∨ n = 32) {a b : Nat} {i j : Int} (ha : tq_isS n a i) (hb : tq_isS n b j) (hij : (i + j).natAbs < 2 ^ (16 * n - 1)) : tq_isS n (tq_incS n a b) (i + j) := by
  unfold tq_incS
  rw [if_neg (by rintro (z | z); exact ha.2.1 z; exact hb.2.1 z)]
  apply tq_isS_mk hn (Nat.mod_lt _ (Nat.two_pow_pos _)) hij
  obtain ⟨a1, a2, a3⟩ := ha
  obtain ⟨b1, b2, b3⟩ := hb
  unfold tq_sgnd at a3 b3
  have hX := Nat.two_pow_pos (16 * n)
  generalize 2 ^ (16 * n) = X at *
  generalize 2 ^ (16 * n - 1) = H at *
  rw [← a3, ← b3]
  have e1 : (((a + b) % X : Nat) : Int) = (a + b : Nat) - X * ((a + b) / X : Nat) := by
    have := Nat.mod_add_div (a + b) X
    have : (((a + b) % X : Nat) : Int) + ((X * ((a + b) / X) : Nat) : Int) = ((a + b : Nat) : Int) := by exact_mod_cast this
    rw [Int.natCast_mul] at this; omega
  rw [e1]
  apply Int.emod_eq_zero_of_dvd
  split <;> split
  · exact ⟨-(((a + b) / X : Nat) : Int), by rw [Int.mul_neg]; omega⟩
  · exact ⟨1 - (((a + b) / X : Nat) : Int), by rw [Int.mul_sub]; omega⟩
  · exact ⟨1 - (((a + b) / X : Nat) : Int), by rw [Int.mul_sub]; omega⟩
  · exact ⟨2 - (((a + b) / X : Nat) : Int), by rw [Int.mul_sub]; omega⟩
theorem tq_prod_abs {n : Nat} {p q : Int} (hn : n = 8 ∨ n = 16 ∨ n = 32) (hp : -2 ^ (n - 1) < p ∧ p < 2 ^ (n - 1)) (hq : -2 ^ (n - 1) < q ∧ q < 2 ^ (n - 1)) : (tq_iv n p * tq_iv n q).natAbs ≤ 2 ^ (16 * n - 32) := by
  rw [Int.natAbs_mul, tq_iv_abs, tq_iv_abs]
  have := Nat.mul_le_mul (tq_mag_le hn hp) (tq_mag_le hn hq)
  rw [← Nat.pow_add, show 8 * n - 16 + (8 * n - 16) = 16 * n - 32 by omega] at this
  exact this
theorem tq_isS_prod {n : Nat} {p q : Int} (hn : n = 8 ∨ n = 16 ∨ n = 32) (hp : -2 ^ (n - 1) < p ∧ p < 2 ^ (n - 1)) (hq : -2 ^ (n - 1) < q ∧ q < 2 ^ (n - 1)) : tq_isS n (tq_prodS n p q) (tq_iv n p * tq_iv n q) := by
  have hb := tq_prod_abs hn hp hq
  have hlt : 2 ^ (16 * n - 32) < 2 ^ (16 * n - 1) := Nat.pow_lt_pow_right (by omega) (by omega)
  have h16 := tq_p16n hn
  have hle : tq_mag n p.natAbs * tq_mag n q.natAbs ≤ 2 ^ (16 * n - 32) := by
    rw [Int.natAbs_mul, tq_iv_abs, tq_iv_abs] at hb; exact hb
  unfold tq_prodS
  rw [if_neg (by omega)]
  unfold tq_iv
  rw [tq_sg_mul]
  by_cases s : (p < 0) = (q < 0)
  · rw [if_pos s]
    have e : (decide (p < 0) != decide (q < 0)) = false := by simp [s]
    rw [e]
    refine tq_isS_mk hn (by omega) (by unfold tq_sg; simp; omega) ?_
    unfold tq_sg; simp
  · rw [if_neg s]
    have e : (decide (p < 0) != decide (q < 0)) = true := by
      by_cases w1 : p < 0 <;> by_cases w2 : q < 0 <;> simp [w1, w2] at s ⊢
    rw [e]
    generalize tq_mag n p.natAbs * tq_mag n q.natAbs = M at *
    refine tq_isS_mk hn (Nat.mod_lt _ (Nat.two_pow_pos _)) (by unfold tq_sg; rw [if_pos rfl]; omega) ?_
    unfold tq_sg
    rw [if_pos rfl]
    generalize 2 ^ (16 * n) = X at *
    rcases Nat.eq_zero_or_pos M with z | z
    · subst z
      rw [Nat.sub_zero, Nat.mod_self]; simp
    · rw [Nat.mod_eq_of_lt (by omega)]
      have : ((X - M : Nat) : Int) - -(M : Int) = X := by omega
      rw [this, Int.emod_self]
theorem tq_ans_isS {n S : Nat} {i : Int} (h : tq_isS n S i) : tq_ansS n S = tq_rI n i := by
  unfold tq_ansS; rw [if_neg h.2.1, h.2.2]
