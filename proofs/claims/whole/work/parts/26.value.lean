theorem tq_bitI {pv : Int64} {P : Nat} (hp : pv.toInt = P) {v : Int32} {i : Nat} (hv : v.toInt = i) (hi : i < 64) : (((pv >>> (v.toInt64 &&& 63)) &&& 1).toInt32).toInt = ((P / 2 ^ i % 2 : Nat) : Int) := by
  have hb := tq_bitL hp hv hi
  apply tq_i32_of_u
  · rw [tq_u32_of_64, tq_u64_of_i hb]; omega
  · omega
theorem tq_v121 {r : Nat} (hr : r ≤ 4) {f : Nat → Int32} (hw : tq_WL 200 f) {pv : Int64} {P : Nat} (hp : pv.toInt = P) {un v10 v11 t0 : Int32} {R : Int} {E m U : Nat} (h10 : v10.toInt = R) (h11 : v11.toInt = E) (ht : t0.toInt = m) (hm : m ≤ 29) (hE : E ≤ 3) (hR : -40 ≤ R ∧ R ≤ 40) (hu : un.toInt = U) (hU : U ≤ 200) (hsh : 0 ≤ 4 * R + E - m + U) :
    ∃ g, m_value_b121 (nI r) pv un v10 v11 t0 f = some g ∧ tq_WL 200 g ∧ tq_Fr r f g ∧ tq_rv g (40 * r) 40 = (2 ^ m + P % 2 ^ m) * 2 ^ (4 * R + E - m + U).toNat := by
  unfold m_value_b121
  have u1 : tq_u64 (1 : Int64) = 1 := rfl
  have pm : 2 ^ m ≤ 2 ^ 29 := Nat.pow_le_pow_right (by omega) hm
  have pm0 := Nat.two_pow_pos m
  have a1 : tq_u64 ((1 : Int64) <<< (t0.toInt64 &&& 63)) = 2 ^ m := by rw [tq_u64_shl ht (by omega), u1, Nat.one_mul, Nat.mod_eq_of_lt (by omega)]
  have a1i := tq_i64_of_u a1 (by omega)
  have c1 : ((1 : Int64)).toInt = 1 := rfl
  have a2 : (((1 : Int64) <<< (t0.toInt64 &&& 63)) - 1).toInt = ((2 ^ m - 1 : Nat) : Int) := by rw [tq_i64_sub (by rw [a1i, c1]; omega), a1i, c1]; omega
  have a3 : tq_u64 (pv &&& (((1 : Int64) <<< (t0.toInt64 &&& 63)) - 1)) = P % 2 ^ m := by
    rw [tq_u64_and, tq_u64_of_i hp, tq_u64_of_i a2, Nat.and_two_pow_sub_one_eq_mod]
  have hml := Nat.mod_lt P pm0
  have a4 : tq_u64 (((1 : Int64) <<< (t0.toInt64 &&& 63)) + (pv &&& (((1 : Int64) <<< (t0.toInt64 &&& 63)) - 1))) = 2 ^ m + P % 2 ^ m := by
    rw [tq_u64_add, a1, a3]; omega
  obtain ⟨g, e, w, fr, h⟩ := tq_setLong_spec hr hw (((1 : Int64) <<< (t0.toInt64 &&& 63)) + (pv &&& (((1 : Int64) <<< (t0.toInt64 &&& 63)) - 1)))
  rw [tq_bd_e e, tq_nm_e]
  have c4 : ((4 : Int32)).toInt = 4 := rfl
  have c0 : ((0 : Int32)).toInt = 0 := rfl
  have b1 : ((4 : Int32) * v10).toInt = 4 * R := by rw [tq_i32_mul (by rw [c4, h10]; omega), c4, h10]
  have b2 : ((4 : Int32) * v10 + v11).toInt = 4 * R + E := by rw [tq_i32_add (by rw [b1, h11]; omega), b1, h11]
  have b3 : ((4 : Int32) * v10 + v11 - t0).toInt = 4 * R + E - m := by rw [tq_i32_sub (by rw [b2, ht]; omega), b2, ht]
  have b4 : ((4 : Int32) * v10 + v11 - t0 + un).toInt = 4 * R + E - m + U := by rw [tq_i32_add (by rw [b3, hu]; omega), b3, hu]
  rw [if_neg (by rw [Int32.lt_iff_toInt_lt, b4, c0]; omega)]
  have b5 : ((4 : Int32) * v10 + v11 - t0 + un).toInt = (((4 * R + E - m + U).toNat : Nat) : Int) := by rw [b4]; omega
  obtain ⟨g2, e2, w2, fr2, h2⟩ := tq_raise_spec hr w b5 (by omega)
  rw [tq_bd_e e2]
  refine ⟨g2, rfl, w2, fun x hx => by rw [fr2 x hx]; exact fr x hx, ?_⟩
  rw [h2, h, a4, Nat.mod_eq_of_lt]
  have : (2 ^ m + P % 2 ^ m) * 2 ^ (4 * R + E - m + U).toNat < 2 ^ 30 * 2 ^ (4 * R + E - m + U).toNat := Nat.mul_lt_mul_of_pos_right (by omega) (Nat.two_pow_pos _)
  rw [← Nat.pow_add] at this
  exact Nat.lt_of_lt_of_le this (Nat.pow_le_pow_right (by omega) (by omega))
theorem tq_ar1 {q : Nat} (h : q ≤ 32) : q - 3 ≤ 29 := by omega
theorem tq_ar2 {R : Int} {E q S U : Nat} (hq : q + 1 < S) (hS : S ≤ 33) (hU : 4 * S - 8 ≤ U) (h3 : R < 0 → 1 ≤ q) (h4 : -((S - 1 - q : Nat) : Int) ≤ R) : 0 ≤ 4 * R + E - (q - 3 : Nat) + U := by
  rcases Int.lt_or_le R 0 with z | z
  · have := h3 z; omega
  · omega
theorem tq_ar3 {R : Int} {E q U : Nat} (hq : q ≤ 32) (h : 0 ≤ 4 * R + E - (q - 3 : Nat) + U) : (4 * R + (E : Int) - (q - 3 : Nat) + U).toNat + 32 = 32 - (q - 3) + (4 * R + (E : Int) + U).toNat := by omega
theorem tq_ar4 {R : Int} {E q U : Nat} (h : 0 ≤ 4 * R + E - (q - 3 : Nat) + U) : 0 ≤ 4 * R + (E : Int) + U := by omega
theorem tq_ar5 {q S : Nat} (hq : q + 1 < S) (hS : S ≤ 33) : q ≤ 32 := by omega
theorem tq_v60 {pv : Int64} {P : Nat} (hp : pv.toInt = P) {rg un v6 rgm : Int32} {q : Nat} (hq : q ≤ 32) (h6 : v6.toInt = (q : Int) - 1) (f : Nat → Int32) :
    ∃ a : Int32, m_value_b60 rg pv un v6 rgm f = m_value_b83 rg pv un (v6 + (-1)) rgm a f ∧ a.toInt = ((if q < 2 then 0 else 2 * (P / 2 ^ (q - 2) % 2) : Nat) : Int) := by
  have cm1 : ((-1 : Int32)).toInt = -1 := rfl
  have c0 : ((0 : Int32)).toInt = 0 := rfl
  have c2 : ((2 : Int32)).toInt = 2 := rfl
  have i2 : (v6 + (-1)).toInt = (q : Int) - 2 := by rw [tq_i32_add (by rw [h6, cm1]; omega), h6, cm1]; omega
  unfold m_value_b60
  by_cases z : q < 2
  · rw [if_pos (tq_i32_lt0 (by rw [i2]; omega)), if_pos z]; exact ⟨0, rfl, rfl⟩
  · rw [if_neg (by rw [Int32.lt_iff_toInt_lt, i2, c0]; omega), if_neg z]
    refine ⟨_, rfl, ?_⟩
    have hb2 := tq_bitI hp (v := v6 + (-1)) (i := q - 2) (by rw [i2]; omega) (by omega)
    generalize P / 2 ^ (q - 2) % 2 = bt at *
    have : (0 : Int) ≤ bt := by omega
    have hbt : bt < 2 := by
      rcases Nat.lt_or_ge bt 2 with w | w
      · exact w
      · exfalso
        have := tq_bitI hp (v := v6 + (-1)) (i := q - 2) (by rw [i2]; omega) (by omega)
        rw [hb2] at this; omega
    rw [tq_i32_mul (by rw [hb2, c2]; omega), hb2, c2]; omega
theorem tq_v83 {pv : Int64} {P : Nat} (hp : pv.toInt = P) {rg un v6 rgm a : Int32} {q : Nat} (hq : q ≤ 32) (h6 : v6.toInt = (q : Int) - 2) (f : Nat → Int32) :
    ∃ b : Int32, m_value_b83 rg pv un v6 rgm a f = m_value_b102 rg pv un v6 rgm b a f ∧ b.toInt = ((if q < 3 then 0 else P / 2 ^ (q - 3) % 2 : Nat) : Int) := by
  have c1 : ((1 : Int32)).toInt = 1 := rfl
  unfold m_value_b83
  by_cases z : q < 3
  · rw [if_pos (by rw [Int32.lt_iff_toInt_lt, h6, c1]; omega), if_pos z]; exact ⟨0, rfl, rfl⟩
  · rw [if_neg (by rw [Int32.lt_iff_toInt_lt, h6, c1]; omega), if_neg z]
    refine ⟨_, rfl, tq_bitI hp ?_ (by omega)⟩
    rw [tq_i32_sub (by rw [h6, c1]; omega), h6, c1]; omega
theorem tq_v102 {pv : Int64} {rg un v6 rgm a b : Int32} {q A B : Nat} (hq : q ≤ 32) (h6 : v6.toInt = (q : Int) - 2) (ha : a.toInt = A) (hb : b.toInt = B) (hA : A ≤ 2) (hB : B ≤ 1) (f : Nat → Int32) :
    ∃ x m : Int32, m_value_b102 rg pv un v6 rgm b a f = m_value_b121 rg pv un rgm x m f ∧ x.toInt = ((A + B : Nat) : Int) ∧ m.toInt = ((q - 3 : Nat) : Int) := by
  have cm2 : ((-2 : Int32)).toInt = -2 := rfl
  have c1 : ((1 : Int32)).toInt = 1 := rfl
  have c0 : ((0 : Int32)).toInt = 0 := rfl
  unfold m_value_b102
  rw [tq_nm_e]
  have i2 : (v6 + (-2)).toInt = (q : Int) - 4 := by rw [tq_i32_add (by rw [h6, cm2]; omega), h6, cm2]; omega
  have ex : (a + b).toInt = ((A + B : Nat) : Int) := by rw [tq_i32_add (by rw [ha, hb]; omega), ha, hb]; omega
  by_cases z : q < 4
  · rw [if_pos (tq_i32_lt0 (by rw [i2]; omega))]
    exact ⟨_, _, rfl, ex, by rw [c0]; omega⟩
  · rw [if_neg (by rw [Int32.lt_iff_toInt_lt, i2, c0]; omega)]
    refine ⟨_, _, rfl, ex, ?_⟩
    rw [tq_i32_add (by rw [i2, c1]; omega), i2, c1]; omega
theorem tq_value_tail {r : Nat} (hr : r ≤ 4) {f : Nat → Int32} (hw : tq_WL 200 f) {pv : Int64} {P : Nat} (hp : pv.toInt = P) {un v6 rgm : Int32} {R : Int} {q U E : Nat} (hq : q ≤ 32) (h6 : v6.toInt = (q : Int) - 1) (hg : rgm.toInt = R) (hR : -40 ≤ R ∧ R ≤ 40) (hu : un.toInt = U) (hU : U ≤ 200)
    (hE : E = (if q < 2 then 0 else 2 * (P / 2 ^ (q - 2) % 2)) + (if q < 3 then 0 else P / 2 ^ (q - 3) % 2)) (hsh : 0 ≤ 4 * R + E - (q - 3 : Nat) + U) :
    ∃ g, m_value_b60 (nI r) pv un v6 rgm f = some g ∧ tq_WL 200 g ∧ tq_Fr r f g ∧ tq_rv g (40 * r) 40 = (2 ^ (q - 3) + P % 2 ^ (q - 3)) * 2 ^ (4 * R + E - (q - 3 : Nat) + U).toNat := by
  have cm1 : ((-1 : Int32)).toInt = -1 := rfl
  have i2 : (v6 + (-1)).toInt = (q : Int) - 2 := by rw [tq_i32_add (by rw [h6, cm1]; omega), h6, cm1]; omega
  obtain ⟨a, e1, ha⟩ := tq_v60 (rg := nI r) (un := un) (rgm := rgm) hp hq h6 f
  obtain ⟨b, e2, hb⟩ := tq_v83 (rg := nI r) (un := un) (rgm := rgm) (a := a) hp hq i2 f
  have hA : (if q < 2 then 0 else 2 * (P / 2 ^ (q - 2) % 2)) ≤ 2 := by split <;> omega
  have hB : (if q < 3 then 0 else P / 2 ^ (q - 3) % 2) ≤ 1 := by split <;> omega
  obtain ⟨x, m, e3, hx, hm⟩ := tq_v102 (pv := pv) (rg := nI r) (un := un) (rgm := rgm) hq i2 ha hb hA hB f
  rw [← hE] at hx
  have hE3 : E ≤ 3 := by omega
  rw [e1, e2, e3]
  exact tq_v121 hr hw hp hg hx hm (tq_ar1 hq) hE3 hR hu hU hsh
/-- what the reference's value(r, p, size, unit) leaves in row r -/
theorem tq_value_spec {r : Nat} (hr : r ≤ 4) {f : Nat → Int32} (hw : tq_WL 200 f) {pv : Int64} {P : Nat} (hp : pv.toInt = P) {size un : Int32} {S U : Nat} (hs : size.toInt = S) (hS : 2 ≤ S ∧ S ≤ 33) (hP : 1 ≤ P ∧ P < 2 ^ (S - 1)) (hne : S = 33 → P + 1 ≠ 2 ^ 32) (hu : un.toInt = U) (hU : 4 * S - 8 ≤ U ∧ U ≤ 200) :
    ∃ g, m_value f (nI r) pv size un = some g ∧ tq_WL 200 g ∧ tq_Fr r f g ∧ ∃ (R : Int) (Z : Nat), tq_Body (P * 2 ^ (33 - S)) R Z ∧ 0 ≤ 4 * R + (Z / 2 ^ 30 : Nat) + U ∧ tq_rv g (40 * r) 40 * 2 ^ 32 = (2 ^ 32 + 4 * Z % 2 ^ 32) * 2 ^ (4 * R + (Z / 2 ^ 30 : Nat) + U).toNat := by
  unfold m_value
  have c2 : ((2 : Int32)).toInt = 2 := rfl
  have c1 : ((1 : Int32)).toInt = 1 := rfl
  have cm1 : ((-1 : Int32)).toInt = -1 := rfl
  have e1 : (size - 2).toInt = ((S - 2 : Nat) : Int) := by rw [tq_i32_sub (by rw [hs, c2]; omega), hs, c2]; omega
  rw [tq_nm_e, tq_nm_e]
  have hF := tq_bitL hp e1 (by omega)
  generalize hfst : (pv >>> ((size - 2).toInt64 &&& 63)) &&& 1 = first at *
  generalize hFv : P / 2 ^ (S - 2) % 2 = F at *
  have hF01 : F = 0 ∨ F = 1 := by omega
  have htop : P / 2 ^ (S - 1) = 0 := Nat.div_eq_of_lt hP.2
  have hA0 : tq_Above P F (S - 1 - (S - 1)) (S - 1) := by
    rcases hF01 with z | z
    · exact .inr ⟨z, htop⟩
    · exact .inl ⟨z, by rw [htop, Nat.sub_self]⟩
  have eb : nI (S - 1) + (-1) = size - 2 := by
    have : S - 1 = S - 2 + 1 := by omega
    rw [this, tq_nI_pred (by omega)]
    exact (tq_of_i32 e1).symm
  obtain ⟨q, q1, q2, q3, q4⟩ := tq_run_loop (rg := nI r) hp (un := un) (S := S) (by omega) hF f (S - 1) 41 (by omega) (by omega) hA0
  rw [eb, Nat.sub_self] at q4
  have e0 : nI 0 = (0 : Int32) := rfl
  rw [e0] at q4
  rw [q4]
  have hq : q + 1 < S := by
    rcases Nat.lt_or_ge (q + 1) S with z | z
    · exact z
    · have : q = S - 1 := by omega
      rcases q3 with w | w
      · omega
      · rw [this, show S - 1 - 1 = S - 2 by omega] at w
        exact absurd hFv w
  have hqne : S = 33 → q ≠ 0 := by
    intro z w
    rw [w, z] at q2
    rcases q2 with ⟨a, b⟩ | ⟨a, b⟩
    · rw [Nat.pow_zero, Nat.div_one] at b; exact hne z b
    · rw [Nat.pow_zero, Nat.div_one] at b; omega
  have hq1 : F = 0 → 1 ≤ q := by
    intro z
    rcases Nat.eq_zero_or_pos q with w | w
    · rw [w] at q2
      rcases q2 with ⟨a, b⟩ | ⟨a, b⟩
      · omega
      · rw [Nat.pow_zero, Nat.div_one] at b; omega
    · exact w
  have hbody := tq_body_of_run hS hq hP.1 hqne q2 q3
  have he := tq_rest_e (P := P) (q := q) (by omega)
  have hfr := tq_rest_f (P := P) (q := q) (by omega)
  clear hne q4 htop hA0 hqne q2 q3 hfst hFv
  have hreg : ∃ rgm : Int32, m_value_b43 (nI r) pv un (nI q + (-1)) first (nI (S - 1 - q)) f = m_value_b60 (nI r) pv un (nI q + (-1)) rgm f ∧ rgm.toInt = (if F = 1 then ((S - 1 - q : Nat) : Int) - 1 else -((S - 1 - q : Nat) : Int)) := by
    unfold m_value_b43
    have c1L : ((1 : Int64)).toInt = 1 := rfl
    have hk := tq_nI_i (n := S - 1 - q) (by omega)
    by_cases z : lg_cmp first 1 = 0
    · rw [if_neg (fun w => w z)]
      have := tq_cmp_eq.1 z
      rw [this, c1L] at hF
      refine ⟨_, rfl, ?_⟩
      rw [if_pos (by omega), tq_i32_sub (by rw [hk, c1]; omega), hk, c1]
    · rw [if_pos z]
      have : F ≠ 1 := fun w => z (tq_cmp_eq.2 (Int64.toInt.inj (by rw [hF, w, c1L]; rfl)))
      refine ⟨_, rfl, ?_⟩
      rw [if_neg this, tq_i32_neg (by rw [hk]; omega), hk]
  obtain ⟨rgm, g1, g2⟩ := hreg
  rw [g1]
  have hRR : ∃ R : Int, R = (if F = 1 then ((S - 1 - q : Nat) : Int) - 1 else -((S - 1 - q : Nat) : Int)) ∧ -40 ≤ R ∧ R ≤ 40 ∧ (R < 0 → 1 ≤ q) ∧ -((S - 1 - q : Nat) : Int) ≤ R := by
    refine ⟨_, rfl, ?_, ?_, ?_, ?_⟩
    · split <;> omega
    · split <;> omega
    · split
      · omega
      · rename_i z; intro _; exact hq1 (by omega)
    · split <;> omega
  obtain ⟨R, hR, hR1, hR2, hR3, hR4⟩ := hRR
  rw [← hR] at g2 hbody
  clear hR
  have i1 : (nI q + (-1)).toInt = (q : Int) - 1 := by rw [tq_i32_add (by rw [tq_nI_i (by omega), cm1]; omega), tq_nI_i (by omega), cm1]; omega
  generalize tq_restZ P q = Z at *
  have hsh : 0 ≤ 4 * R + (Z / 2 ^ 30 : Nat) - (q - 3 : Nat) + U := tq_ar2 hq hS.2 hU.1 hR3 hR4
  have hq32 := tq_ar5 hq hS.2
  obtain ⟨g, e, w, fr, h⟩ := tq_value_tail hr hw hp hq32 i1 g2 ⟨hR1, hR2⟩ hu hU.2 he hsh
  refine ⟨g, e, w, fr, R, Z, hbody, tq_ar4 hsh, ?_⟩
  rw [h, hfr, Nat.mul_assoc, Nat.mul_assoc, ← Nat.pow_add, ← Nat.pow_add, tq_ar3 hq32 hsh]
