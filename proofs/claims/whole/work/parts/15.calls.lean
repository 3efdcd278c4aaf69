/-- A * 2^(16 - 8 n) rounded to n bits -/
def tq_rS (n A : Nat) : Nat := if A = 0 then 0 else
  tq_pp n ((Nat.log2 A : Int) - (8 * n - 16)) (if 63 ≤ Nat.log2 A then A / 2 ^ (Nat.log2 A - 63) else A * 2 ^ (63 - Nat.log2 A)) (decide (63 ≤ Nat.log2 A ∧ A % 2 ^ (Nat.log2 A - 63) ≠ 0))
def tq_rI (n : Nat) (v : Int) : Int := if v < 0 then -(tq_rS n v.natAbs : Int) else tq_rS n v.natAbs
/-- a sum's words as the integer that they stand for -/
def tq_sgnd (n S : Nat) : Int := if S < 2 ^ (16 * n - 1) then (S : Int) else (S : Int) - ((2 ^ (16 * n) : Nat) : Int)
theorem tq_rI_nn {n A : Nat} {v : Int} (h : v = (A : Int)) : tq_rI n v = tq_rS n A := by
  subst h; unfold tq_rI; rw [if_neg (by omega)]; rfl
theorem tq_rI_ng {n A : Nat} {v : Int} (h : v = -(A : Int)) (hA : 0 < A) : tq_rI n v = -(tq_rS n A : Int) := by
  subst h; unfold tq_rI; rw [if_pos (by omega)]
  have : (-(A : Int)).natAbs = A := by omega
  rw [this]
theorem tq_sgnd_lo {n S : Nat} (h : S < 2 ^ (16 * n - 1)) : tq_sgnd n S = (S : Int) := by unfold tq_sgnd; rw [if_pos h]
theorem tq_sgnd_hi {n S : Nat} (h : ¬ S < 2 ^ (16 * n - 1)) : tq_sgnd n S = (S : Int) - ((2 ^ (16 * n) : Nat) : Int) := by unfold tq_sgnd; rw [if_neg h]
theorem tq_log2_eq {A T : Nat} (h1 : 2 ^ T ≤ A) (h2 : A < 2 ^ (T + 1)) : Nat.log2 A = T := by
  have hA : A ≠ 0 := by have := Nat.two_pow_pos T; omega
  have a := (Nat.le_log2 hA).2 h1
  have b := (Nat.log2_lt hA).2 h2
  omega
theorem tq_zb {P : Prop} [Decidable P] {r : Int32} (h : (¬ P ∧ r = 0) ∨ (P ∧ r = 1)) : r = if decide P then 1 else 0 := by
  rcases h with ⟨a, b⟩ | ⟨a, b⟩
  · rw [b]; simp [a]
  · rw [b]; simp [a]
theorem tq_roundedSum_b39 {size : Int32} {n : Nat} (h : tq_Sz size n) {N : Nat} (hN : 4 * N = n) {p0 : Int32} (hp : p0.toInt = 8 * n - 16) {v2 : Int32} {ng : Bool} (hv : v2 = if ng then 1 else 0) (f : Nat → Int64) :
    ∃ r, f_roundedSum_b39 size p0 N v2 f = some (r, f) ∧ r.toInt = if ng then -(tq_rS n (tq_sv f N) : Int) else tq_rS n (tq_sv f N) := by
  have h2 := h.2
  unfold f_roundedSum_b39
  obtain ⟨r, e, hr⟩ := tq_topBit_spec (N := N) (by omega) (by omega) f
  have c63 : ((63 : Int32)).toInt = 63 := rfl
  have c0 : ((0 : Int32)).toInt = 0 := rfl
  rw [e]
  rcases hr with ⟨a, b⟩ | ⟨T, a1, a2, a3, a4⟩
  · subst b
    refine ⟨0, rfl, ?_⟩
    have : tq_rS n (tq_sv f N) = 0 := by unfold tq_rS; rw [if_pos a]
    rw [this]; cases ng <;> rfl
  · have hs := tq_i32_rng r
    have e63 : (r - 63).toInt = (T : Int) - 63 := by rw [tq_i32_sub (by rw [a2, c63]; omega), a2, c63]
    have ep : (r - p0).toInt = (T : Int) - (8 * n - 16) := by rw [tq_i32_sub (by rw [a2, hp]; omega), a2, hp]
    have hlog := tq_log2_eq a3 a4
    have nz : tq_sv f N ≠ 0 := by have := Nat.two_pow_pos T; omega
    obtain ⟨sg, es, hsg⟩ := tq_leading_spec (N := N) (by omega) f a2 a1 a4
    have more : ∃ m, f_hasBitsBelow N f (r - 63) = some m ∧ m = if decide (63 ≤ T ∧ tq_sv f N % 2 ^ (T - 63) ≠ 0) then 1 else 0 := by
      by_cases q : 63 ≤ T
      · obtain ⟨m, em, hm⟩ := tq_below_spec (N := N) (by omega) f (place := r - 63) (P := T - 63) (by rw [e63]; omega) (by omega)
        refine ⟨m, em, tq_zb ?_⟩
        rcases hm with ⟨w1, w2⟩ | ⟨w1, w2⟩
        · exact .inl ⟨fun z => z.2 w1, w2⟩
        · exact .inr ⟨⟨q, w1⟩, w2⟩
      · refine ⟨0, tq_below_neg (by omega) f (by rw [e63]; omega), tq_zb (.inl ⟨fun z => q z.1, rfl⟩)⟩
    obtain ⟨m, em, hm⟩ := more
    show ∃ r_1, (if 0 ≤ r then tq_bd (f_hasBitsBelow N f (r - 63)) (fun r8 => tq_bd (f_leadingBits N f r) fun r9 => some (f_signedPattern size v2 (r - p0) r9 r8, f)) else some (0, f)) = some (r_1, f) ∧ _
    rw [if_pos (by rw [Int32.le_iff_toInt_le, c0, a2]; omega), em, es]
    refine ⟨f_signedPattern size v2 (r - p0) sg m, rfl, ?_⟩
    have hbig : 2 ^ 63 ≤ tq_u64 sg := by
      rw [hsg]
      split
      · rw [Nat.le_div_iff_mul_le (Nat.two_pow_pos _), ← Nat.pow_add, show 63 + (T - 63) = T by omega]; exact a3
      · have := Nat.mul_le_mul_right (2 ^ (63 - T)) a3
        rw [← Nat.pow_add, show T + (63 - T) = 63 by omega] at this; exact this
    rw [tq_signed_spec h ep hbig hm hv, hsg]
    have : tq_rS n (tq_sv f N) = tq_pp n ((T : Int) - (8 * n - 16)) (if 63 ≤ T then tq_sv f N / 2 ^ (T - 63) else tq_sv f N * 2 ^ (63 - T)) (decide (63 ≤ T ∧ tq_sv f N % 2 ^ (T - 63) ≠ 0)) := by
      unfold tq_rS; rw [if_neg nz, hlog]
    rw [this]
theorem tq_roundedSum_spec {size : Int32} {n : Nat} (h : tq_Sz size n) {N : Nat} (hN : 4 * N = n) {p0 : Int32} (hp : p0.toInt = 8 * n - 16) (f f3 : Nat → Int64) :
    ∃ r g, f_roundedSum size p0 N f f3 = some (r, g) ∧ r.toInt = if tq_sv f N = 2 ^ (16 * n - 1) then -2 ^ (n - 1) else tq_rI n (tq_sgnd n (tq_sv f N)) := by
  have h2 := h.2
  unfold f_roundedSum
  obtain ⟨r, e, hr⟩ := tq_isNot_spec (N := N) (by omega) (by omega) f
  have eM : 64 * N = 16 * n := by omega
  rw [eM] at hr
  rw [tq_bd_e e]
  rcases hr with ⟨a, b⟩ | ⟨a, b⟩
  · subst b
    rw [if_neg (by decide), if_pos a]
    exact ⟨_, f3, rfl, tq_notOf_spec h⟩
  · subst b
    obtain ⟨ng, e1, hng⟩ := tq_isNegative_spec (N := N) (by omega) (by omega) f
    obtain ⟨g, e2, hg⟩ := tq_copy_spec (N := N) (by omega) f3 f
    rw [eM] at hng
    rw [if_pos rfl, if_neg a, tq_bd_e e1, tq_bd_e e2]
    have hl := tq_sv_lt f N
    rw [eM] at hl
    rcases hng with ⟨w, rfl⟩ | ⟨w, rfl⟩
    · obtain ⟨r, e3, hr⟩ := tq_roundedSum_b39 h hN hp (v2 := 0) (ng := false) rfl g
      rw [if_pos rfl]
      refine ⟨r, g, e3, ?_⟩
      rw [hr, hg, tq_rI_nn (tq_sgnd_lo w)]; rfl
    · obtain ⟨g2, e4, hg2⟩ := tq_flip_spec (N := N) (by omega) g
      obtain ⟨r, e3, hr⟩ := tq_roundedSum_b39 h hN hp (v2 := 1) (ng := true) rfl g2
      rw [if_neg (by decide), tq_bd_e e4]
      refine ⟨r, g2, e3, ?_⟩
      rw [hr, hg2, hg, eM]
      have p1 := Nat.two_pow_pos (16 * n - 1)
      rw [Nat.mod_eq_of_lt (by omega), if_pos rfl]
      have e5 : tq_sgnd n (tq_sv f N) = -((2 ^ (16 * n) - tq_sv f N : Nat) : Int) := by
        rw [tq_sgnd_hi (by omega)]
        generalize 2 ^ (16 * n) = X at *
        omega
      rw [tq_rI_ng e5 (by omega)]
/-- what a product of two patterns makes of a sum -/
noncomputable def tq_prodS (n : Nat) (p q : Int) : Nat :=
  if p = -2 ^ (n - 1) ∨ q = -2 ^ (n - 1) then 2 ^ (16 * n - 1) else if (p < 0) = (q < 0) then tq_mag n p.natAbs * tq_mag n q.natAbs else (2 ^ (16 * n) - tq_mag n p.natAbs * tq_mag n q.natAbs) % 2 ^ (16 * n)
theorem tq_sumProduct_spec {n N : Nat} (hn : n = 8 ∨ n = 16 ∨ n = 32) (hN : 4 * N = n) {p0 : Int32} (hp0 : p0.toInt = 8 * n - 16) (f : Nat → Int64) {p q : Int} {nt0 ng0 nt1 ng1 ex0 ex1 : Int32} {mg0 mg1 : Int64}
    (hp : -2 ^ (n - 1) ≤ p ∧ p < 2 ^ (n - 1)) (hq : -2 ^ (n - 1) ≤ q ∧ q < 2 ^ (n - 1)) (h0 : tq_Op n p nt0 ng0 mg0 ex0) (h1 : tq_Op n q nt1 ng1 mg1 ex1) :
    ∃ g, f_sumProduct p0 N f nt0 ng0 mg0 ex0 nt1 ng1 mg1 ex1 = some g ∧ tq_sv g N = tq_prodS n p q := by
  have eM : 64 * N = 16 * n := by omega
  unfold f_sumProduct f_sumProduct_b14 tq_prodS
  obtain ⟨gn, en, hgn⟩ := tq_setNot_spec (N := N) (by omega) (by omega) f
  rw [eM] at hgn
  have hb : tq_bd (f_setNot N f) (fun f02 => some f02) = some gn := by rw [en]; rfl
  rw [hb]
  by_cases p1 : p = -2 ^ (n - 1)
  · have := h0.1
    rw [if_pos p1] at this
    rw [this, if_pos (by decide), if_pos (.inl p1)]
    exact ⟨gn, rfl, hgn⟩
  · have t0 := h0.1
    rw [if_neg p1] at t0
    rw [t0, if_neg (by decide)]
    by_cases q1 : q = -2 ^ (n - 1)
    · have := h1.1
      rw [if_pos q1] at this
      rw [this, if_neg (by decide), if_pos (.inr q1)]
      exact ⟨gn, rfl, hgn⟩
    · have t1 := h1.1
      rw [if_neg q1] at t1
      rw [t1, if_pos rfl, if_neg (by omega)]
      obtain ⟨g, e, hz⟩ := tq_setZero_spec (N := N) (by omega) f
      obtain ⟨m0, a1, a2, a3, a4, a5, a6, _⟩ := tq_op_mag hn (by omega) h0
      obtain ⟨m1, b1, b2, b3, b4, b5, b6, _⟩ := tq_op_mag hn (by omega) h1
      have hmm : m0 * m1 < 2 ^ 56 := by
        have := Nat.mul_lt_mul_of_lt_of_lt a2 b2
        omega
      have eprod : (mg0 * mg1).toInt = ((m0 * m1 : Nat) : Int) := by
        rw [tq_i64_mul (by rw [a1, b1]; norm_cast; omega), a1, b1]; norm_cast
      have ee : (ex0 + ex1).toInt = ex0.toInt + ex1.toInt := tq_i32_add (by omega)
      have ep : (ex0 + ex1 + p0).toInt = (((ex0.toInt + (4 * (n : Int) - 8)).toNat + (ex1.toInt + (4 * (n : Int) - 8)).toNat : Nat) : Int) := by
        rw [tq_i32_add (by rw [ee, hp0]; omega), ee, hp0]; omega
      have hval : m0 * m1 * 2 ^ ((ex0.toInt + (4 * (n : Int) - 8)).toNat + (ex1.toInt + (4 * (n : Int) - 8)).toNat) = tq_mag n p.natAbs * tq_mag n q.natAbs := by
        rw [← a5, ← b5, Nat.pow_add]
        ac_rfl
      have hle : tq_mag n p.natAbs * tq_mag n q.natAbs ≤ 2 ^ (16 * n - 32) := by
        have := Nat.mul_le_mul a6 b6
        rw [← Nat.pow_add, show 8 * n - 16 + (8 * n - 16) = 16 * n - 32 by omega] at this
        exact this
      have hlt : 2 ^ (16 * n - 32) < 2 ^ (16 * n) := Nat.pow_lt_pow_right (by omega) (by omega)
      obtain ⟨g2, e2, hg2⟩ := tq_setBits_spec (N := N) (by omega) hz (value := mg0 * mg1) ep (by omega) (by rw [tq_u64_of_i eprod, hval, eM]; omega)
      rw [tq_u64_of_i eprod, hval] at hg2
      have hb2 : tq_bd (f_setZero N f) (fun f04 => tq_bd (f_setBits N f04 (mg0 * mg1) ((ex0 + ex1) + p0)) (fun f05 => if ng0 = ng1 then some f05 else tq_bd (f_flip N f05) (fun f07 => some f07))) = if ng0 = ng1 then some g2 else tq_bd (f_flip N g2) (fun f07 => some f07) := by
        rw [e]; show tq_bd (f_setBits N g _ _) _ = _; rw [e2]; rfl
      rw [hb2, h0.2.1, h1.2.1]
      by_cases s : (p < 0) = (q < 0)
      · rw [if_pos s, if_pos (by simp only [s])]
        exact ⟨g2, rfl, hg2⟩
      · rw [if_neg s]
        have hne : ¬ ((if p < 0 then (1 : Int32) else 0) = if q < 0 then 1 else 0) := by
          by_cases w1 : p < 0 <;> by_cases w2 : q < 0 <;> simp [w1, w2] at s ⊢
        rw [if_neg hne]
        obtain ⟨g3, e3, hg3⟩ := tq_flip_spec (N := N) (by omega) g2
        refine ⟨g3, by rw [e3]; rfl, ?_⟩
        rw [hg3, hg2, eM]

def tq_incS (n a b : Nat) : Nat := if a = 2 ^ (16 * n - 1) ∨ b = 2 ^ (16 * n - 1) then 2 ^ (16 * n - 1) else (a + b) % 2 ^ (16 * n)
def tq_ansS (n S : Nat) : Int := if S = 2 ^ (16 * n - 1) then -2 ^ (n - 1) else tq_rI n (tq_sgnd n S)
def tq_negS (n S : Nat) : Nat := (2 ^ (16 * n) - S) % 2 ^ (16 * n)
theorem tq_c_setProduct {size : Int32} {n : Nat} (h : tq_Sz size n) {N : Nat} (hN : 4 * N = n) {p0 : Int32} (hp : p0.toInt = 8 * n - 16) (nt0 ng0 : Int32) (mg0 : Int64) (ex0 nt1 ng1 : Int32) (mg1 : Int64) (ex1 : Int32) (f : Nat → Int64) (x y : Int32) :
    ∃ a b c d a' b' c' d' g, f_setProduct size nt0 ng0 mg0 ex0 nt1 ng1 mg1 ex1 p0 N f x y = some (a, b, c, d, a', b', c', d', g) ∧ tq_sv g N = tq_prodS n (tq_pat n x) (tq_pat n y) := by
  unfold f_setProduct
  obtain ⟨a, b, c, d, e1, o1⟩ := tq_read_spec h x nt0 ng0 mg0 ex0
  obtain ⟨a', b', c', d', e2, o2⟩ := tq_read_spec h y nt1 ng1 mg1 ex1
  rw [e1, e2]
  simp only [tq_nm_e]
  obtain ⟨g, e3, hg⟩ := tq_sumProduct_spec h.2 hN hp f (tq_pat_rng (x := x) h.2) (tq_pat_rng (x := y) h.2) o1 o2
  rw [tq_bd_e e3]
  exact ⟨a, b, c, d, a', b', c', d', g, rfl, hg⟩
theorem tq_c_include {n N : Nat} (hn : n = 8 ∨ n = 16 ∨ n = 32) (hN : 4 * N = n) (f f1 : Nat → Int64) : ∃ g, f_include N f N f1 = some g ∧ tq_sv g N = tq_incS n (tq_sv f N) (tq_sv f1 N) := by
  obtain ⟨g, e, hg⟩ := tq_include_spec (N := N) (by omega) (by omega) f f1
  have eM : 64 * N = 16 * n := by omega
  rw [eM] at hg
  exact ⟨g, e, hg⟩
theorem tq_pat_one {size : Int32} {n : Nat} (h : tq_Sz size n) : tq_pat n (f_one size) = 2 ^ (n - 2) := by
  have hi := tq_one_spec h
  have hu := tq_u32_i (f_one size)
  rw [hi] at hu
  unfold tq_pat
  rcases h.2 with rfl | rfl | rfl <;> (rw [if_pos (by omega)]; omega)
theorem tq_c_fused {size : Int32} {n : Nat} (h : tq_Sz size n) {N : Nat} (hN : 4 * N = n) {p0 : Int32} (hp : p0.toInt = 8 * n - 16) (nt0 ng0 : Int32) (mg0 : Int64) (ex0 nt1 ng1 : Int32) (mg1 : Int64) (ex1 : Int32) (f2 f3 : Nat → Int64) (x y z : Int32) :
    ∃ r a b c d a' b' c' d' g2 g3, f_fused size nt0 ng0 mg0 ex0 nt1 ng1 mg1 ex1 p0 N f2 f3 x y z = some (r, a, b, c, d, a', b', c', d', g2, g3) ∧
      r.toInt = tq_ansS n (tq_incS n (tq_prodS n (tq_pat n x) (tq_pat n y)) (tq_prodS n (tq_pat n z) (2 ^ (n - 2)))) := by
  unfold f_fused
  obtain ⟨a, b, c, d, a', b', c', d', g, e1, h1⟩ := tq_c_setProduct h hN hp nt0 ng0 mg0 ex0 nt1 ng1 mg1 ex1 f2 x y
  rw [tq_bd_e e1]; simp only [tq_nm_e]
  obtain ⟨a2, b2, c2, d2, a2', b2', c2', d2', g2, e2, h2⟩ := tq_c_setProduct h hN hp a b c d a' b' c' d' f3 z (f_one size)
  rw [tq_bd_e e2]; simp only [tq_nm_e]
  obtain ⟨g3, e3, h3⟩ := tq_c_include h.2 hN g g2
  rw [tq_bd_e e3]
  obtain ⟨r, g4, e4, h4⟩ := tq_roundedSum_spec h hN hp g3 g2
  rw [tq_bd_e e4]; simp only [tq_nm_e]
  refine ⟨r, a2, b2, c2, d2, a2', b2', c2', d2', g3, g4, rfl, ?_⟩
  rw [h4, h3, h1, h2, tq_pat_one h]; rfl
theorem tq_c_add {size : Int32} {n : Nat} (h : tq_Sz size n) {N : Nat} (hN : 4 * N = n) {p0 : Int32} (hp : p0.toInt = 8 * n - 16) (nt0 ng0 : Int32) (mg0 : Int64) (ex0 nt1 ng1 : Int32) (mg1 : Int64) (ex1 : Int32) (f2 f3 : Nat → Int64) (x y : Int32) :
    ∃ r a b c d a' b' c' d' g2 g3, f_add size nt0 ng0 mg0 ex0 nt1 ng1 mg1 ex1 p0 N f2 f3 x y = some (r, a, b, c, d, a', b', c', d', g2, g3) ∧
      r.toInt = tq_ansS n (tq_incS n (tq_prodS n (tq_pat n x) (2 ^ (n - 2))) (tq_prodS n (tq_pat n y) (2 ^ (n - 2)))) := by
  unfold f_add
  obtain ⟨r, a, b, c, d, a', b', c', d', g2, g3, e, hr⟩ := tq_c_fused h hN hp nt0 ng0 mg0 ex0 nt1 ng1 mg1 ex1 f2 f3 x (f_one size) y
  rw [tq_bd_e e]; simp only [tq_nm_e]
  rw [tq_pat_one h] at hr
  exact ⟨r, a, b, c, d, a', b', c', d', g2, g3, rfl, hr⟩
theorem tq_c_subtract {size : Int32} {n : Nat} (h : tq_Sz size n) {N : Nat} (hN : 4 * N = n) {p0 : Int32} (hp : p0.toInt = 8 * n - 16) (nt0 ng0 : Int32) (mg0 : Int64) (ex0 nt1 ng1 : Int32) (mg1 : Int64) (ex1 : Int32) (f2 f3 : Nat → Int64) (x y : Int32) :
    ∃ r a b c d a' b' c' d' g2 g3, f_subtract size nt0 ng0 mg0 ex0 nt1 ng1 mg1 ex1 p0 N f2 f3 x y = some (r, a, b, c, d, a', b', c', d', g2, g3) ∧
      r.toInt = tq_ansS n (tq_incS n (tq_prodS n (tq_pat n x) (2 ^ (n - 2))) (tq_prodS n (tq_pat n (-y)) (2 ^ (n - 2)))) := by
  unfold f_subtract
  obtain ⟨r, a, b, c, d, a', b', c', d', g2, g3, e, hr⟩ := tq_c_fused h hN hp nt0 ng0 mg0 ex0 nt1 ng1 mg1 ex1 f2 f3 x (f_one size) (-y)
  rw [tq_bd_e e]; simp only [tq_nm_e]
  rw [tq_pat_one h] at hr
  exact ⟨r, a, b, c, d, a', b', c', d', g2, g3, rfl, hr⟩
theorem tq_c_multiply {size : Int32} {n : Nat} (h : tq_Sz size n) {N : Nat} (hN : 4 * N = n) {p0 : Int32} (hp : p0.toInt = 8 * n - 16) (nt0 ng0 : Int32) (mg0 : Int64) (ex0 nt1 ng1 : Int32) (mg1 : Int64) (ex1 : Int32) (f2 f3 : Nat → Int64) (x y : Int32) :
    ∃ r a b c d a' b' c' d' g2 g3, f_multiply size nt0 ng0 mg0 ex0 nt1 ng1 mg1 ex1 p0 N f2 f3 x y = some (r, a, b, c, d, a', b', c', d', g2, g3) ∧
      r.toInt = tq_ansS n (tq_incS n (tq_prodS n (tq_pat n x) (tq_pat n y)) (tq_prodS n 0 (2 ^ (n - 2)))) := by
  unfold f_multiply
  obtain ⟨r, a, b, c, d, a', b', c', d', g2, g3, e, hr⟩ := tq_c_fused h hN hp nt0 ng0 mg0 ex0 nt1 ng1 mg1 ex1 f2 f3 x y 0
  rw [tq_bd_e e]; simp only [tq_nm_e]
  have : tq_pat n 0 = 0 := by rcases h.2 with rfl | rfl | rfl <;> decide
  rw [this] at hr
  exact ⟨r, a, b, c, d, a', b', c', d', g2, g3, rfl, hr⟩
theorem tq_is0 : f_isSum 0 = 1 := by decide
theorem tq_is1 : f_isSum 1 = 1 := by decide
theorem tq_isN {q : Int32} (a : ¬ q = 0) (b : ¬ q = 1) : f_isSum q = 0 := by
  unfold f_isSum; rw [if_neg a, if_pos b]
theorem tq_c_clear {n N : Nat} (hn : n = 8 ∨ n = 16 ∨ n = 32) (hN : 4 * N = n) (p0 : Int32) (f0 f1 : Nat → Int64) (q : Int32) :
    ∃ g0 g1, f_clear p0 N f0 f1 q = some (f_isSum q, g0, g1) ∧ tq_sv g0 N = (if q = 0 then 0 else tq_sv f0 N) ∧ tq_sv g1 N = (if q = 1 then 0 else tq_sv f1 N) := by
  unfold f_clear
  by_cases a : q = 0
  · subst a
    obtain ⟨g, e, hg⟩ := tq_setZero_spec (N := N) (by omega) f0
    rw [tq_is0, if_pos (show ¬ (1 : Int32) = 0 by decide), if_pos (show (0 : Int32) = 0 from rfl), tq_bd_e e]
    exact ⟨g, f1, rfl, by rw [if_pos (show (0 : Int32) = 0 from rfl)]; exact tq_sv_zero hg, by rw [if_neg (show ¬ (0 : Int32) = 1 by decide)]⟩
  · by_cases b : q = 1
    · subst b
      obtain ⟨g, e, hg⟩ := tq_setZero_spec (N := N) (by omega) f1
      rw [tq_is1, if_pos (show ¬ (1 : Int32) = 0 by decide), if_neg (show ¬ (1 : Int32) = 0 by decide), if_pos (show (1 : Int32) = 1 from rfl), tq_bd_e e]
      exact ⟨f0, g, rfl, by rw [if_neg (show ¬ (1 : Int32) = 0 by decide)], by rw [if_pos (show (1 : Int32) = 1 from rfl)]; exact tq_sv_zero hg⟩
    · rw [tq_isN a b, if_neg (show ¬ ¬ (0 : Int32) = 0 by decide)]
      exact ⟨f0, f1, rfl, by rw [if_neg a], by rw [if_neg b]⟩
theorem tq_c_merge {n N : Nat} (hn : n = 8 ∨ n = 16 ∨ n = 32) (hN : 4 * N = n) (p0 : Int32) (f0 f1 : Nat → Int64) (q : Int32) :
    ∃ g0 g1, f_merge p0 N f0 f1 q = some (f_isSum q, g0, g1) ∧ tq_sv g0 N = (if q = 0 then tq_incS n (tq_sv f0 N) (tq_sv f1 N) else tq_sv f0 N) ∧ tq_sv g1 N = (if q = 1 then tq_incS n (tq_sv f1 N) (tq_sv f0 N) else tq_sv f1 N) := by
  unfold f_merge
  by_cases a : q = 0
  · subst a
    obtain ⟨g, e, hg⟩ := tq_c_include hn hN f0 f1
    rw [tq_is0, if_pos (show ¬ (1 : Int32) = 0 by decide), if_pos (show (0 : Int32) = 0 from rfl), tq_bd_e e]
    exact ⟨g, f1, rfl, by rw [if_pos (show (0 : Int32) = 0 from rfl)]; exact hg, by rw [if_neg (show ¬ (0 : Int32) = 1 by decide)]⟩
  · by_cases b : q = 1
    · subst b
      obtain ⟨g, e, hg⟩ := tq_c_include hn hN f1 f0
      rw [tq_is1, if_pos (show ¬ (1 : Int32) = 0 by decide), if_neg (show ¬ (1 : Int32) = 0 by decide), if_pos (show (1 : Int32) = 1 from rfl), tq_bd_e e]
      exact ⟨f0, g, rfl, by rw [if_neg (show ¬ (1 : Int32) = 0 by decide)], by rw [if_pos (show (1 : Int32) = 1 from rfl)]; exact hg⟩
    · rw [tq_isN a b, if_neg (show ¬ ¬ (0 : Int32) = 0 by decide)]
      exact ⟨f0, f1, rfl, by rw [if_neg a], by rw [if_neg b]⟩
theorem tq_c_flip {n N : Nat} (hn : n = 8 ∨ n = 16 ∨ n = 32) (hN : 4 * N = n) (f : Nat → Int64) : ∃ g, f_flip N f = some g ∧ tq_sv g N = tq_negS n (tq_sv f N) := by
  obtain ⟨g, e, hg⟩ := tq_flip_spec (N := N) (by omega) f
  have eM : 64 * N = 16 * n := by omega
  rw [eM] at hg
  exact ⟨g, e, hg⟩
theorem tq_c_negate {n N : Nat} (hn : n = 8 ∨ n = 16 ∨ n = 32) (hN : 4 * N = n) (p0 : Int32) (f0 f1 : Nat → Int64) (q : Int32) :
    ∃ g0 g1, f_negate p0 N f0 f1 q = some (f_isSum q, g0, g1) ∧ tq_sv g0 N = (if q = 0 then tq_negS n (tq_sv f0 N) else tq_sv f0 N) ∧ tq_sv g1 N = (if q = 1 then tq_negS n (tq_sv f1 N) else tq_sv f1 N) := by
  unfold f_negate
  by_cases a : q = 0
  · subst a
    obtain ⟨g, e, hg⟩ := tq_c_flip hn hN f0
    rw [tq_is0, if_pos (show ¬ (1 : Int32) = 0 by decide), if_pos (show (0 : Int32) = 0 from rfl), tq_bd_e e]
    exact ⟨g, f1, rfl, by rw [if_pos (show (0 : Int32) = 0 from rfl)]; exact hg, by rw [if_neg (show ¬ (0 : Int32) = 1 by decide)]⟩
  · by_cases b : q = 1
    · subst b
      obtain ⟨g, e, hg⟩ := tq_c_flip hn hN f1
      rw [tq_is1, if_pos (show ¬ (1 : Int32) = 0 by decide), if_neg (show ¬ (1 : Int32) = 0 by decide), if_pos (show (1 : Int32) = 1 from rfl), tq_bd_e e]
      exact ⟨f0, g, rfl, by rw [if_neg (show ¬ (1 : Int32) = 0 by decide)], by rw [if_pos (show (1 : Int32) = 1 from rfl)]; exact hg⟩
    · rw [tq_isN a b, if_neg (show ¬ ¬ (0 : Int32) = 0 by decide)]
      exact ⟨f0, f1, rfl, by rw [if_neg a], by rw [if_neg b]⟩
theorem tq_c_total {size : Int32} {n : Nat} (h : tq_Sz size n) {N : Nat} (hN : 4 * N = n) {p0 : Int32} (hp : p0.toInt = 8 * n - 16) (f0 f1 f3 : Nat → Int64) (q : Int32) :
    ∃ r g, f_total size p0 N f0 f1 q f3 = some (r, g) ∧ r.toInt = if q = 0 then tq_ansS n (tq_sv f0 N) else if q = 1 then tq_ansS n (tq_sv f1 N) else -2 ^ (n - 1) := by
  unfold f_total
  by_cases a : q = 0
  · subst a
    obtain ⟨r, g, e, hg⟩ := tq_roundedSum_spec h hN hp f0 f3
    rw [tq_is0, if_pos (show ¬ (1 : Int32) = 0 by decide), if_pos (show (0 : Int32) = 0 from rfl), tq_bd_e e]
    exact ⟨r, g, rfl, by rw [if_pos (show (0 : Int32) = 0 from rfl)]; exact hg⟩
  · by_cases b : q = 1
    · subst b
      obtain ⟨r, g, e, hg⟩ := tq_roundedSum_spec h hN hp f1 f3
      rw [tq_is1, if_pos (show ¬ (1 : Int32) = 0 by decide), if_neg (show ¬ (1 : Int32) = 0 by decide), if_pos (show (1 : Int32) = 1 from rfl), tq_bd_e e]
      exact ⟨r, g, rfl, by rw [if_neg (show ¬ (1 : Int32) = 0 by decide), if_pos (show (1 : Int32) = 1 from rfl)]; exact hg⟩
    · rw [tq_isN a b, if_neg (show ¬ ¬ (0 : Int32) = 0 by decide)]
      exact ⟨_, f3, rfl, by rw [if_neg a, if_neg b]; exact tq_notOf_spec h⟩
theorem tq_c_word {n N : Nat} (hn : n = 8 ∨ n = 16 ∨ n = 32) (hN : 4 * N = n) (p0 : Int32) (f0 f1 : Nat → Int64) (q k : Int32) :
    f_word p0 N f0 f1 q k = some (if (q = 0 ∨ q = 1) ∧ 0 ≤ k.toInt ∧ k.toInt < N then (if q = 0 then f0 k.toNatClampNeg else f1 k.toNatClampNeg) else 0) := by
  unfold f_word
  have c0 : ((0 : Int32)).toInt = 0 := rfl
  have hNI := tq_nI_i (n := N) (by omega)
  by_cases ab : q = 0 ∨ q = 1
  · have hs : f_isSum q = 1 := by rcases ab with rfl | rfl; exact tq_is0; exact tq_is1
    rw [hs, if_neg (show ¬ (1 : Int32) = 0 by decide)]
    by_cases k0 : k < 0
    · have kk := k0
      rw [Int32.lt_iff_toInt_lt, c0] at kk
      rw [if_pos k0, if_neg (fun z => by have := z.2.1; omega)]
    · rw [if_neg k0]
      by_cases kN : k < nI N
      · have kk := kN
        rw [Int32.lt_iff_toInt_lt, hNI] at kk
        have k2 := k0
        rw [Int32.lt_iff_toInt_lt, c0] at k2
        have hcl := tq_cl_i (x := k) (by omega)
        have hok : ¬ (k < 0 ∨ N ≤ k.toNatClampNeg) := by rintro (z | z); exact k0 z; omega
        rw [if_pos kN, if_neg hok, if_pos kN, if_neg hok, if_pos (show (q = 0 ∨ q = 1) ∧ 0 ≤ k.toInt ∧ k.toInt < N from ⟨ab, by omega, by omega⟩)]
        rcases ab with rfl | rfl
        · rfl
        · rfl
      · have kk := kN
        rw [Int32.lt_iff_toInt_lt, hNI] at kk
        rw [if_neg kN, if_neg kN, if_neg (show ¬ ((q = 0 ∨ q = 1) ∧ 0 ≤ k.toInt ∧ k.toInt < N) from fun z => by have := z.2.2; omega)]
        rcases ab with rfl | rfl
        · rfl
        · rfl
  · rw [tq_isN (fun z => ab (.inl z)) (fun z => ab (.inr z)), if_pos rfl, if_neg (fun z => ab z.1)]
theorem tq_c_collect {size : Int32} {n : Nat} (h : tq_Sz size n) {N : Nat} (hN : 4 * N = n) {p0 : Int32} (hp : p0.toInt = 8 * n - 16) (nt0 ng0 : Int32) (mg0 : Int64) (ex0 nt1 ng1 : Int32) (mg1 : Int64) (ex1 : Int32) (f0 f1 f3 : Nat → Int64) (q x y mi : Int32) :
    ∃ g0 g1 g3 a b c d a' b' c' d', f_collect size nt0 ng0 mg0 ex0 nt1 ng1 mg1 ex1 p0 N f0 f1 q f3 x y mi = some (f_isSum q, g0, g1, g3, a, b, c, d, a', b', c', d') ∧
      tq_sv g0 N = (if q = 0 then tq_incS n (tq_sv f0 N) (if mi = 0 then tq_prodS n (tq_pat n x) (tq_pat n y) else tq_negS n (tq_prodS n (tq_pat n x) (tq_pat n y))) else tq_sv f0 N) ∧
      tq_sv g1 N = (if q = 1 then tq_incS n (tq_sv f1 N) (if mi = 0 then tq_prodS n (tq_pat n x) (tq_pat n y) else tq_negS n (tq_prodS n (tq_pat n x) (tq_pat n y))) else tq_sv f1 N) := by
  unfold f_collect
  by_cases ab : q = 0 ∨ q = 1
  · have hs : f_isSum q = 1 := by rcases ab with rfl | rfl; exact tq_is0; exact tq_is1
    rw [hs, if_pos (show ¬ (1 : Int32) = 0 by decide)]
    obtain ⟨a, b, c, d, a', b', c', d', g, e1, h1⟩ := tq_c_setProduct h hN hp nt0 ng0 mg0 ex0 nt1 ng1 mg1 ex1 f3 x y
    rw [tq_bd_e e1]; simp only [tq_nm_e]
    have tail : ∀ g : Nat → Int64, ∃ g0 g1, f_collect_b31 N q f0 f1 g a b c d a' b' c' d' = some (1, g0, g1, g, a, b, c, d, a', b', c', d') ∧ tq_sv g0 N = (if q = 0 then tq_incS n (tq_sv f0 N) (tq_sv g N) else tq_sv f0 N) ∧ tq_sv g1 N = (if q = 1 then tq_incS n (tq_sv f1 N) (tq_sv g N) else tq_sv f1 N) := by
      intro g
      unfold f_collect_b31
      rcases ab with rfl | rfl
      · obtain ⟨g2, e2, h2⟩ := tq_c_include h.2 hN f0 g
        rw [if_pos (show (0 : Int32) = 0 from rfl), tq_bd_e e2]
        exact ⟨g2, f1, rfl, by rw [if_pos (show (0 : Int32) = 0 from rfl)]; exact h2, by rw [if_neg (show ¬ (0 : Int32) = 1 by decide)]⟩
      · obtain ⟨g2, e2, h2⟩ := tq_c_include h.2 hN f1 g
        rw [if_neg (show ¬ (1 : Int32) = 0 by decide), if_pos (show (1 : Int32) = 1 from rfl), tq_bd_e e2]
        exact ⟨f0, g2, rfl, by rw [if_neg (show ¬ (1 : Int32) = 0 by decide)], by rw [if_pos (show (1 : Int32) = 1 from rfl)]; exact h2⟩
    by_cases m : mi = 0
    · rw [if_pos m, if_pos m, ← h1]
      obtain ⟨g0, g1, e, q1, q2⟩ := tail g
      exact ⟨g0, g1, g, a, b, c, d, a', b', c', d', e, q1, q2⟩
    · rw [if_neg m, if_neg m, ← h1]
      obtain ⟨g', e', h'⟩ := tq_c_flip h.2 hN g
      rw [tq_bd_e e', ← h']
      obtain ⟨g0, g1, e, q1, q2⟩ := tail g'
      exact ⟨g0, g1, g', a, b, c, d, a', b', c', d', e, q1, q2⟩
  · rw [tq_isN (fun z => ab (.inl z)) (fun z => ab (.inr z)), if_neg (show ¬ ¬ (0 : Int32) = 0 by decide)]
    exact ⟨f0, f1, f3, nt0, ng0, mg0, ex0, nt1, ng1, mg1, ex1, rfl, by rw [if_neg (fun z => ab (.inl z))], by rw [if_neg (fun z => ab (.inr z))]⟩
