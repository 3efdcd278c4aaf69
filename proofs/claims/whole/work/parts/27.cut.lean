/-- a value in units of 2^(-156): what run R and rest Z stand for -/
def tq_xv (R : Int) (Z : Nat) : Nat := (2 ^ 32 + 4 * Z % 2 ^ 32) * 2 ^ (4 * R + (Z / 2 ^ 30 : Nat) + 124).toNat
theorem tq_xv_lo {R : Int} {Z : Nat} (h : -31 ≤ R) {k : Nat} (hk : (k : Int) ≤ 4 * R + (Z / 2 ^ 30 : Nat) + 156) : 2 ^ k ≤ tq_xv R Z := by
  unfold tq_xv
  have h1 : 2 ^ (32 + (4 * R + (Z / 2 ^ 30 : Nat) + 124).toNat) ≤ (2 ^ 32 + 4 * Z % 2 ^ 32) * 2 ^ (4 * R + (Z / 2 ^ 30 : Nat) + 124).toNat := by
    rw [Nat.pow_add]; exact Nat.mul_le_mul_right _ (Nat.le_add_right _ _)
  refine Nat.le_trans (Nat.pow_le_pow_right (by omega) ?_) h1
  generalize Z / 2 ^ 30 = e at *
  omega
theorem tq_xv_hi {R : Int} {Z : Nat} (h : -31 ≤ R) {k : Nat} (hk : 4 * R + (Z / 2 ^ 30 : Nat) + 157 ≤ (k : Int)) : tq_xv R Z < 2 ^ k := by
  unfold tq_xv
  have h1 : (2 ^ 32 + 4 * Z % 2 ^ 32) * 2 ^ (4 * R + (Z / 2 ^ 30 : Nat) + 124).toNat < 2 ^ (33 + (4 * R + (Z / 2 ^ 30 : Nat) + 124).toNat) := by
    rw [Nat.pow_add]; exact Nat.mul_lt_mul_of_pos_right (by omega) (Nat.two_pow_pos _)
  refine Nat.lt_of_lt_of_le h1 (Nat.pow_le_pow_right (by omega) ?_)
  generalize Z / 2 ^ 30 = e at *
  omega
theorem tq_xv_mono_z {R : Int} {Z Z' : Nat} (h : -31 ≤ R) (hz : Z ≤ Z') : tq_xv R Z ≤ tq_xv R Z' := by
  rcases Nat.lt_or_ge (Z / 2 ^ 30) (Z' / 2 ^ 30) with q | q
  · obtain ⟨k, hk⟩ : ∃ k : Nat, (k : Int) = 4 * R + (Z / 2 ^ 30 : Nat) + 157 := ⟨(4 * R + (Z / 2 ^ 30 : Nat) + 157).toNat, by generalize Z / 2 ^ 30 = e at *; omega⟩
    exact Nat.le_trans (Nat.le_of_lt (tq_xv_hi h (k := k) (by omega))) (tq_xv_lo h (k := k) (by omega))
  · have e : Z / 2 ^ 30 = Z' / 2 ^ 30 := by
      have := Nat.div_le_div_right (c := 2 ^ 30) hz; omega
    unfold tq_xv
    rw [e]
    exact Nat.mul_le_mul_right _ (by omega)
theorem tq_body_mono {B B' : Nat} (hB : B' < 2 ^ 32) (hBB : B ≤ B') {R R' : Int} {Z Z' : Nat} (h : tq_Body B R Z) (h' : tq_Body B' R' Z') : R < R' ∨ (R = R' ∧ Z ≤ Z') := by
  obtain ⟨z1, h⟩ := h
  obtain ⟨z2, h'⟩ := h'
  have conv : ∀ {B : Nat} {r : Int} {Z : Nat}, B < 2 ^ 32 → B * 2 ^ (r.toNat + 2) + 2 ^ 33 = 2 ^ 32 * 2 ^ (r.toNat + 2) + Z → (2 ^ 32 - B) * 2 ^ (r.toNat + 2) + Z = 2 ^ 33 := by
    intro B r Z hb h
    rw [Nat.sub_mul]
    have := Nat.mul_le_mul_right (2 ^ (r.toNat + 2)) (show B ≤ 2 ^ 32 by omega)
    omega
  rcases h with ⟨a1, a2, a3⟩ | ⟨a1, a2, a3⟩ <;> rcases h' with ⟨b1, b2, b3⟩ | ⟨b1, b2, b3⟩
  · have a3 := conv (by omega) a3
    have b3 := conv hB b3
    rcases Int.lt_trichotomy R R' with q | q | q
    · exact .inl q
    · right; refine ⟨q, ?_⟩
      subst q
      have := Nat.mul_le_mul_right (2 ^ (R.toNat + 2)) (show 2 ^ 32 - B' ≤ 2 ^ 32 - B by omega)
      omega
    · exfalso
      have w := tq_pow_sep (X := 2 ^ 32 - B') (show R'.toNat + 2 < R.toNat + 2 by omega) (by omega)
      have s := Nat.mul_le_mul_left (2 ^ 32 - B') (Nat.pow_le_pow_right (n := 2) (by omega) (show R'.toNat + 2 + 1 ≤ R.toNat + 2 by omega))
      rw [Nat.pow_succ (n := 2) (m := R'.toNat + 2), ← Nat.mul_assoc] at s
      have := Nat.mul_le_mul_right (2 ^ (R.toNat + 2)) (show 2 ^ 32 - B' ≤ 2 ^ 32 - B by omega)
      omega
  · exfalso
    have h1 : 2 ^ 31 ≤ B := by
      have a3 := conv (by omega) a3
      have : 2 ^ 2 ≤ 2 ^ (R.toNat + 2) := Nat.pow_le_pow_right (by omega) (by omega)
      have := Nat.mul_le_mul_left (2 ^ 32 - B) this
      omega
    have h2 : B' < 2 ^ 31 := by
      have : 2 ^ 2 ≤ 2 ^ ((-R').toNat + 1) := Nat.pow_le_pow_right (by omega) (by omega)
      have := Nat.mul_le_mul_left B' this
      omega
    omega
  · left; omega
  · rcases Int.lt_trichotomy R R' with q | q | q
    · exact .inl q
    · right; refine ⟨q, ?_⟩
      subst q
      have := Nat.mul_le_mul_right (2 ^ ((-R).toNat + 1)) hBB
      omega
    · exfalso
      have w := tq_pow_sep (X := B) (show (-R).toNat + 1 < (-R').toNat + 1 by omega) (by omega)
      have := Nat.mul_le_mul_right (2 ^ ((-R').toNat + 1)) hBB
      omega
theorem tq_body_r {B : Nat} {R : Int} {Z : Nat} (h : tq_Body B R Z) : -31 ≤ R ∧ R ≤ 30 ∧ Z < 2 ^ 32 := by
  obtain ⟨z, h⟩ := h
  rcases h with ⟨a, b, _⟩ | ⟨a, b, _⟩ <;> omega
theorem tq_xv_mono {B B' : Nat} (hB : B' < 2 ^ 32) (hBB : B ≤ B') {R R' : Int} {Z Z' : Nat} (h : tq_Body B R Z) (h' : tq_Body B' R' Z') : tq_xv R Z ≤ tq_xv R' Z' := by
  have r1 := tq_body_r h
  have r2 := tq_body_r h'
  rcases tq_body_mono hB hBB h h' with q | ⟨q, w⟩
  · obtain ⟨k, hk⟩ : ∃ k : Nat, (k : Int) = 4 * R' + 156 := ⟨(4 * R' + 156).toNat, by omega⟩
    have e3 : Z / 2 ^ 30 < 4 := by omega
    exact Nat.le_trans (Nat.le_of_lt (tq_xv_hi r1.1 (k := k) (by generalize Z / 2 ^ 30 = e at *; omega))) (tq_xv_lo r2.1 (k := k) (by generalize Z' / 2 ^ 30 = e at *; omega))
  · subst q; exact tq_xv_mono_z r1.1 w
/-- a number x, by what lies below it: C v: v ≤ x; D v: v = x -/
def tq_Cut (C D : Nat → Prop) : Prop := (∀ v w, v ≤ w → C w → C v) ∧ (∀ v, D v → C v) ∧ (∀ v w, D v → v < w → ¬ C w)
/-- the number between 2^s and 2^(s+1), with the leading bits sig, and more behind them or not -/
def tq_Lead (C D : Nat → Prop) (s : Int) (sig : Nat) (mo : Bool) : Prop :=
  2 ^ 63 ≤ sig ∧ sig < 2 ^ 64 ∧ (∀ c x : Nat, 2 ^ 28 ≤ c → c < 2 ^ 29 → x * 2 ^ 28 = c * 2 ^ (s + 156).toNat → (C x ↔ c * 2 ^ 35 ≤ sig) ∧ (D x ↔ c * 2 ^ 35 = sig ∧ mo = false)) ∧ ¬ C (2 ^ (s + 157).toNat)
theorem tq_xv_same {s : Int} (hs : -124 ≤ s) {Z : Nat} (h4 : Z % 4 = 0) (he : (Z / 2 ^ 30 : Nat) = s % 4) (hz : Z < 2 ^ 32) : ∃ c, 2 ^ 28 ≤ c ∧ c < 2 ^ 29 ∧ tq_xv (s / 4) Z * 2 ^ 28 = c * 2 ^ (s + 156).toNat ∧ c * 2 ^ 35 = 2 ^ 63 + (Z % 2 ^ 30) * 2 ^ 33 := by
  refine ⟨2 ^ 28 + Z % 2 ^ 30 / 4, by omega, by omega, ?_, by omega⟩
  unfold tq_xv
  have e1 : (4 * (s / 4) + (Z / 2 ^ 30 : Nat) + 124).toNat = (s + 124).toNat := by
    generalize Z / 2 ^ 30 = e at *; omega
  have e2 : 2 ^ 32 + 4 * Z % 2 ^ 32 = (2 ^ 28 + Z % 2 ^ 30 / 4) * 2 ^ 4 := by omega
  rw [e1, e2, Nat.mul_assoc, Nat.mul_assoc, ← Nat.pow_add, ← Nat.pow_add]
  congr 2
  omega
theorem tq_cmp_xv {C D : Nat → Prop} (hcut : tq_Cut C D) {s : Int} (hs : -124 ≤ s ∧ s ≤ 124) {sig : Nat} {mo : Bool} (hl : tq_Lead C D s sig mo) {Z : Nat} (hz : Z < 2 ^ 32) (h4 : Z % 4 = 0) {A : Nat} (hA : A = (s % 4).toNat * 2 ^ 63 + (sig - 2 ^ 63)) :
    (C (tq_xv (s / 4) Z) ↔ Z * 2 ^ 33 ≤ A) ∧ (D (tq_xv (s / 4) Z) ↔ Z * 2 ^ 33 = A ∧ mo = false) := by
  obtain ⟨l1, l2, l3, l4⟩ := hl
  obtain ⟨m1, m2, m3⟩ := hcut
  have r1 : -31 ≤ s / 4 := by omega
  have c0 : C (2 ^ (s + 156).toNat) := by
    refine ((l3 (2 ^ 28) (2 ^ (s + 156).toNat) (Nat.le_refl _) (by omega) (Nat.mul_comm _ _)).1).2 ?_
    omega
  have hzz : Z * 2 ^ 33 = Z / 2 ^ 30 * 2 ^ 63 + Z % 2 ^ 30 * 2 ^ 33 := by omega
  have he3 : Z / 2 ^ 30 < 4 := by omega
  rcases Int.lt_trichotomy (Z / 2 ^ 30 : Nat) (s % 4) with q | q | q
  · -- below
    have hx : tq_xv (s / 4) Z < 2 ^ (s + 156).toNat := tq_xv_hi r1 (by generalize Z / 2 ^ 30 = e at *; omega)
    have hle : Z * 2 ^ 33 < A := by
      rw [hA, hzz]
      have : (Z / 2 ^ 30 + 1) * 2 ^ 63 ≤ (s % 4).toNat * 2 ^ 63 := Nat.mul_le_mul_right _ (by generalize Z / 2 ^ 30 = e at *; omega)
      omega
    refine ⟨⟨fun _ => Nat.le_of_lt hle, fun _ => m1 _ _ (Nat.le_of_lt hx) c0⟩, ⟨fun d => absurd c0 (m3 _ _ d hx), fun d => by omega⟩⟩
  · obtain ⟨c, c1, c2, c3, c4⟩ := tq_xv_same hs.1 h4 q hz
    obtain ⟨p1, p2⟩ := l3 c _ c1 c2 c3
    have hx : Z * 2 ^ 33 = (s % 4).toNat * 2 ^ 63 + Z % 2 ^ 30 * 2 ^ 33 := by
      rw [hzz]; congr 2; generalize Z / 2 ^ 30 = e at *; omega
    rw [c4] at p1 p2
    rw [p1, p2, hA, hx]
    constructor
    · constructor <;> intro w <;> omega
    · constructor
      · rintro ⟨w, w2⟩; refine ⟨?_, w2⟩
        rw [← w, Nat.add_sub_cancel_left]
      · rintro ⟨w, w2⟩; refine ⟨?_, w2⟩
        have w := Nat.add_left_cancel w
        omega
  · -- above
    have hx : 2 ^ (s + 157).toNat ≤ tq_xv (s / 4) Z := tq_xv_lo r1 (by generalize Z / 2 ^ 30 = e at *; omega)
    have hgt : A < Z * 2 ^ 33 := by
      rw [hA, hzz]
      have : ((s % 4).toNat + 1) * 2 ^ 63 ≤ Z / 2 ^ 30 * 2 ^ 63 := Nat.mul_le_mul_right _ (by generalize Z / 2 ^ 30 = e at *; omega)
      omega
    have nc : ¬ C (tq_xv (s / 4) Z) := fun w => l4 (m1 _ _ hx w)
    exact ⟨⟨fun w => absurd w nc, fun w => by omega⟩, ⟨fun d => absurd (m2 _ d) nc, fun d => by omega⟩⟩
