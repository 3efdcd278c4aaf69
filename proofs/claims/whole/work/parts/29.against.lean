/-- E / F (or the root of E) against x, in units of 2^(-156) -/
def tq_cC (E F : Nat) (q : Bool) (x : Nat) : Prop := if q then x * x ≤ E * 2 ^ 64 else x * F ≤ E * 2 ^ 32
def tq_cD (E F : Nat) (q : Bool) (x : Nat) : Prop := if q then x * x = E * 2 ^ 64 else x * F = E * 2 ^ 32
theorem tq_cut_c {E F : Nat} {q : Bool} (hF : q = false → 0 < F) : tq_Cut (tq_cC E F q) (tq_cD E F q) := by
  unfold tq_Cut tq_cC tq_cD
  cases q
  · have hF := hF rfl
    refine ⟨fun v w h1 h2 => ?_, fun v h => ?_, fun v w h1 h2 h3 => ?_⟩
    · rw [if_neg (by decide)] at h2 ⊢; exact Nat.le_trans (Nat.mul_le_mul_right _ h1) h2
    · rw [if_neg (by decide)] at h ⊢; exact Nat.le_of_eq h
    · rw [if_neg (by decide)] at h1 h3
      have := Nat.mul_lt_mul_of_pos_right h2 hF
      exact absurd (Nat.lt_of_lt_of_le this h3) (by rw [h1]; exact Nat.lt_irrefl _)
  · refine ⟨fun v w h1 h2 => ?_, fun v h => ?_, fun v w h1 h2 h3 => ?_⟩
    · rw [if_pos rfl] at h2 ⊢; exact Nat.le_trans (Nat.mul_le_mul h1 h1) h2
    · rw [if_pos rfl] at h ⊢; exact Nat.le_of_eq h
    · rw [if_pos rfl] at h1 h3
      have : v * v < w * w := Nat.mul_lt_mul'' h2 h2
      exact absurd (Nat.lt_of_lt_of_le this h3) (by rw [h1]; exact Nat.lt_irrefl _)
theorem tq_trio {E X : Nat} {r : Int32} (h : (E < X ∧ r = -1) ∨ (E = X ∧ r = 0) ∨ (X < E ∧ r = 1)) {c d : Prop} (hc : c ↔ X ≤ E) (hd : d ↔ X = E) : (c ∧ ¬ d ∧ r = 1) ∨ (c ∧ d ∧ r = 0) ∨ (¬ c ∧ r = -1) := by
  rcases h with ⟨a, b⟩ | ⟨a, b⟩ | ⟨a, b⟩
  · right; right; exact ⟨by rw [hc]; omega, b⟩
  · right; left; exact ⟨by rw [hc]; omega, by rw [hd]; omega, b⟩
  · left; exact ⟨by rw [hc]; omega, by rw [hd]; omega, b⟩
theorem tq_sc32 {w x F E : Nat} (h : w * 2 ^ 32 = x) : (x * F ≤ E * 2 ^ 32 ↔ w * F ≤ E) ∧ (x * F = E * 2 ^ 32 ↔ w * F = E) := by
  have e : x * F = w * F * 2 ^ 32 := by rw [← h]; ac_rfl
  rw [e]
  have p : 0 < 2 ^ 32 := by decide
  exact ⟨⟨fun q => Nat.le_of_mul_le_mul_right q p, fun q => Nat.mul_le_mul_right _ q⟩, ⟨fun q => Nat.eq_of_mul_eq_mul_right p q, fun q => by rw [q]⟩⟩
theorem tq_sc64 {w x E : Nat} (h : w * 2 ^ 32 = x) : (x * x ≤ E * 2 ^ 64 ↔ w * w ≤ E) ∧ (x * x = E * 2 ^ 64 ↔ w * w = E) := by
  have e : x * x = w * w * 2 ^ 64 := by
    rw [← h]
    have : (2 : Nat) ^ 64 = 2 ^ 32 * 2 ^ 32 := by decide
    rw [this]; ac_rfl
  rw [e]
  have p : 0 < 2 ^ 64 := by decide
  exact ⟨⟨fun q => Nat.le_of_mul_le_mul_right q p, fun q => Nat.mul_le_mul_right _ q⟩, ⟨fun q => Nat.eq_of_mul_eq_mul_right p q, fun q => by rw [q]⟩⟩
theorem tq_against_spec {f : Nat → Int32} (hw : tq_WL 200 f) {sq : Int32} {q : Bool} (hsq : (sq = 0 ∧ q = false) ∨ (sq ≠ 0 ∧ q = true)) {E F : Nat} (hE : tq_rv f (40 * 0) 40 = E) (hF : tq_rv f (40 * 4) 40 = F) (hFb : q = false → F ≤ 2 ^ 390) {pv : Int64} {P : Nat} (hp : pv.toInt = P) {size : Int32} {S : Nat} (hs : size.toInt = S) (hS : 2 ≤ S ∧ S ≤ 33) (hP : 1 ≤ P ∧ P < 2 ^ (S - 1)) (hne : S = 33 → P + 1 ≠ 2 ^ 32) :
    ∃ rr g, m_against sq f pv size = some (rr, g) ∧ tq_WL 200 g ∧ tq_rv g (40 * 0) 40 = E ∧ tq_rv g (40 * 4) 40 = F ∧ ∃ R Z, tq_Body (P * 2 ^ (33 - S)) R Z ∧ ((tq_cC E F q (tq_xv R Z) ∧ ¬ tq_cD E F q (tq_xv R Z) ∧ rr = 1) ∨ (tq_cC E F q (tq_xv R Z) ∧ tq_cD E F q (tq_xv R Z) ∧ rr = 0) ∨ (¬ tq_cC E F q (tq_xv R Z) ∧ rr = -1)) := by
  unfold m_against
  obtain ⟨g1, e1, w1, fr1, R, Z, hb, hk, hv⟩ := tq_value_spec (r := 2) (by omega) hw hp (un := 124) (U := 124) hs hS hP hne rfl ⟨by omega, by omega⟩
  have e1' : m_value f 2 pv size 124 = some g1 := e1
  rw [tq_bd_e e1']
  have hx : tq_rv g1 (40 * 2) 40 * 2 ^ 32 = tq_xv R Z := hv
  have hr := tq_body_r hb
  have hwb : tq_rv g1 (40 * 2) 40 < 2 ^ 248 := by
    have hz3 : Z / 2 ^ 30 < 4 := by omega
    have hk2 : 4 * R + (Z / 2 ^ 30 : Nat) + 157 ≤ ((280 : Nat) : Int) := by
      clear hk hv hx
      generalize Z / 2 ^ 30 = e at *; omega
    have h1 : tq_xv R Z < 2 ^ 280 := tq_xv_hi hr.1 hk2
    rw [← hx, show (280 : Nat) = 248 + 32 from rfl, Nat.pow_add] at h1
    exact Nat.lt_of_mul_lt_mul_right h1
  have hE1 : tq_rv g1 (40 * 0) 40 = E := by rw [tq_Fr_rv fr1 (by omega)]; exact hE
  have hF1 : tq_rv g1 (40 * 4) 40 = F := by rw [tq_Fr_rv fr1 (by omega)]; exact hF
  have fin : ∀ b : Nat, b ≤ 4 → b ≠ 3 → tq_rv g1 (40 * 2) 40 * tq_rv g1 (40 * b) 40 < 2 ^ 640 → (tq_cC E F q (tq_xv R Z) ↔ tq_rv g1 (40 * 2) 40 * tq_rv g1 (40 * b) 40 ≤ E) → (tq_cD E F q (tq_xv R Z) ↔ tq_rv g1 (40 * 2) 40 * tq_rv g1 (40 * b) 40 = E) →
      ∃ rr g, m_against_b23 (nI b) 2 g1 = some (rr, g) ∧ tq_WL 200 g ∧ tq_rv g (40 * 0) 40 = E ∧ tq_rv g (40 * 4) 40 = F ∧ ∃ R Z, tq_Body (P * 2 ^ (33 - S)) R Z ∧ ((tq_cC E F q (tq_xv R Z) ∧ ¬ tq_cD E F q (tq_xv R Z) ∧ rr = 1) ∨ (tq_cC E F q (tq_xv R Z) ∧ tq_cD E F q (tq_xv R Z) ∧ rr = 0) ∨ (¬ tq_cC E F q (tq_xv R Z) ∧ rr = -1)) := by
    intro b hb4 hb3 hlt hc hd
    unfold m_against_b23
    obtain ⟨g2, e2, w2, fr2, h2⟩ := tq_times_spec (a := 2) (b := b) (t := 3) (by omega) hb4 (by omega) (by omega) hb3 w1
    have e2' : m_times g1 2 (nI b) 3 = some g2 := e2
    rw [tq_bd_e e2']
    obtain ⟨rr, e3, h3⟩ := tq_order_spec (a := 0) (b := 3) (by omega) (by omega) w2
    have e3' : m_order g2 0 3 = some rr := e3
    rw [tq_bd_e e3']
    rw [Nat.mod_eq_of_lt hlt] at h2
    have hE2 : tq_rv g2 (40 * 0) 40 = E := by rw [tq_Fr_rv fr2 (by omega)]; exact hE1
    have hF2 : tq_rv g2 (40 * 4) 40 = F := by rw [tq_Fr_rv fr2 (by omega)]; exact hF1
    rw [hE2, h2] at h3
    exact ⟨rr, g2, rfl, w2, hE2, hF2, R, Z, hb, tq_trio h3 hc hd⟩
  rcases hsq with ⟨a, b⟩ | ⟨a, b⟩
  · subst b
    rw [if_pos a]
    have s := tq_sc32 (F := F) (E := E) hx
    refine fin 4 (by omega) (by omega) ?_ (by unfold tq_cC; rw [if_neg (by decide), hF1]; exact s.1) (by unfold tq_cD; rw [if_neg (by decide), hF1]; exact s.2)
    rw [hF1]
    refine Nat.lt_of_lt_of_le (Nat.mul_lt_mul_of_lt_of_le hwb (hFb rfl) (Nat.two_pow_pos _)) ?_
    rw [← Nat.pow_add]; exact Nat.pow_le_pow_right (by omega) (by omega)
  · subst b
    rw [if_neg a]
    have s := tq_sc64 (E := E) hx
    refine fin 2 (by omega) (by omega) ?_ (by unfold tq_cC; rw [if_pos rfl]; exact s.1) (by unfold tq_cD; rw [if_pos rfl]; exact s.2)
    refine Nat.lt_of_lt_of_le (Nat.mul_lt_mul_of_lt_of_le hwb (Nat.le_of_lt hwb) (Nat.two_pow_pos _)) ?_
    rw [← Nat.pow_add]; exact Nat.pow_le_pow_right (by omega) (by omega)
