theorem tq_mpat_spec {nz : Int32} {n : Nat} (h : tq_Sz nz n) (x : Int32) : (m_pattern nz x).toInt = tq_pat n x := by
  unfold m_pattern tq_pat
  have hl := tq_u32_lt x
  have hu := tq_i32_u x
  obtain ⟨h1, h2⟩ := h
  have e := tq_of_i32 h1
  rcases h2 with rfl | rfl | rfl
  · subst e
    rw [if_pos (by decide), if_pos (by decide)]
    have : x.toInt8.toInt32.toInt = x.toInt.bmod (2 ^ 8) := by simp
    rw [this, Int.bmod_def]
    have h3 := tq_u32_i x
    split <;> split <;> omega
  · subst e
    rw [if_pos (by decide), if_neg (by decide)]
    have : x.toInt16.toInt32.toInt = x.toInt.bmod (2 ^ 16) := by simp
    rw [this, Int.bmod_def]
    have h3 := tq_u32_i x
    split <;> split <;> omega
  · subst e
    rw [if_neg (by decide)]
    split at hu <;> split <;> omega
theorem tq_mnot_spec {nz : Int32} {n : Nat} (h : tq_Sz nz n) : (m_not nz).toInt = -2 ^ (n - 1) := tq_notOf_spec h
theorem tq_misNot_spec {nz : Int32} {n : Nat} (h : tq_Sz nz n) (x : Int32) : (m_isNot nz x = 0 ↔ tq_pat n x ≠ -2 ^ (n - 1)) := by
  unfold m_isNot
  have h1 := tq_mpat_spec h x
  have h2 := tq_mnot_spec h
  by_cases q : m_pattern nz x = m_not nz
  · rw [if_neg (fun w => w q)]
    constructor
    · intro w; exact absurd w (by decide)
    · intro w; exact absurd (by rw [← h1, q, h2]) w
  · rw [if_pos q]
    exact ⟨fun _ w => q (Int32.toInt.inj (by rw [h1, h2, w])), fun _ => rfl⟩
theorem tq_mneg_spec {nz : Int32} {n : Nat} (h : tq_Sz nz n) (x : Int32) : m_negative nz x = if decide (tq_pat n x < 0) then 1 else 0 := by
  unfold m_negative
  have h1 := tq_mpat_spec h x
  have c0 : ((0 : Int32)).toInt = 0 := rfl
  by_cases q : 0 ≤ m_pattern nz x
  · rw [if_pos q]; rw [Int32.le_iff_toInt_le, c0, h1] at q
    rw [decide_eq_false (by omega)]; rfl
  · rw [if_neg q]; rw [Int32.le_iff_toInt_le, c0, h1] at q
    rw [decide_eq_true (by omega)]; rfl
theorem tq_WL0 : tq_WL 200 (fun _ => 0) := fun i _ => (by decide : 0 ≤ ((0 : Int32)).toInt ∧ ((0 : Int32)).toInt < 65536)
/-- the whole units of a pattern, without a division -/
theorem tq_mag_div {n P : Nat} (hn : n = 8 ∨ n = 16 ∨ n = 32) (hP : 1 ≤ P ∧ P < 2 ^ (n - 1)) {R : Int} {Z : Nat} (hb : tq_Body (P * 2 ^ (33 - n)) R Z) : tq_mag n P * 2 ^ 32 = (2 ^ 32 + 4 * Z % 2 ^ 32) * 2 ^ (4 * R + (Z / 2 ^ 30 : Nat) + ((4 * n - 8 : Nat) : Int)).toNat ∧ 0 ≤ 4 * R + (Z / 2 ^ 30 : Nat) + ((4 * n - 8 : Nat) : Int) := by
  have h31 : 2 ^ (n - 1) ≤ 2 ^ 31 := Nat.pow_le_pow_right (by omega) (by omega)
  have hn2 : (nI n).toInt = n := tq_nI_i (by omega)
  have hpv : (Int64.ofNat P).toInt = P := Int64.toInt_ofNat_of_lt (by omega)
  obtain ⟨g, e, w, fr, R', Z', hb', hk, hv⟩ := tq_value_spec (r := 0) (by omega) tq_WL0 hpv (size := nI n) (un := nI (4 * n - 8)) (S := n) (U := 4 * n - 8) hn2 (by omega) hP (by omega) (tq_nI_i (by omega)) ⟨by omega, by omega⟩
  obtain ⟨rfl, rfl⟩ := tq_body_unique (tq_bB hn hP.2) hb' hb
  have em : tq_mag n P = tq_mgv n R' Z' := tq_mag_eq hn (.inr ⟨hP.1, hP.2, R', Z', hb, rfl⟩)
  have e4 : 4 * R' + ((Z' / 2 ^ 30 : Nat) : Int) + (4 * (n : Int) - 8) = 4 * R' + ((Z' / 2 ^ 30 : Nat) : Int) + ((4 * n - 8 : Nat) : Int) := by
    generalize Z' / 2 ^ 30 = z at *; omega
  refine ⟨?_, hk⟩
  rw [em]
  unfold tq_mgv
  rw [e4, ← hv, Nat.mul_div_cancel _ (by decide)]
theorem tq_mload_spec {r : Nat} (hr : r ≤ 4) {nz : Int32} {n : Nat} (h : tq_Sz nz n) {f : Nat → Int32} (hw : tq_WL 200 f) (x : Int32) (hx : tq_pat n x ≠ -2 ^ (n - 1)) {un : Int32} {U : Nat} (hu : un.toInt = U) (hU : 4 * n - 8 ≤ U ∧ U ≤ 200) :
    ∃ g, m_load nz f (nI r) x un = some g ∧ tq_WL 200 g ∧ tq_Fr r f g ∧ tq_rv g (40 * r) 40 = tq_mag n (tq_pat n x).natAbs * 2 ^ (U - (4 * n - 8)) := by
  have hn := h.2
  unfold m_load m_load_b40
  have h1 := tq_mpat_spec h x
  have hrg := tq_pat_rng (x := x) hn
  have c0 : ((0 : Int64)).toInt = 0 := rfl
  have e1 : (m_pattern nz x).toInt64.toInt = tq_pat n x := by rw [tq_i64_of_32, h1]
  rw [tq_nm_e]
  generalize (m_pattern nz x).toInt64 = v at *
  by_cases z : lg_cmp v 0 = 0
  · rw [if_neg (fun w => w z)]
    obtain ⟨g, e, w, fr, hz⟩ := tq_zero_spec hr hw
    rw [tq_bd_e e]
    refine ⟨g, rfl, w, fr, ?_⟩
    have : tq_pat n x = 0 := by rw [tq_cmp_eq] at z; rw [← e1, z]; rfl
    have em : tq_mag n (tq_pat n x).natAbs = 0 := tq_mag_eq hn (.inl ⟨by omega, rfl⟩)
    rw [tq_zero_rv hz, em, Nat.zero_mul]
  · rw [if_pos z]
    have nz0 : tq_pat n x ≠ 0 := fun w => z (tq_cmp_eq.2 (Int64.toInt.inj (by rw [e1, w]; rfl)))
    have hP : 1 ≤ (tq_pat n x).natAbs ∧ (tq_pat n x).natAbs < 2 ^ (n - 1) := by rcases hn with rfl | rfl | rfl <;> omega
    have fin : ∀ pv : Int64, pv.toInt = ((tq_pat n x).natAbs : Int) → ∃ g, tq_bd (m_value f (nI r) pv nz un) (fun lf5 => some lf5) = some g ∧ tq_WL 200 g ∧ tq_Fr r f g ∧ tq_rv g (40 * r) 40 = tq_mag n (tq_pat n x).natAbs * 2 ^ (U - (4 * n - 8)) := by
      intro pv hpv
      obtain ⟨g, e, w, fr, R, Z, hb, hk, hv⟩ := tq_value_spec hr hw hpv (S := n) h.1 (by omega) hP (by omega) hu hU
      rw [tq_bd_e e]
      refine ⟨g, rfl, w, fr, ?_⟩
      obtain ⟨m1, m2⟩ := tq_mag_div hn hP hb
      have e3 : (4 * R + (Z / 2 ^ 30 : Nat) + (U : Int)).toNat = (4 * R + (Z / 2 ^ 30 : Nat) + ((4 * n - 8 : Nat) : Int)).toNat + (U - (4 * n - 8)) := by
        clear hv m1 hb
        generalize Z / 2 ^ 30 = z at *; omega
      rw [e3, Nat.pow_add, ← Nat.mul_assoc, ← m1, Nat.mul_right_comm] at hv
      exact Nat.eq_of_mul_eq_mul_right (by decide) hv
    by_cases s : 0 ≤ lg_cmp v 0
    · rw [if_pos s]; rw [tq_cmp_ge, c0, e1] at s
      exact fin v (by rw [e1]; omega)
    · rw [if_neg s]; rw [tq_cmp_ge, c0, e1] at s
      have h63 : -2 ^ 63 < v.toInt := by rw [e1]; rcases hn with rfl | rfl | rfl <;> omega
      exact fin (-v) (by rw [tq_i64_neg h63, e1]; omega)
theorem tq_mfactor_spec {f : Nat → Int32} (hw : tq_WL 200 f) (sq : Int32) {pw : Int32} {k : Nat} (hk : pw.toInt = k) (hk2 : k < 600) : ∃ g, m_factor sq f pw = some (0, g) ∧ tq_WL 200 g ∧ tq_Fr 4 f g ∧ tq_rv g (40 * 4) 40 = 2 ^ k := by
  unfold m_factor
  obtain ⟨g1, e1, w1, fr1, h1⟩ := tq_setLong_spec (r := 4) (by omega) hw 1
  have e1' : m_setLong f 4 1 = some g1 := e1
  rw [tq_bd_e e1']
  obtain ⟨g2, e2, w2, fr2, h2⟩ := tq_raise_spec (r := 4) (by omega) w1 hk (by omega)
  have e2' : m_raise g1 4 pw = some g2 := e2
  rw [tq_bd_e e2']
  refine ⟨g2, rfl, w2, fun x hx => by rw [fr2 x hx]; exact fr1 x hx, ?_⟩
  have u1 : tq_u64 (1 : Int64) = 1 := rfl
  rw [h2, h1, u1, Nat.one_mul, Nat.mod_eq_of_lt (Nat.pow_lt_pow_right (by omega) (by omega))]
/-- leading bits of A -/
def tq_sigA (A : Nat) : Nat := if 63 ≤ Nat.log2 A then A / 2 ^ (Nat.log2 A - 63) else A * 2 ^ (63 - Nat.log2 A)
def tq_moA (A : Nat) : Bool := decide (63 ≤ Nat.log2 A ∧ A % 2 ^ (Nat.log2 A - 63) ≠ 0)
theorem tq_sigA_le {A c T : Nat} (hT : Nat.log2 A = T) : (c * 2 ^ 35 ≤ tq_sigA A ↔ c * 2 ^ T ≤ A * 2 ^ 28) ∧ ((c * 2 ^ 35 = tq_sigA A ∧ tq_moA A = false) ↔ c * 2 ^ T = A * 2 ^ 28) := by
  unfold tq_sigA tq_moA
  rw [hT]
  by_cases h : 63 ≤ T
  · have p := Nat.two_pow_pos (T - 63)
    have e1 : 2 ^ T = 2 ^ 35 * 2 ^ (T - 63) * 2 ^ 28 := by rw [← Nat.pow_add, ← Nat.pow_add, show 35 + (T - 63) + 28 = T by omega]
    have q28 : 0 < 2 ^ 28 := by decide
    rw [if_pos h, e1, ← Nat.mul_assoc, ← Nat.mul_assoc]
    constructor
    · rw [Nat.le_div_iff_mul_le p]
      exact ⟨fun w => Nat.mul_le_mul_right _ w, fun w => Nat.le_of_mul_le_mul_right w q28⟩
    · constructor
      · rintro ⟨w1, w2⟩
        have w2 : A % 2 ^ (T - 63) = 0 := by
          rcases Nat.eq_zero_or_pos (A % 2 ^ (T - 63)) with z | z
          · exact z
          · have : decide (63 ≤ T ∧ A % 2 ^ (T - 63) ≠ 0) = true := decide_eq_true ⟨h, Nat.ne_of_gt z⟩
            rw [this] at w2; cases w2
        rw [w1, Nat.div_mul_cancel (Nat.dvd_of_mod_eq_zero w2)]
      · intro w
        have w := Nat.eq_of_mul_eq_mul_right q28 w
        rw [← w]
        refine ⟨(Nat.mul_div_cancel _ p).symm, decide_eq_false (fun z => z.2 (Nat.mul_mod_left _ _))⟩
  · have p := Nat.two_pow_pos T
    have e1 : 2 ^ (63 - T) * 2 ^ T = 2 ^ 28 * 2 ^ 35 := by rw [← Nat.pow_add, ← Nat.pow_add, show 63 - T + T = 63 by omega]
    have q35 : 0 < 2 ^ 35 := by decide
    rw [if_neg h]
    have k1 : c * 2 ^ 35 * 2 ^ T = c * 2 ^ T * 2 ^ 35 := Nat.mul_right_comm _ _ _
    have k2 : A * 2 ^ (63 - T) * 2 ^ T = A * 2 ^ 28 * 2 ^ 35 := by rw [Nat.mul_assoc, e1, Nat.mul_assoc]
    constructor
    · constructor
      · intro w
        have := Nat.mul_le_mul_right (2 ^ T) w
        rw [k1, k2] at this
        exact Nat.le_of_mul_le_mul_right this q35
      · intro w
        have := Nat.mul_le_mul_right (2 ^ 35) w
        rw [← k1, ← k2] at this
        exact Nat.le_of_mul_le_mul_right this p
    · constructor
      · rintro ⟨w, _⟩
        have := congrArg (· * 2 ^ T) w
        simp only [k1, k2] at this
        exact Nat.eq_of_mul_eq_mul_right q35 this
      · intro w
        have := congrArg (· * 2 ^ 35) w
        simp only [← k1, ← k2] at this
        exact ⟨Nat.eq_of_mul_eq_mul_right p this, decide_eq_false (fun z => h z.1)⟩
