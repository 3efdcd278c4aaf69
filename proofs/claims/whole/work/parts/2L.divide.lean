theorem tq_mag_K {n : Nat} (hn : n = 8 ∨ n = 16 ∨ n = 32) {p : Int} {m : Nat} {e : Int} (h : tq_Parts n p m e) : tq_mag n p.natAbs * 2 ^ (124 - (4 * n - 8)) = m * 2 ^ (e + 124).toNat := by
  obtain ⟨p1, p2, p3, p4, p5, p6⟩ := h
  rw [← p4, Nat.mul_assoc, ← Nat.pow_add, show (e + (4 * (n : Int) - 8)).toNat + (124 - (4 * n - 8)) = (e + 124).toNat by omega]
theorem tq_dvd_rng {m : Nat} (hm : 1 ≤ m ∧ m < 2 ^ 28) : 2 ^ 62 ≤ tq_dvd62 m ∧ tq_dvd62 m < 2 ^ 63 ∧ Nat.log2 m < 28 := by
  have hz : m ≠ 0 := by omega
  obtain ⟨h1, h2⟩ := tq_log2_bd hz
  have h3 := tq_log2_lt28 hm.2 hz
  unfold tq_dvd62
  generalize Nat.log2 m = T at *
  have b1 := Nat.mul_le_mul_right (2 ^ (62 - T)) h1
  have b2 := Nat.mul_lt_mul_of_pos_right h2 (Nat.two_pow_pos (62 - T))
  rw [← Nat.pow_add, show T + (62 - T) = 62 by omega] at b1
  rw [← Nat.pow_add, show T + 1 + (62 - T) = 63 by omega] at b2
  exact ⟨b1, b2, h3⟩
theorem tq_lead_div {n : Nat} (hn : n = 8 ∨ n = 16 ∨ n = 32) {m m' : Nat} {e e' : Int} (hm : 1 ≤ m ∧ m < 2 ^ 28) (hm' : 1 ≤ m' ∧ m' < 2 ^ 28) (he : -124 ≤ e) (he' : -124 ≤ e') :
    tq_rM n (tq_dvd62 m / m') (e - (62 - Nat.log2 m : Nat) - e') (decide (tq_dvd62 m / m' * m' ≠ tq_dvd62 m)) = tq_pp n (e - (62 - Nat.log2 m : Nat) - e' + (Nat.log2 (tq_dvd62 m / m') : Nat)) (tq_dvd62 m / m' * 2 ^ (63 - Nat.log2 (tq_dvd62 m / m'))) (decide (tq_dvd62 m / m' * m' ≠ tq_dvd62 m)) ∧
    tq_LeadX n (tq_cC (m * 2 ^ (e + 124).toNat * 2 ^ 124) (m' * 2 ^ (e' + 124).toNat) false) (tq_cD (m * 2 ^ (e + 124).toNat * 2 ^ 124) (m' * 2 ^ (e' + 124).toNat) false) (e - (62 - Nat.log2 m : Nat) - e' + (Nat.log2 (tq_dvd62 m / m') : Nat)) (tq_dvd62 m / m' * 2 ^ (63 - Nat.log2 (tq_dvd62 m / m'))) (decide (tq_dvd62 m / m' * m' ≠ tq_dvd62 m)) := by
  obtain ⟨d1, d2, d3⟩ := tq_dvd_rng hm
  have hdd : tq_dvd62 m = m * 2 ^ (62 - Nat.log2 m) := rfl
  have hQ1 : 2 ^ 34 ≤ tq_dvd62 m / m' := by
    rw [Nat.le_div_iff_mul_le (by omega)]
    have := Nat.mul_le_mul_left (2 ^ 34) (show m' ≤ 2 ^ 28 by omega)
    rw [← Nat.pow_add] at this
    omega
  have hQ2 : tq_dvd62 m / m' < 2 ^ 63 := Nat.lt_of_le_of_lt (Nat.div_le_self _ _) d2
  have hQ0 : tq_dvd62 m / m' ≠ 0 := by omega
  have hl1 : 34 ≤ Nat.log2 (tq_dvd62 m / m') := (Nat.le_log2 hQ0).2 hQ1
  have hl2 : Nat.log2 (tq_dvd62 m / m') < 63 := (Nat.log2_lt hQ0).2 hQ2
  have hb := tq_log2_bd hQ0
  refine ⟨tq_rM_y hb _ _, ?_⟩
  have hF : 0 < m' * 2 ^ (e' + 124).toNat := Nat.mul_pos (by omega) (Nat.two_pow_pos _)
  refine tq_lead_y hn (tq_cut_c (fun _ => hF)) hb ⟨by omega, by omega⟩ (k1 := (e' + 124).toNat) (k2 := (e + 124).toNat + 94 + Nat.log2 m) (by omega) ?_
  intro x y hxy
  unfold tq_cC tq_cD
  rw [if_neg (by decide), if_neg (by decide)]
  have p := Nat.two_pow_pos ((e + 124).toNat + 94 + Nat.log2 m)
  have e1 : x * (m' * 2 ^ (e' + 124).toNat) = y * m' * 2 ^ ((e + 124).toNat + 94 + Nat.log2 m) := by
    rw [Nat.mul_comm m', ← Nat.mul_assoc, hxy, Nat.mul_right_comm]
  have e2 : m * 2 ^ (e + 124).toNat * 2 ^ 124 * 2 ^ 32 = tq_dvd62 m * 2 ^ ((e + 124).toNat + 94 + Nat.log2 m) := by
    rw [hdd, Nat.mul_assoc, Nat.mul_assoc, Nat.mul_assoc, ← Nat.pow_add, ← Nat.pow_add, ← Nat.pow_add, show (e + 124).toNat + (124 + 32) = 62 - Nat.log2 m + ((e + 124).toNat + 94 + Nat.log2 m) by omega]
  rw [e1, e2]
  have c1 : (y * m' * 2 ^ ((e + 124).toNat + 94 + Nat.log2 m) ≤ tq_dvd62 m * 2 ^ ((e + 124).toNat + 94 + Nat.log2 m)) ↔ y * m' ≤ tq_dvd62 m := ⟨fun w => Nat.le_of_mul_le_mul_right w p, fun w => Nat.mul_le_mul_right _ w⟩
  have c2 : (y * m' * 2 ^ ((e + 124).toNat + 94 + Nat.log2 m) = tq_dvd62 m * 2 ^ ((e + 124).toNat + 94 + Nat.log2 m)) ↔ y * m' = tq_dvd62 m := ⟨fun w => Nat.eq_of_mul_eq_mul_right p w, fun w => by rw [w]⟩
  rw [c1, c2, Nat.le_div_iff_mul_le (by omega)]
  refine ⟨Iff.rfl, ?_⟩
  constructor
  · intro w
    have hy : tq_dvd62 m / m' = y := by rw [← w]; exact Nat.mul_div_cancel _ (by omega)
    refine ⟨hy.symm, decide_eq_false (fun z => z (by rw [hy]; exact w))⟩
  · rintro ⟨w1, w2⟩
    rcases Nat.decEq (tq_dvd62 m / m' * m') (tq_dvd62 m) with z | z
    · rw [decide_eq_true z] at w2; cases w2
    · rw [w1]; exact z
theorem tq_mdivide_spec {nz : Int32} {n : Nat} (h : tq_Sz nz n) {f : Nat → Int32} (hw : tq_WL 200 f) (sq x y : Int32) :
    ∃ r s g, m_divide nz sq f x y = some (r, s, g) ∧ tq_WL 200 g ∧ ((tq_pat n x = -2 ^ (n - 1) ∨ tq_pat n y = -2 ^ (n - 1) ∨ tq_pat n y = 0) → r.toInt = -2 ^ (n - 1)) ∧
      (tq_pat n x ≠ -2 ^ (n - 1) → tq_pat n y ≠ -2 ^ (n - 1) → tq_pat n y ≠ 0 → ∀ m e m' e', tq_Parts n (tq_pat n x) m e → tq_Parts n (tq_pat n y) m' e' →
        r.toInt = tq_sg (decide ((tq_pat n x < 0) ≠ (tq_pat n y < 0))) (if m = 0 then 0 else tq_rM n (tq_dvd62 m / m') (e - (62 - Nat.log2 m : Nat) - e') (decide (tq_dvd62 m / m' * m' ≠ tq_dvd62 m)))) := by
  have hn := h.2
  unfold m_divide m_divide_b24
  have rx := tq_pat_rng (x := x) hn
  have ry := tq_pat_rng (x := y) hn
  by_cases nx : tq_pat n x = -2 ^ (n - 1)
  · rw [if_pos (show ¬ m_isNot nz x = 0 from fun w => (tq_misNot_spec h x).1 w nx)]
    exact ⟨_, _, _, rfl, hw, fun _ => tq_mnot_spec h, fun w => absurd nx w⟩
  · rw [if_neg (show ¬ ¬ m_isNot nz x = 0 from fun w => w ((tq_misNot_spec h x).2 nx))]
    by_cases ny : tq_pat n y = -2 ^ (n - 1)
    · rw [if_pos (show ¬ m_isNot nz y = 0 from fun w => (tq_misNot_spec h y).1 w ny)]
      exact ⟨_, _, _, rfl, hw, fun _ => tq_mnot_spec h, fun _ w => absurd ny w⟩
    · rw [if_neg (show ¬ ¬ m_isNot nz y = 0 from fun w => w ((tq_misNot_spec h y).2 ny))]
      have hpy := tq_mpat_spec h y
      by_cases y0 : tq_pat n y = 0
      · have : m_pattern nz y = 0 := Int32.toInt.inj (by rw [hpy, y0]; rfl)
        rw [if_neg (fun w => w this)]
        exact ⟨_, _, _, rfl, hw, fun _ => tq_mnot_spec h, fun _ _ w => absurd y0 w⟩
      · have : ¬ m_pattern nz y = 0 := fun w => y0 (by rw [← hpy, w]; rfl)
        rw [if_pos this]
        have px := tq_not_ne hn rx nx
        have py := tq_not_ne hn ry ny
        have hU : 4 * n - 8 ≤ 124 ∧ 124 ≤ 200 := by omega
        obtain ⟨g1, e1, w1, fr1, h1⟩ := tq_mload_spec (r := 0) (by omega) h hw x nx (un := 124) (U := 124) rfl hU
        have e1' : m_load nz f 0 x 124 = some g1 := e1
        obtain ⟨g2, e2, w2, fr2, h2⟩ := tq_raise_spec (r := 0) (by omega) w1 (my := 124) (k := 124) rfl (by omega)
        have e2' : m_raise g1 0 124 = some g2 := e2
        obtain ⟨g3, e3, w3, fr3, h3⟩ := tq_mload_spec (r := 4) (by omega) h w2 y ny (un := 124) (U := 124) rfl hU
        have e3' : m_load nz g2 4 y 124 = some g3 := e3
        rw [tq_bd_e e1', tq_bd_e e2', tq_bd_e e3']
        have bx := tq_mg_bd (U := 124) hn px hU.1
        have by' := tq_mg_bd (U := 124) hn py hU.1
        have hE : tq_rv g3 (40 * 0) 40 = tq_mag n (tq_pat n x).natAbs * 2 ^ (124 - (4 * n - 8)) * 2 ^ 124 := by
          rw [tq_Fr_rv fr3 (by omega), h2, h1, Nat.mod_eq_of_lt]
          refine Nat.lt_of_le_of_lt (Nat.mul_le_mul_right _ bx) ?_
          rw [← Nat.pow_add]; exact Nat.pow_lt_pow_right (by omega) (by omega)
        have hFb : tq_mag n (tq_pat n y).natAbs * 2 ^ (124 - (4 * n - 8)) ≤ 2 ^ 390 := Nat.le_trans by' (Nat.pow_le_pow_right (by omega) (by omega))
        have fin : ∀ b : Bool, b = decide ((tq_pat n x < 0) ≠ (tq_pat n y < 0)) → ∃ r s g, m_divide_b79 nz (if b then 1 else 0) 0 g3 = some (r, s, g) ∧ tq_WL 200 g ∧ ∀ m e m' e', tq_Parts n (tq_pat n x) m e → tq_Parts n (tq_pat n y) m' e' →
            r.toInt = tq_sg (decide ((tq_pat n x < 0) ≠ (tq_pat n y < 0))) (if m = 0 then 0 else tq_rM n (tq_dvd62 m / m') (e - (62 - Nat.log2 m : Nat) - e') (decide (tq_dvd62 m / m' * m' ≠ tq_dvd62 m))) := by
          intro b hb
          have run : ∀ m e m' e', tq_Parts n (tq_pat n x) m e → tq_Parts n (tq_pat n y) m' e' → ∃ r g, m_rounded 0 g3 (if b then 1 else 0) nz = some (r, g) ∧ tq_WL 200 g ∧ r.toInt = tq_sg (decide ((tq_pat n x < 0) ≠ (tq_pat n y < 0))) (if m = 0 then 0 else tq_rM n (tq_dvd62 m / m') (e - (62 - Nat.log2 m : Nat) - e') (decide (tq_dvd62 m / m' * m' ≠ tq_dvd62 m))) := by
            intro m e m' e' hp hp'
            rw [tq_mag_K hn hp] at hE
            have h3' := h3
            rw [tq_mag_K hn hp'] at h3' hFb
            obtain ⟨p1, p2, p3, p4, p5, p6⟩ := hp
            obtain ⟨p1', p2', p3', p4', p5', p6'⟩ := hp'
            rw [← hb]
            by_cases mz : m = 0
            · rw [if_pos mz]
              rw [mz, Nat.zero_mul, Nat.zero_mul] at hE
              refine ⟨0, g3, tq_ref_zero _ _ w3 hE, w3, ?_⟩
              unfold tq_sg; cases b <;> rfl
            · rw [if_neg mz]
              have hm1' := p5' y0
              obtain ⟨l1, l2⟩ := tq_lead_div hn (m := m) (m' := m') (e := e) (e' := e') ⟨by omega, p1⟩ ⟨hm1', p1'⟩ (by omega) (by omega)
              have hE0 : m * 2 ^ (e + 124).toNat * 2 ^ 124 ≠ 0 := Nat.ne_of_gt (Nat.mul_pos (Nat.mul_pos (by omega) (Nat.two_pow_pos _)) (Nat.two_pow_pos _))
              obtain ⟨r, g, e4, w4, hr⟩ := tq_ref_round (.inl ⟨rfl, rfl⟩) hE0 (fun _ => hFb) (fun _ => Nat.mul_pos (by omega) (Nat.two_pow_pos _)) h (if b then 1 else 0) w3 hE h3' l2
              refine ⟨r, g, e4, w4, ?_⟩
              rw [hr, l1]; unfold tq_sg; cases b <;> rfl
          obtain ⟨m0, e0, hp0⟩ := tq_parts_ex h x nx
          obtain ⟨m0', e0', hp0'⟩ := tq_parts_ex h y ny
          obtain ⟨r, g, e4, w4, hr⟩ := run m0 e0 m0' e0' hp0 hp0'
          refine ⟨r, 0, g, ?_, w4, fun m e m' e' hp hp' => ?_⟩
          · unfold m_divide_b79; rw [tq_bd_e e4]; rfl
          · obtain ⟨r', g', e5, _, hr'⟩ := run m e m' e' hp hp'
            have := e4.symm.trans e5
            cases this
            exact hr'
        rw [tq_mneg_spec h x, tq_mneg_spec h y]
        have done : ∃ r s g, (if (if decide (tq_pat n x < 0) = true then (1 : Int32) else 0) = (if decide (tq_pat n y < 0) = true then 1 else 0) then m_divide_b79 nz 0 0 g3 else m_divide_b79 nz 1 0 g3) = some (r, s, g) ∧ tq_WL 200 g ∧ ∀ m e m' e', tq_Parts n (tq_pat n x) m e → tq_Parts n (tq_pat n y) m' e' →
            r.toInt = tq_sg (decide ((tq_pat n x < 0) ≠ (tq_pat n y < 0))) (if m = 0 then 0 else tq_rM n (tq_dvd62 m / m') (e - (62 - Nat.log2 m : Nat) - e') (decide (tq_dvd62 m / m' * m' ≠ tq_dvd62 m))) := by
          by_cases s1 : tq_pat n x < 0 <;> by_cases s2 : tq_pat n y < 0
          · rw [decide_eq_true s1, decide_eq_true s2, if_pos rfl]; exact fin false (by rw [decide_eq_false]; simp [s1, s2])
          · rw [decide_eq_true s1, decide_eq_false s2, if_neg (by decide)]; exact fin true (by rw [decide_eq_true]; simp [s1, s2])
          · rw [decide_eq_false s1, decide_eq_true s2, if_neg (by decide)]; exact fin true (by rw [decide_eq_true]; simp [s1, s2])
          · rw [decide_eq_false s1, decide_eq_false s2, if_pos rfl]; exact fin false (by rw [decide_eq_false]; simp [s1, s2])
        obtain ⟨r, s, g, d1, d2, d3⟩ := done
        exact ⟨r, s, g, d1, d2, fun w => absurd w (by rintro (z | z | z); exact nx z; exact ny z; exact y0 z), fun _ _ _ m e m' e' hp hp' => d3 m e m' e' hp hp'⟩
theorem tq_sq_le {y R X : Nat} (h1 : R * R ≤ X) (h2 : X < (R + 1) * (R + 1)) : (y * y ≤ X ↔ y ≤ R) ∧ (y * y = X ↔ y = R ∧ R * R = X) := by
  constructor
  · constructor
    · intro w
      rcases Nat.lt_or_ge R y with z | z
      · have := Nat.mul_le_mul (show R + 1 ≤ y from z) (show R + 1 ≤ y from z); omega
      · exact z
    · intro w; exact Nat.le_trans (Nat.mul_le_mul w w) h1
  · constructor
    · intro w
      have hy : y = R := by
        rcases Nat.lt_trichotomy y R with z | z | z
        · have := Nat.mul_lt_mul'' z z; omega
        · exact z
        · have := Nat.mul_le_mul (show R + 1 ≤ y from z) (show R + 1 ≤ y from z); omega
      subst hy
      exact ⟨rfl, w⟩
    · rintro ⟨w1, w2⟩; rw [w1]; exact w2
theorem tq_rsh_rng {m : Nat} {e : Int} (hm : 1 ≤ m ∧ m < 2 ^ 28) : 2 ^ 60 ≤ m * 2 ^ tq_rsh m e ∧ m * 2 ^ tq_rsh m e < 2 ^ 62 ∧ (e - tq_rsh m e) % 2 = 0 ∧ tq_rsh m e ≤ 61 := by
  have hz : m ≠ 0 := by omega
  obtain ⟨h1, h2⟩ := tq_log2_bd hz
  have h3 := tq_log2_lt28 hm.2 hz
  have key : (tq_rsh m e = 61 - Nat.log2 m ∨ tq_rsh m e = 60 - Nat.log2 m) ∧ (e - tq_rsh m e) % 2 = 0 := by
    unfold tq_rsh
    split
    · exact ⟨.inl rfl, by omega⟩
    · exact ⟨.inr rfl, by omega⟩
  obtain ⟨k1, k2⟩ := key
  generalize tq_rsh m e = S at *
  generalize Nat.log2 m = T at *
  have b1 := Nat.mul_le_mul_right (2 ^ S) h1
  have b2 := Nat.mul_lt_mul_of_pos_right h2 (Nat.two_pow_pos S)
  rw [← Nat.pow_add] at b1 b2
  refine ⟨Nat.le_trans (Nat.pow_le_pow_right (by omega) (by omega)) b1, Nat.lt_of_lt_of_le b2 (Nat.pow_le_pow_right (by omega) (by omega)), k2, by omega⟩
theorem tq_lead_root {n : Nat} (hn : n = 8 ∨ n = 16 ∨ n = 32) {m R : Nat} {e : Int} (hm : 1 ≤ m ∧ m < 2 ^ 28) (he : -124 ≤ e ∧ e ≤ 124) (h1 : R * R ≤ m * 2 ^ tq_rsh m e) (h2 : m * 2 ^ tq_rsh m e < (R + 1) * (R + 1)) (F : Nat) :
    tq_rM n R ((e - tq_rsh m e) / 2) (decide (R * R ≠ m * 2 ^ tq_rsh m e)) = tq_pp n ((e - tq_rsh m e) / 2 + (30 : Nat)) (R * 2 ^ (63 - 30)) (decide (R * R ≠ m * 2 ^ tq_rsh m e)) ∧
    tq_LeadX n (tq_cC (m * 2 ^ (e + 124).toNat * 2 ^ 124) F true) (tq_cD (m * 2 ^ (e + 124).toNat * 2 ^ 124) F true) ((e - tq_rsh m e) / 2 + (30 : Nat)) (R * 2 ^ (63 - 30)) (decide (R * R ≠ m * 2 ^ tq_rsh m e)) := by
  obtain ⟨r1, r2, r3, r4⟩ := tq_rsh_rng (e := e) hm
  have hR : 2 ^ 30 ≤ R ∧ R < 2 ^ (30 + 1) := by
    constructor
    · rcases Nat.lt_or_ge R (2 ^ 30) with z | z
      · have := Nat.mul_le_mul (show R + 1 ≤ 2 ^ 30 from z) (show R + 1 ≤ 2 ^ 30 from z); omega
      · exact z
    · rcases Nat.lt_or_ge R (2 ^ 31) with z | z
      · exact z
      · have := Nat.mul_le_mul z z; omega
  refine ⟨tq_rM_y hR _ _, ?_⟩
  refine tq_lead_y hn (tq_cut_c (fun w => by cases w)) hR ⟨by omega, by omega⟩ (k1 := 200) (k2 := ((e - tq_rsh m e) / 2 + 356).toNat) (by omega) ?_
  intro x y hxy
  unfold tq_cC tq_cD
  rw [if_pos rfl, if_pos rfl]
  obtain ⟨s1, s2⟩ := tq_sq_le (y := y) h1 h2
  have hx2 : x * x * 2 ^ 400 = y * y * 2 ^ (e - tq_rsh m e + 712).toNat := by
    have this : x * 2 ^ 200 * (x * 2 ^ 200) = y * 2 ^ ((e - tq_rsh m e) / 2 + 356).toNat * (y * 2 ^ ((e - tq_rsh m e) / 2 + 356).toNat) := by rw [hxy]
    rw [Nat.mul_mul_mul_comm, Nat.mul_mul_mul_comm y, ← Nat.pow_add, ← Nat.pow_add, show ((e - tq_rsh m e) / 2 + 356).toNat + ((e - tq_rsh m e) / 2 + 356).toNat = (e - tq_rsh m e + 712).toNat by omega] at this
    exact this
  have hb2 : m * 2 ^ (e + 124).toNat * 2 ^ 124 * 2 ^ 64 * 2 ^ 400 = m * 2 ^ tq_rsh m e * 2 ^ (e - tq_rsh m e + 712).toNat := by
    rw [Nat.mul_assoc, Nat.mul_assoc, Nat.mul_assoc, Nat.mul_assoc, ← Nat.pow_add, ← Nat.pow_add, ← Nat.pow_add, ← Nat.pow_add, show (e + 124).toNat + (124 + (64 + 400)) = tq_rsh m e + (e - tq_rsh m e + 712).toNat by omega]
  have p4 := Nat.two_pow_pos 400
  have pk := Nat.two_pow_pos (e - tq_rsh m e + 712).toNat
  have c1 : (x * x ≤ m * 2 ^ (e + 124).toNat * 2 ^ 124 * 2 ^ 64) ↔ y * y ≤ m * 2 ^ tq_rsh m e := by
    constructor
    · intro w
      have := Nat.mul_le_mul_right (2 ^ 400) w
      rw [hx2, hb2] at this
      exact Nat.le_of_mul_le_mul_right this pk
    · intro w
      have := Nat.mul_le_mul_right (2 ^ (e - tq_rsh m e + 712).toNat) w
      rw [← hx2, ← hb2] at this
      exact Nat.le_of_mul_le_mul_right this p4
  have c2 : (x * x = m * 2 ^ (e + 124).toNat * 2 ^ 124 * 2 ^ 64) ↔ y * y = m * 2 ^ tq_rsh m e := by
    constructor
    · intro w
      rw [w, hb2] at hx2
      exact (Nat.eq_of_mul_eq_mul_right pk hx2).symm
    · intro w
      rw [w, ← hb2] at hx2
      exact Nat.eq_of_mul_eq_mul_right p4 hx2
  rw [c1, c2, s1, s2]
  refine ⟨Iff.rfl, ?_⟩
  constructor
  · rintro ⟨w1, w2⟩; exact ⟨w1, decide_eq_false (fun z => z w2)⟩
  · rintro ⟨w1, w2⟩
    rcases Nat.decEq (R * R) (m * 2 ^ tq_rsh m e) with z | z
    · rw [decide_eq_true z] at w2; cases w2
    · exact ⟨w1, z⟩
theorem tq_mroot_spec {nz : Int32} {n : Nat} (h : tq_Sz nz n) {f : Nat → Int32} (hw : tq_WL 200 f) (sq x : Int32) :
    ∃ r s g, m_root nz sq f x = some (r, s, g) ∧ tq_WL 200 g ∧ (tq_pat n x < 0 → r.toInt = -2 ^ (n - 1)) ∧ (tq_pat n x = 0 → r.toInt = 0) ∧
      (0 < tq_pat n x → ∀ m e R, tq_Parts n (tq_pat n x) m e → R * R ≤ m * 2 ^ tq_rsh m e → m * 2 ^ tq_rsh m e < (R + 1) * (R + 1) → r.toInt = tq_rM n R ((e - tq_rsh m e) / 2) (decide (R * R ≠ m * 2 ^ tq_rsh m e))) := by
  have hn := h.2
  unfold m_root m_root_b16
  have rx := tq_pat_rng (x := x) hn
  by_cases nx : tq_pat n x = -2 ^ (n - 1)
  · rw [if_pos (show ¬ m_isNot nz x = 0 from fun w => (tq_misNot_spec h x).1 w nx)]
    have : tq_pat n x < 0 := by rw [nx]; rcases hn with rfl | rfl | rfl <;> decide
    exact ⟨_, _, _, rfl, hw, fun _ => tq_mnot_spec h, fun w => by omega, fun w => by omega⟩
  · rw [if_neg (show ¬ ¬ m_isNot nz x = 0 from fun w => w ((tq_misNot_spec h x).2 nx)), tq_mneg_spec h x]
    by_cases s : tq_pat n x < 0
    · rw [decide_eq_true s, if_neg (by decide)]
      exact ⟨_, _, _, rfl, hw, fun _ => tq_mnot_spec h, fun w => by omega, fun w => by omega⟩
    · rw [decide_eq_false s, if_pos (by decide)]
      have px := tq_not_ne hn rx nx
      have hU : 4 * n - 8 ≤ 124 ∧ 124 ≤ 200 := by omega
      obtain ⟨g1, e1, w1, fr1, h1⟩ := tq_mload_spec (r := 0) (by omega) h hw x nx (un := 124) (U := 124) rfl hU
      have e1' : m_load nz f 0 x 124 = some g1 := e1
      obtain ⟨g2, e2, w2, fr2, h2⟩ := tq_raise_spec (r := 0) (by omega) w1 (my := 124) (k := 124) rfl (by omega)
      have e2' : m_raise g1 0 124 = some g2 := e2
      rw [tq_bd_e e1', tq_bd_e e2']
      have bx := tq_mg_bd (U := 124) hn px hU.1
      have hE : tq_rv g2 (40 * 0) 40 = tq_mag n (tq_pat n x).natAbs * 2 ^ (124 - (4 * n - 8)) * 2 ^ 124 := by
        rw [h2, h1, Nat.mod_eq_of_lt]
        refine Nat.lt_of_le_of_lt (Nat.mul_le_mul_right _ bx) ?_
        rw [← Nat.pow_add]; exact Nat.pow_lt_pow_right (by omega) (by omega)
      by_cases x0 : tq_pat n x = 0
      · have em : tq_mag n (tq_pat n x).natAbs = 0 := tq_mag_eq hn (.inl ⟨by omega, rfl⟩)
        rw [em, Nat.zero_mul, Nat.zero_mul] at hE
        rw [tq_bd_e (tq_ref_zero 0 nz w2 hE)]
        exact ⟨0, 1, g2, rfl, w2, fun w => by omega, fun _ => rfl, fun w => by omega⟩
      · have run : ∀ m e R, tq_Parts n (tq_pat n x) m e → R * R ≤ m * 2 ^ tq_rsh m e → m * 2 ^ tq_rsh m e < (R + 1) * (R + 1) → ∃ r g, m_rounded 1 g2 0 nz = some (r, g) ∧ tq_WL 200 g ∧ r.toInt = tq_rM n R ((e - tq_rsh m e) / 2) (decide (R * R ≠ m * 2 ^ tq_rsh m e)) := by
          intro m e R hp q1 q2
          rw [tq_mag_K hn hp] at hE
          obtain ⟨p1, p2, p3, p4, p5, p6⟩ := hp
          have hm1 := p5 x0
          obtain ⟨l1, l2⟩ := tq_lead_root hn (e := e) ⟨hm1, p1⟩ ⟨by omega, by omega⟩ q1 q2 (tq_rv g2 (40 * 4) 40)
          have hE0 : m * 2 ^ (e + 124).toNat * 2 ^ 124 ≠ 0 := Nat.ne_of_gt (Nat.mul_pos (Nat.mul_pos (by omega) (Nat.two_pow_pos _)) (Nat.two_pow_pos _))
          obtain ⟨r, g, e4, w4, hr⟩ := tq_ref_round (sq := 1) (.inr ⟨by decide, rfl⟩) hE0 (fun w => by cases w) (fun w => by cases w) h 0 w2 hE rfl l2
          exact ⟨r, g, e4, w4, by rw [hr, if_pos rfl, l1]⟩
        have hroot : ∀ X : Nat, ∃ R, R * R ≤ X ∧ X < (R + 1) * (R + 1) := by
          intro X
          induction X with
          | zero => exact ⟨0, by omega, by omega⟩
          | succ X ih =>
            obtain ⟨R, a, b⟩ := ih
            rcases Nat.lt_or_ge (X + 1) ((R + 1) * (R + 1)) with z | z
            · exact ⟨R, by omega, z⟩
            · refine ⟨R + 1, z, ?_⟩
              have : (R + 1 + 1) * (R + 1 + 1) = (R + 1) * (R + 1) + 2 * (R + 1) + 1 := by rw [Nat.add_mul, Nat.mul_add, Nat.mul_one, Nat.one_mul]; omega
              omega
        obtain ⟨m0, e0, hp0⟩ := tq_parts_ex h x nx
        obtain ⟨R0, a0, b0⟩ := hroot (m0 * 2 ^ tq_rsh m0 e0)
        obtain ⟨r, g, e4, w4, hr⟩ := run m0 e0 R0 hp0 a0 b0
        rw [tq_bd_e e4]
        refine ⟨r, 1, g, rfl, w4, fun w => absurd w s, fun w => absurd w x0, fun _ m e R hp q1 q2 => ?_⟩
        obtain ⟨r', g', e5, _, hr'⟩ := run m e R hp q1 q2
        have := e4.symm.trans e5
        cases this
        exact hr'
