theorem tq_n640 {a b k : Nat} (ha : a ≤ 2 ^ k) (hb : b ≤ 2 ^ k) (hk : k ≤ 600) : a + b < 2 ^ 640 := by
  have h1 := Nat.pow_add 2 1 k
  have h2 : 2 ^ (1 + k) < 2 ^ 640 := Nat.pow_lt_pow_right (by omega) (by omega)
  rw [h1] at h2
  generalize 2 ^ 640 = X at *
  generalize 2 ^ k = Y at *
  omega
theorem tq_mg_bd {n : Nat} {p : Int} {U : Nat} (hn : n = 8 ∨ n = 16 ∨ n = 32) (hp : -2 ^ (n - 1) < p ∧ p < 2 ^ (n - 1)) (hU : 4 * n - 8 ≤ U) : tq_mag n p.natAbs * 2 ^ (U - (4 * n - 8)) ≤ 2 ^ (4 * n - 8 + U) := by
  have := Nat.mul_le_mul_right (2 ^ (U - (4 * n - 8))) (tq_mag_le hn hp)
  rw [← Nat.pow_add, show 8 * n - 16 + (U - (4 * n - 8)) = 4 * n - 8 + U by omega] at this
  exact this
theorem tq_mfused_spec {nz : Int32} {n : Nat} (h : tq_Sz nz n) {f : Nat → Int32} (hw : tq_WL 200 f) (sq x y z : Int32) :
    ∃ r s g, m_fused nz sq f x y z = some (r, s, g) ∧ tq_WL 200 g ∧ r.toInt = tq_ansS n (tq_incS n (tq_prodS n (tq_pat n x) (tq_pat n y)) (tq_prodS n (tq_pat n z) (2 ^ (n - 2)))) := by
  have hn := h.2
  unfold m_fused m_fused_b24
  have rx := tq_pat_rng (x := x) hn
  have ry := tq_pat_rng (x := y) hn
  have rz := tq_pat_rng (x := z) hn
  by_cases nx : tq_pat n x = -2 ^ (n - 1)
  · rw [if_pos (show ¬ m_isNot nz x = 0 from fun w => (tq_misNot_spec h x).1 w nx)]
    exact ⟨_, _, _, rfl, hw, by rw [tq_mnot_spec h, nx, tq_prod_not1, tq_ans_not1]⟩
  · rw [if_neg (show ¬ ¬ m_isNot nz x = 0 from fun w => w ((tq_misNot_spec h x).2 nx))]
    by_cases ny : tq_pat n y = -2 ^ (n - 1)
    · rw [if_pos (show ¬ m_isNot nz y = 0 from fun w => (tq_misNot_spec h y).1 w ny)]
      exact ⟨_, _, _, rfl, hw, by rw [tq_mnot_spec h, ny, tq_prod_not2, tq_ans_not1]⟩
    · rw [if_neg (show ¬ ¬ m_isNot nz y = 0 from fun w => w ((tq_misNot_spec h y).2 ny))]
      by_cases nzz : tq_pat n z = -2 ^ (n - 1)
      · rw [if_neg (show ¬ m_isNot nz z = 0 from fun w => (tq_misNot_spec h z).1 w nzz)]
        exact ⟨_, _, _, rfl, hw, by rw [tq_mnot_spec h, nzz, tq_prod_not1, tq_ans_not2]⟩
      · rw [if_pos ((tq_misNot_spec h z).2 nzz)]
        have px := tq_not_ne hn rx nx
        have py := tq_not_ne hn ry ny
        have pz := tq_not_ne hn rz nzz
        have hU : 4 * n - 8 ≤ 124 ∧ 124 ≤ 200 := by omega
        obtain ⟨g1, e1, w1, fr1, h1⟩ := tq_mload_spec (r := 1) (by omega) h hw x nx (un := 124) (U := 124) rfl hU
        have e1' : m_load nz f 1 x 124 = some g1 := e1
        obtain ⟨g2, e2, w2, fr2, h2⟩ := tq_mload_spec (r := 2) (by omega) h w1 y ny (un := 124) (U := 124) rfl hU
        have e2' : m_load nz g1 2 y 124 = some g2 := e2
        obtain ⟨g3, e3, w3, fr3, h3⟩ := tq_times_spec (a := 1) (b := 2) (t := 0) (by omega) (by omega) (by omega) (by omega) (by omega) w2
        have e3' : m_times g2 1 2 0 = some g3 := e3
        obtain ⟨g4, e4, w4, fr4, h4⟩ := tq_mload_spec (r := 1) (by omega) h w3 z nzz (un := 124) (U := 124) rfl hU
        have e4' : m_load nz g3 1 z 124 = some g4 := e4
        obtain ⟨g5, e5, w5, fr5, h5⟩ := tq_raise_spec (r := 1) (by omega) w4 (my := 124) (k := 124) rfl (by omega)
        have e5' : m_raise g4 1 124 = some g5 := e5
        rw [tq_bd_e e1', tq_bd_e e2', tq_bd_e e3', tq_bd_e e4', tq_bd_e e5']
        have bx := tq_mg_bd (U := 124) hn px hU.1
        have by' := tq_mg_bd (U := 124) hn py hU.1
        have bz := tq_mg_bd (U := 124) hn pz hU.1
        have hX : tq_rv g5 (40 * 0) 40 = tq_mag n (tq_pat n x).natAbs * 2 ^ (124 - (4 * n - 8)) * (tq_mag n (tq_pat n y).natAbs * 2 ^ (124 - (4 * n - 8))) := by
          rw [tq_Fr_rv fr5 (by omega), tq_Fr_rv fr4 (by omega), h3, h2, tq_Fr_rv fr2 (by omega), h1, Nat.mod_eq_of_lt]
          refine Nat.lt_of_le_of_lt (Nat.mul_le_mul bx by') ?_
          rw [← Nat.pow_add]; exact Nat.pow_lt_pow_right (by omega) (by omega)
        have hY : tq_rv g5 (40 * 1) 40 = tq_mag n (tq_pat n z).natAbs * 2 ^ (124 - (4 * n - 8)) * 2 ^ 124 := by
          rw [h5, h4, Nat.mod_eq_of_lt]
          refine Nat.lt_of_le_of_lt (Nat.mul_le_mul_right _ bz) ?_
          rw [← Nat.pow_add]; exact Nat.pow_lt_pow_right (by omega) (by omega)
        have hXY : tq_mag n (tq_pat n x).natAbs * 2 ^ (124 - (4 * n - 8)) * (tq_mag n (tq_pat n y).natAbs * 2 ^ (124 - (4 * n - 8))) + tq_mag n (tq_pat n z).natAbs * 2 ^ (124 - (4 * n - 8)) * 2 ^ 124 < 2 ^ 640 := by
          refine tq_n640 (k := 500) (Nat.le_trans (Nat.mul_le_mul bx by') ?_) (Nat.le_trans (Nat.mul_le_mul_right _ bz) ?_) (by omega)
          · rw [← Nat.pow_add]; exact Nat.pow_le_pow_right (by omega) (by omega)
          · rw [← Nat.pow_add]; exact Nat.pow_le_pow_right (by omega) (by omega)
        rw [tq_fused_int hn px py pz]
        have fin : ∀ b : Bool, b = (decide (tq_pat n x < 0) != decide (tq_pat n y < 0)) → ∃ r s g, m_fused_b89 nz z (if b then 1 else 0) sq g5 = some (r, s, g) ∧ tq_WL 200 g ∧ r.toInt = tq_rI n (tq_iv n (tq_pat n x) * tq_iv n (tq_pat n y) + tq_iv n (tq_pat n z) * ((2 ^ (4 * n - 8) : Nat) : Int)) := by
          intro b hb
          have hv : tq_sg b (tq_mag n (tq_pat n x).natAbs * 2 ^ (124 - (4 * n - 8)) * (tq_mag n (tq_pat n y).natAbs * 2 ^ (124 - (4 * n - 8)))) + tq_sg (decide (tq_pat n z < 0)) (tq_mag n (tq_pat n z).natAbs * 2 ^ (124 - (4 * n - 8)) * 2 ^ 124) = (tq_iv n (tq_pat n x) * tq_iv n (tq_pat n y) + tq_iv n (tq_pat n z) * ((2 ^ (4 * n - 8) : Nat) : Int)) * ((2 ^ (124 - (4 * n - 8)) * 2 ^ (124 - (4 * n - 8)) : Nat) : Int) := by
            have ea : tq_mag n (tq_pat n x).natAbs * 2 ^ (124 - (4 * n - 8)) * (tq_mag n (tq_pat n y).natAbs * 2 ^ (124 - (4 * n - 8))) = tq_mag n (tq_pat n x).natAbs * tq_mag n (tq_pat n y).natAbs * (2 ^ (124 - (4 * n - 8)) * 2 ^ (124 - (4 * n - 8))) := Nat.mul_mul_mul_comm _ _ _ _
            have eb : tq_mag n (tq_pat n z).natAbs * 2 ^ (124 - (4 * n - 8)) * 2 ^ 124 = tq_mag n (tq_pat n z).natAbs * 2 ^ (4 * n - 8) * (2 ^ (124 - (4 * n - 8)) * 2 ^ (124 - (4 * n - 8))) := by
              have : 2 ^ 124 = 2 ^ (4 * n - 8) * 2 ^ (124 - (4 * n - 8)) := by rw [← Nat.pow_add, show 4 * n - 8 + (124 - (4 * n - 8)) = 124 by omega]
              rw [this]
              generalize 2 ^ (124 - (4 * n - 8)) = K
              generalize 2 ^ (4 * n - 8) = O
              ac_rfl
            rw [ea, eb, hb, tq_sg_scale _ (tq_mag n (tq_pat n x).natAbs * tq_mag n (tq_pat n y).natAbs), ← tq_sg_mul, tq_sg_scale _ (tq_mag n (tq_pat n z).natAbs * 2 ^ (4 * n - 8)), tq_sg_scale _ (tq_mag n (tq_pat n z).natAbs), ← Int.add_mul]
            rfl
          obtain ⟨r0, g6, g7, r, g8, j1, j2, j3, w8, hr⟩ := tq_jr_spec h w5 hX hY hXY b (decide (tq_pat n z < 0)) (sq := sq) (pw := 124) (k := 124) rfl (by omega) hv (Nat.mul_pos (Nat.two_pow_pos _) (Nat.two_pow_pos _)) (k1 := 4 * n - 8) (k2 := 132 - 4 * n) (by omega) (by rw [← Nat.pow_add, ← Nat.pow_add, ← Nat.pow_add, show 124 - (4 * n - 8) + (124 - (4 * n - 8)) + (4 * n - 8) = 124 + (132 - 4 * n) by omega])
          refine ⟨r, 0, g8, ?_, w8, hr⟩
          unfold m_fused_b89
          rw [tq_mneg_spec h z, tq_bd_e j1, tq_nm_e, tq_nm_e, tq_bd_e j2, tq_nm_e, tq_nm_e, tq_bd_e j3]
          rfl
        rw [tq_mneg_spec h x, tq_mneg_spec h y]
        by_cases s : decide (tq_pat n x < 0) = decide (tq_pat n y < 0)
        · rw [s, if_pos rfl]
          exact fin false (by rw [s]; simp)
        · have hne : ¬ ((if decide (tq_pat n x < 0) = true then (1 : Int32) else 0) = if decide (tq_pat n y < 0) = true then 1 else 0) := by
            cases hq : decide (tq_pat n x < 0) <;> cases hq2 : decide (tq_pat n y < 0) <;> first | (rw [hq, hq2] at s; exact absurd rfl s) | decide
          rw [if_neg hne]
          exact fin true (by cases hq : decide (tq_pat n x < 0) <;> cases hq2 : decide (tq_pat n y < 0) <;> first | (rw [hq, hq2] at s; exact absurd rfl s) | rfl)
theorem tq_mmultiply_spec {nz : Int32} {n : Nat} (h : tq_Sz nz n) {f : Nat → Int32} (hw : tq_WL 200 f) (sq x y : Int32) :
    ∃ r s g, m_multiply nz sq f x y = some (r, s, g) ∧ tq_WL 200 g ∧ r.toInt = tq_ansS n (tq_incS n (tq_prodS n (tq_pat n x) (tq_pat n y)) (tq_prodS n 0 (2 ^ (n - 2)))) := by
  unfold m_multiply
  obtain ⟨r, s, g, e, w, hr⟩ := tq_mfused_spec h hw sq x y 0
  have : tq_pat n 0 = 0 := by rcases h.2 with rfl | rfl | rfl <;> decide
  rw [this] at hr
  rw [tq_bd_e e]
  exact ⟨r, s, g, rfl, w, hr⟩

theorem tq_mtogether_spec {nz : Int32} {n : Nat} (h : tq_Sz nz n) {f : Nat → Int32} (hw : tq_WL 200 f) (sq x y : Int32) (tu : Bool) :
    ∃ r s g, m_together nz sq f x y (if tu then 1 else 0) = some (r, s, g) ∧ tq_WL 200 g ∧ ((tq_pat n x = -2 ^ (n - 1) ∨ tq_pat n y = -2 ^ (n - 1)) → r.toInt = -2 ^ (n - 1)) ∧
      (tq_pat n x ≠ -2 ^ (n - 1) → tq_pat n y ≠ -2 ^ (n - 1) → r.toInt = tq_rI n ((tq_iv n (tq_pat n x) + (if tu then -tq_iv n (tq_pat n y) else tq_iv n (tq_pat n y))) * ((2 ^ (4 * n - 8) : Nat) : Int))) := by
  have hn := h.2
  unfold m_together m_together_b16
  have rx := tq_pat_rng (x := x) hn
  have ry := tq_pat_rng (x := y) hn
  by_cases nx : tq_pat n x = -2 ^ (n - 1)
  · rw [if_pos (show ¬ m_isNot nz x = 0 from fun w => (tq_misNot_spec h x).1 w nx)]
    exact ⟨_, _, _, rfl, hw, fun _ => tq_mnot_spec h, fun w => absurd nx w⟩
  · rw [if_neg (show ¬ ¬ m_isNot nz x = 0 from fun w => w ((tq_misNot_spec h x).2 nx))]
    by_cases ny : tq_pat n y = -2 ^ (n - 1)
    · rw [if_neg (show ¬ m_isNot nz y = 0 from fun w => (tq_misNot_spec h y).1 w ny)]
      exact ⟨_, _, _, rfl, hw, fun _ => tq_mnot_spec h, fun _ w => absurd ny w⟩
    · rw [if_pos ((tq_misNot_spec h y).2 ny)]
      have px := tq_not_ne hn rx nx
      have py := tq_not_ne hn ry ny
      have hU : 4 * n - 8 ≤ 124 ∧ 124 ≤ 200 := by omega
      obtain ⟨g1, e1, w1, fr1, h1⟩ := tq_mload_spec (r := 0) (by omega) h hw x nx (un := 124) (U := 124) rfl hU
      have e1' : m_load nz f 0 x 124 = some g1 := e1
      obtain ⟨g2, e2, w2, fr2, h2⟩ := tq_mload_spec (r := 1) (by omega) h w1 y ny (un := 124) (U := 124) rfl hU
      have e2' : m_load nz g1 1 y 124 = some g2 := e2
      rw [tq_bd_e e1', tq_bd_e e2']
      have bx := tq_mg_bd (U := 124) hn px hU.1
      have by' := tq_mg_bd (U := 124) hn py hU.1
      have hX : tq_rv g2 (40 * 0) 40 = tq_mag n (tq_pat n x).natAbs * 2 ^ (124 - (4 * n - 8)) := by rw [tq_Fr_rv fr2 (by omega), h1]
      have hXY : tq_mag n (tq_pat n x).natAbs * 2 ^ (124 - (4 * n - 8)) + tq_mag n (tq_pat n y).natAbs * 2 ^ (124 - (4 * n - 8)) < 2 ^ 640 := tq_n640 bx by' (by omega)
      have fin : ∀ c : Bool, c = (decide (tq_pat n y < 0) != tu) → ∃ r s g, m_together_b60 nz (if c then 1 else 0) (m_negative nz x) sq g2 = some (r, s, g) ∧ tq_WL 200 g ∧ r.toInt = tq_rI n ((tq_iv n (tq_pat n x) + (if tu then -tq_iv n (tq_pat n y) else tq_iv n (tq_pat n y))) * ((2 ^ (4 * n - 8) : Nat) : Int)) := by
        intro c hc
        have hs2 : tq_sg c (tq_mag n (tq_pat n y).natAbs) = if tu then -tq_iv n (tq_pat n y) else tq_iv n (tq_pat n y) := by
          rw [hc]; unfold tq_iv tq_sg
          cases hq : decide (tq_pat n y < 0) <;> cases tu <;> simp
        have hv : tq_sg (decide (tq_pat n x < 0)) (tq_mag n (tq_pat n x).natAbs * 2 ^ (124 - (4 * n - 8))) + tq_sg c (tq_mag n (tq_pat n y).natAbs * 2 ^ (124 - (4 * n - 8))) = (tq_iv n (tq_pat n x) + (if tu then -tq_iv n (tq_pat n y) else tq_iv n (tq_pat n y))) * ((2 ^ (124 - (4 * n - 8)) : Nat) : Int) := by
          rw [tq_sg_scale, tq_sg_scale, hs2, ← Int.add_mul]; rfl
        -- in the class's units
        obtain ⟨r0, g6, e6, w6, h6, s1, s2⟩ := tq_joined_spec w2 hX h2 hXY (decide (tq_pat n x < 0)) c
        obtain ⟨g7, e7, w7, fr7, h7⟩ := tq_mfactor_spec w6 sq (pw := 0) (k := 0) rfl (by omega)
        rw [hv] at h6 s1 s2
        generalize tq_iv n (tq_pat n x) + (if tu then -tq_iv n (tq_pat n y) else tq_iv n (tq_pat n y)) = v at *
        have hE : tq_rv g7 (40 * 0) 40 = v.natAbs * 2 ^ (124 - (4 * n - 8)) := by rw [tq_Fr_rv fr7 (by omega), h6, Int.natAbs_mul]; rfl
        obtain ⟨r, g8, e8, w8, hr⟩ := tq_ref_S h r0 w7 hE h7 (by decide) (by rw [Nat.pow_zero]; exact Nat.two_pow_pos _) (k1 := 4 * n - 8) (k2 := 132 - 4 * n) (A := v.natAbs * 2 ^ (4 * n - 8)) (by omega) (by
          rw [Nat.pow_zero, Nat.mul_one, Nat.mul_assoc, Nat.mul_assoc, ← Nat.pow_add, ← Nat.pow_add, show 124 - (4 * n - 8) + (4 * n - 8) = 4 * n - 8 + (132 - 4 * n) by omega])
        refine ⟨r, 0, g8, ?_, w8, ?_⟩
        · unfold m_together_b60
          rw [tq_mneg_spec h x, tq_bd_e e6, tq_nm_e, tq_nm_e, tq_bd_e e7, tq_nm_e, tq_nm_e, tq_bd_e e8]
          rfl
        · have pK : (0 : Int) < ((2 ^ (124 - (4 * n - 8)) : Nat) : Int) := by have := Nat.two_pow_pos (124 - (4 * n - 8)); omega
          have pO : (0 : Int) < ((2 ^ (4 * n - 8) : Nat) : Int) := by have := Nat.two_pow_pos (4 * n - 8); omega
          have eA : (v * ((2 ^ (4 * n - 8) : Nat) : Int)).natAbs = v.natAbs * 2 ^ (4 * n - 8) := by rw [Int.natAbs_mul]; rfl
          rw [hr, tq_rI_sign (v := v * ((2 ^ (4 * n - 8) : Nat) : Int)) (mi := r0), eA]
          · intro z
            have vz : v < 0 := by
              rcases Int.lt_or_le v 0 with w | w
              · exact w
              · have := Int.mul_nonneg w (Int.le_of_lt pO); omega
            exact s1 (Int.mul_neg_of_neg_of_pos vz pK)
          · intro z
            have vz : 0 < v := by
              rcases Int.lt_or_le 0 v with w | w
              · exact w
              · have := Int.mul_nonpos_of_nonpos_of_nonneg w (Int.le_of_lt pO); omega
            exact s2 (Int.mul_pos vz pK)
      have done : ∃ r s g, (if m_negative nz y = (if tu then (1 : Int32) else 0) then m_together_b60 nz 0 (m_negative nz x) sq g2 else m_together_b60 nz 1 (m_negative nz x) sq g2) = some (r, s, g) ∧ tq_WL 200 g ∧ r.toInt = tq_rI n ((tq_iv n (tq_pat n x) + (if tu then -tq_iv n (tq_pat n y) else tq_iv n (tq_pat n y))) * ((2 ^ (4 * n - 8) : Nat) : Int)) := by
        rw [tq_mneg_spec h y]
        by_cases s : decide (tq_pat n y < 0) = tu
        · rw [s, if_pos rfl]
          exact fin false (by rw [s]; simp)
        · have hne : ¬ ((if decide (tq_pat n y < 0) = true then (1 : Int32) else 0) = if tu = true then 1 else 0) := by
            cases hq : decide (tq_pat n y < 0) <;> cases hq2 : tu <;> first | (rw [hq, hq2] at s; exact absurd rfl s) | decide
          rw [if_neg hne]
          exact fin true (by cases hq : decide (tq_pat n y < 0) <;> cases hq2 : tu <;> first | (rw [hq, hq2] at s; exact absurd rfl s) | rfl)
      obtain ⟨r, s, g, d1, d2, d3⟩ := done
      exact ⟨r, s, g, d1, d2, fun w => absurd w (by rintro (z | z); exact nx z; exact ny z), fun _ _ => d3⟩
