theorem tq_u32_neg (y : Int32) : (tq_u32 (-y) : Int) = (-(tq_u32 y : Int)) % 2 ^ 32 := by
  have h1 := tq_u32_i (-y)
  have h2 := tq_u32_i y
  rw [Int32.toInt_neg] at h1
  have d : ((-y.toInt).bmod (2 ^ 32)) % 2 ^ 32 = (-y.toInt) % 2 ^ 32 := Int.bmod_emod (m := 2 ^ 32) ..
  omega
theorem tq_pat_neg {n : Nat} (hn : n = 8 ∨ n = 16 ∨ n = 32) (y : Int32) : (tq_pat n y = -2 ^ (n - 1) → tq_pat n (-y) = -2 ^ (n - 1)) ∧ (tq_pat n y ≠ -2 ^ (n - 1) → tq_pat n (-y) = -tq_pat n y) := by
  have h := tq_u32_neg y
  have l1 := tq_u32_lt y
  have l2 := tq_u32_lt (-y)
  unfold tq_pat
  rcases hn with rfl | rfl | rfl
  · constructor <;> (intro w; split at w <;> split <;> omega)
  · constructor <;> (intro w; split at w <;> split <;> omega)
  · constructor <;> (intro w; split at w <;> split <;> omega)
theorem tq_iv_neg (n : Nat) (hn : n = 8 ∨ n = 16 ∨ n = 32) (p : Int) : tq_iv n (-p) = -tq_iv n p := by
  have e : (-p).natAbs = p.natAbs := by omega
  unfold tq_iv tq_sg
  rw [e]
  rcases Int.lt_trichotomy p 0 with q | q | q
  · rw [decide_eq_false (by omega), decide_eq_true q]; simp
  · subst q
    have : tq_mag n (0 : Int).natAbs = 0 := tq_mag_eq hn (.inl ⟨rfl, rfl⟩)
    rw [this]; rfl
  · rw [decide_eq_true (by omega), decide_eq_false (by omega)]; simp
theorem tq_madd_spec {nz : Int32} {n : Nat} (h : tq_Sz nz n) {f : Nat → Int32} (hw : tq_WL 200 f) (sq x y : Int32) :
    ∃ r s g, m_add nz sq f x y = some (r, s, g) ∧ tq_WL 200 g ∧ r.toInt = tq_ansS n (tq_incS n (tq_prodS n (tq_pat n x) (2 ^ (n - 2))) (tq_prodS n (tq_pat n y) (2 ^ (n - 2)))) := by
  have hn := h.2
  unfold m_add
  obtain ⟨r, s, g, e, w, h1, h2⟩ := tq_mtogether_spec h hw sq x y false
  have e' : m_together nz sq f x y 0 = some (r, s, g) := e
  rw [tq_bd_e e']
  refine ⟨r, s, g, rfl, w, ?_⟩
  by_cases nx : tq_pat n x = -2 ^ (n - 1)
  · rw [h1 (.inl nx), nx, tq_prod_not1, tq_ans_not1]
  · by_cases ny : tq_pat n y = -2 ^ (n - 1)
    · rw [h1 (.inr ny), ny, tq_prod_not1, tq_ans_not2]
    · rw [h2 nx ny, tq_fused_int hn (tq_not_ne hn (tq_pat_rng hn) nx) (tq_one_rng hn) (tq_not_ne hn (tq_pat_rng hn) ny), tq_iv_one hn, Int.add_mul]; rfl
theorem tq_msubtract_spec {nz : Int32} {n : Nat} (h : tq_Sz nz n) {f : Nat → Int32} (hw : tq_WL 200 f) (sq x y : Int32) :
    ∃ r s g, m_subtract nz sq f x y = some (r, s, g) ∧ tq_WL 200 g ∧ r.toInt = tq_ansS n (tq_incS n (tq_prodS n (tq_pat n x) (2 ^ (n - 2))) (tq_prodS n (tq_pat n (-y)) (2 ^ (n - 2)))) := by
  have hn := h.2
  unfold m_subtract
  obtain ⟨r, s, g, e, w, h1, h2⟩ := tq_mtogether_spec h hw sq x y true
  have e' : m_together nz sq f x y 1 = some (r, s, g) := e
  rw [tq_bd_e e']
  refine ⟨r, s, g, rfl, w, ?_⟩
  by_cases nx : tq_pat n x = -2 ^ (n - 1)
  · rw [h1 (.inl nx), nx, tq_prod_not1, tq_ans_not1]
  · by_cases ny : tq_pat n y = -2 ^ (n - 1)
    · rw [h1 (.inr ny), (tq_pat_neg hn y).1 ny, tq_prod_not1, tq_ans_not2]
    · have ey := (tq_pat_neg hn y).2 ny
      have py := tq_not_ne hn (tq_pat_rng (x := y) hn) ny
      rw [h2 nx ny, ey, tq_fused_int hn (tq_not_ne hn (tq_pat_rng hn) nx) (tq_one_rng hn) (by omega), tq_iv_one hn, tq_iv_neg n hn, Int.add_mul]; rfl
theorem tq_mfromLong_spec {nz : Int32} {n : Nat} (h : tq_Sz nz n) {f : Nat → Int32} (hw : tq_WL 200 f) (sq : Int32) (v : Int64) :
    ∃ r s g, m_fromLong nz sq f v = some (r, s, g) ∧ tq_WL 200 g ∧ r.toInt = if v.toInt = -2 ^ 63 then -2 ^ (n - 1) else tq_sg (decide (v.toInt < 0)) (tq_rM n v.toInt.natAbs 0 false) := by
  have hn := h.2
  have hr := tq_i64_rng v
  have c0 : ((0 : Int64)).toInt = 0 := rfl
  unfold m_fromLong
  have main : v.toInt ≠ -2 ^ 63 → ∃ r s g, m_fromLong_b21 nz v sq f = some (r, s, g) ∧ tq_WL 200 g ∧ r.toInt = tq_sg (decide (v.toInt < 0)) (tq_rM n v.toInt.natAbs 0 false) := by
    intro hv
    have tail : ∀ a : Int64, a.toInt = (v.toInt.natAbs : Int) → ∃ r s g, m_fromLong_b35 nz v a 0 sq f = some (r, s, g) ∧ tq_WL 200 g ∧ r.toInt = tq_sg (decide (v.toInt < 0)) (tq_rM n v.toInt.natAbs 0 false) := by
      intro a ha
      unfold m_fromLong_b35
      obtain ⟨g1, e1, w1, fr1, h1⟩ := tq_setLong_spec (r := 0) (by omega) hw a
      have e1' : m_setLong f 0 a = some g1 := e1
      obtain ⟨g2, e2, w2, fr2, h2⟩ := tq_raise_spec (r := 0) (by omega) w1 (my := 124) (k := 124) rfl (by omega)
      have e2' : m_raise g1 0 124 = some g2 := e2
      obtain ⟨g3, e3, w3, fr3, h3⟩ := tq_mfactor_spec w2 sq (pw := 0) (k := 0) rfl (by omega)
      rw [tq_bd_e e1', tq_bd_e e2', tq_bd_e e3, tq_nm_e, tq_nm_e]
      have hA64 : v.toInt.natAbs < 2 ^ 64 := by omega
      have hE : tq_rv g3 (40 * 0) 40 = v.toInt.natAbs * 2 ^ 124 := by
        rw [tq_Fr_rv fr3 (by omega), h2, h1, tq_u64_of_i ha, Nat.mod_eq_of_lt]
        have := Nat.mul_lt_mul_of_pos_right hA64 (Nat.two_pow_pos 124)
        rw [← Nat.pow_add] at this
        exact Nat.lt_trans this (Nat.pow_lt_pow_right (by omega) (by omega))
      have fin : ∀ mi : Int32, ((v.toInt < 0) ↔ mi ≠ 0) → ∃ r s g, m_fromLong_b62 nz mi 0 g3 = some (r, s, g) ∧ tq_WL 200 g ∧ r.toInt = tq_sg (decide (v.toInt < 0)) (tq_rM n v.toInt.natAbs 0 false) := by
        intro mi hmi
        obtain ⟨r, g4, e4, w4, hr4⟩ := tq_ref_M h mi w3 hE h3 (by decide) (by rw [Nat.pow_zero]; exact Nat.two_pow_pos _) hA64 (e := 0) (k1 := 0) (k2 := 124) (by omega) (by rw [Nat.pow_zero, Nat.mul_one, Nat.mul_one])
        refine ⟨r, 0, g4, ?_, w4, ?_⟩
        · unfold m_fromLong_b62; rw [tq_bd_e e4]; rfl
        · rw [hr4]; unfold tq_sg
          by_cases q : v.toInt < 0
          · rw [if_neg (hmi.1 q), decide_eq_true q, if_pos rfl]
          · have : mi = 0 := by
              by_cases z : mi = 0
              · exact z
              · exact absurd (hmi.2 z) q
            rw [if_pos this, decide_eq_false q, if_neg (by decide)]
      by_cases q : 0 ≤ lg_cmp v 0
      · rw [if_pos q]; rw [tq_cmp_ge, c0] at q
        exact fin 0 ⟨fun w => by omega, fun w => absurd rfl w⟩
      · rw [if_neg q]; rw [tq_cmp_ge, c0] at q
        exact fin 1 ⟨fun _ => by decide, fun _ => by omega⟩
    unfold m_fromLong_b21
    by_cases q : 0 ≤ lg_cmp v 0
    · rw [if_pos q]; rw [tq_cmp_ge, c0] at q
      exact tail v (by omega)
    · rw [if_neg q]; rw [tq_cmp_ge, c0] at q
      exact tail (-v) (by rw [tq_i64_neg (by omega)]; omega)
  by_cases q : 0 ≤ lg_cmp v 0
  · have q2 := q
    rw [tq_cmp_ge, c0] at q2
    rw [if_pos q]
    obtain ⟨r, s, g, a, b, c⟩ := main (by omega)
    exact ⟨r, s, g, a, b, by rw [if_neg (by omega)]; exact c⟩
  · have q2 := q
    rw [tq_cmp_ge, c0] at q2
    rw [if_neg q]
    by_cases z : v.toInt = -2 ^ 63
    · have : lg_cmp v (-v) = 0 := by
        rw [tq_cmp_eq]; apply Int64.toInt.inj; rw [Int64.toInt_neg, z]; decide
      rw [if_neg (fun w => w this)]
      exact ⟨_, _, _, rfl, hw, by rw [if_pos z]; exact tq_mnot_spec h⟩
    · have : ¬ lg_cmp v (-v) = 0 := by
        rw [tq_cmp_eq, ← Int64.toInt_inj, tq_i64_neg (by omega)]; omega
      rw [if_pos this]
      obtain ⟨r, s, g, a, b, c⟩ := main z
      exact ⟨r, s, g, a, b, by rw [if_neg z]; exact c⟩
theorem tq_msize_spec (w : Int32) : tq_Sz (m_sizeOf w) (if w = 0 then 8 else if w = 1 then 16 else 32) := tq_sizeOfWidth_spec w
theorem tq_mconvert_spec {nz : Int32} {n : Nat} (h : tq_Sz nz n) {f : Nat → Int32} (hw : tq_WL 200 f) (sq x w : Int32) {n' : Nat} (hw' : n' = if w = 0 then 8 else if w = 1 then 16 else 32) :
    ∃ r s g, m_convert nz sq f x w = some (r, s, g) ∧ tq_WL 200 g ∧ (tq_pat n x = -2 ^ (n - 1) → r.toInt = -2 ^ (n' - 1)) ∧ (tq_pat n x ≠ -2 ^ (n - 1) → ∀ m e, tq_Parts n (tq_pat n x) m e → r.toInt = tq_sg (decide (tq_pat n x < 0)) (tq_rM n' m e false)) := by
  have hn := h.2
  unfold m_convert
  have hs := tq_msize_spec w
  rw [← hw'] at hs
  rw [tq_nm_e]
  generalize m_sizeOf w = sz at *
  by_cases nx : tq_pat n x = -2 ^ (n - 1)
  · rw [if_neg (show ¬ m_isNot nz x = 0 from fun q => (tq_misNot_spec h x).1 q nx)]
    exact ⟨_, _, _, rfl, hw, fun _ => tq_mnot_spec hs, fun q => absurd nx q⟩
  · rw [if_pos ((tq_misNot_spec h x).2 nx)]
    obtain ⟨g1, e1, w1, fr1, h1⟩ := tq_mload_spec (r := 0) (by omega) h hw x nx (un := 124) (U := 124) rfl (by omega)
    have e1' : m_load nz f 0 x 124 = some g1 := e1
    obtain ⟨g2, e2, w2, fr2, h2⟩ := tq_mfactor_spec w1 sq (pw := 0) (k := 0) rfl (by omega)
    have hE : tq_rv g2 (40 * 0) 40 = tq_mag n (tq_pat n x).natAbs * 2 ^ (124 - (4 * n - 8)) := by rw [tq_Fr_rv fr2 (by omega), h1]
    -- some parts exist
    obtain ⟨nt, ng, mg, ex, _, o1⟩ := tq_read_spec h x 0 0 0 0
    obtain ⟨m0, _, hp0⟩ := tq_op_parts hn (tq_pat_rng hn) nx o1
    have run : ∀ m e, tq_Parts n (tq_pat n x) m e → ∃ r g, m_rounded 0 g2 (m_negative nz x) sz = some (r, g) ∧ tq_WL 200 g ∧ r.toInt = tq_sg (decide (tq_pat n x < 0)) (tq_rM n' m e false) := by
      intro m e hp
      obtain ⟨p1, p2, p3, p4, p5, p6⟩ := hp
      have hEq : tq_mag n (tq_pat n x).natAbs * 2 ^ (124 - (4 * n - 8)) * 2 ^ 0 = m * 2 ^ 0 * 2 ^ (e + 124).toNat := by
        rw [← p4, Nat.pow_zero, Nat.mul_one, Nat.mul_one, Nat.mul_assoc, ← Nat.pow_add, show (e + (4 * (n : Int) - 8)).toNat + (124 - (4 * n - 8)) = (e + 124).toNat by omega]
      obtain ⟨r, g4, e4, w4, hr4⟩ := tq_ref_M hs (m_negative nz x) w2 hE h2 (by decide) (by rw [Nat.pow_zero]; exact Nat.two_pow_pos _) (A := m) (by omega) (e := e) (k1 := 0) (k2 := (e + 124).toNat) (by omega) hEq
      refine ⟨r, g4, e4, w4, ?_⟩
      rw [hr4, tq_mneg_spec h x]
      unfold tq_sg
      cases decide (tq_pat n x < 0) <;> rfl
    obtain ⟨r, g, e, w3, hr⟩ := run m0 _ hp0
    refine ⟨r, 0, g, ?_, w3, fun q => absurd q nx, fun _ m e' hp => ?_⟩
    · rw [tq_bd_e e1', tq_bd_e e2, tq_nm_e, tq_nm_e, tq_bd_e e]; rfl
    · obtain ⟨r', g', e2', _, hr'⟩ := run m e' hp
      have := e.symm.trans e2'
      cases this
      exact hr'
