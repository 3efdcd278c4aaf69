def tq_LeadX (n : Nat) (C D : Nat → Prop) (s : Int) (sig : Nat) (mo : Bool) : Prop :=
  (-(4 * (n : Int) - 8) ≤ s → s < 4 * (n : Int) - 8 → tq_Lead C D s sig mo) ∧ (4 * (n : Int) - 8 ≤ s → C (2 ^ (4 * n + 148))) ∧ (s < -(4 * (n : Int) - 8) → ¬ C (2 ^ (164 - 4 * n)))
theorem tq_body_top {n : Nat} (hn : n = 8 ∨ n = 16 ∨ n = 32) : tq_Body ((2 ^ (n - 1) - 1) * 2 ^ (33 - n)) ((n : Int) - 2) 0 := by
  refine ⟨by omega, .inl ⟨by omega, by omega, ?_⟩⟩
  rw [Nat.mul_assoc, ← Nat.pow_add, show 33 - n + (((n : Int) - 2).toNat + 2) = 33 by omega, show ((n : Int) - 2).toNat + 2 = n by omega, Nat.sub_mul, ← Nat.pow_add, ← Nat.pow_add, show n - 1 + 33 = 32 + n by omega]
  have : 2 ^ 33 ≤ 2 ^ (32 + n) := Nat.pow_le_pow_right (by omega) (by omega)
  omega
theorem tq_body_one {n : Nat} (hn : n = 8 ∨ n = 16 ∨ n = 32) : tq_Body (1 * 2 ^ (33 - n)) (-((n : Int) - 2)) 0 := by
  refine ⟨by omega, .inr ⟨by omega, by omega, ?_⟩⟩
  rw [Nat.one_mul, ← Nat.pow_add, show 33 - n + ((-(-((n : Int) - 2))).toNat + 1) = 32 by omega]
theorem tq_xv_top {n : Nat} (hn : n = 8 ∨ n = 16 ∨ n = 32) : tq_xv ((n : Int) - 2) 0 = 2 ^ (4 * n + 148) := by
  unfold tq_xv
  show 2 ^ 32 * 2 ^ (4 * ((n : Int) - 2) + ((0 : Nat) : Int) + 124).toNat = _
  rw [← Nat.pow_add]
  have : 32 + (4 * ((n : Int) - 2) + ((0 : Nat) : Int) + 124).toNat = 4 * n + 148 := by omega
  rw [this]
theorem tq_xv_one {n : Nat} (hn : n = 8 ∨ n = 16 ∨ n = 32) : tq_xv (-((n : Int) - 2)) 0 = 2 ^ (164 - 4 * n) := by
  unfold tq_xv
  show 2 ^ 32 * 2 ^ (4 * (-((n : Int) - 2)) + ((0 : Nat) : Int) + 124).toNat = _
  rw [← Nat.pow_add]
  have : 32 + (4 * (-((n : Int) - 2)) + ((0 : Nat) : Int) + 124).toNat = 164 - 4 * n := by omega
  rw [this]
theorem tq_lead_lo {C D : Nat → Prop} {s : Int} {sig : Nat} {mo : Bool} (h : tq_Lead C D s sig mo) : C (2 ^ (s + 156).toNat) := by
  obtain ⟨l1, l2, l3, l4⟩ := h
  refine ((l3 (2 ^ 28) (2 ^ (s + 156).toNat) (Nat.le_refl _) (by decide) (Nat.mul_comm _ _)).1).2 ?_
  rw [← Nat.pow_add]; exact l1
theorem tq_ref_round {sq : Int32} {q : Bool} (hsq : (sq = 0 ∧ q = false) ∨ (sq ≠ 0 ∧ q = true)) {E F : Nat} (hE0 : E ≠ 0) (hFb : q = false → F ≤ 2 ^ 390) (hFp : q = false → 0 < F) {size : Int32} {n : Nat} (hz : tq_Sz size n) (mi : Int32) {f : Nat → Int32} (hw : tq_WL 200 f) (hE : tq_rv f (40 * 0) 40 = E) (hF : tq_rv f (40 * 4) 40 = F) {s : Int} {sig : Nat} {mo : Bool} (hl : tq_LeadX n (tq_cC E F q) (tq_cD E F q) s sig mo) :
    ∃ r g, m_rounded sq f mi size = some (r, g) ∧ tq_WL 200 g ∧ r.toInt = if mi = 0 then (tq_pp n s sig mo : Int) else -(tq_pp n s sig mo : Int) := by
  have hn := hz.2
  have hcut := tq_cut_c (E := E) (F := F) (q := q) hFp
  have h31 : 2 ^ (n - 1) ≤ 2 ^ 31 := Nat.pow_le_pow_right (by omega) (by omega)
  have h7 : 2 ^ 7 ≤ 2 ^ (n - 1) := Nat.pow_le_pow_right (by omega) (by omega)
  unfold m_rounded
  obtain ⟨r1, e1, hr1⟩ := tq_isZero_spec (a := 0) (by omega) hw
  have e1' : m_isZero f 0 = some r1 := e1
  have r10 : r1 = 0 := by
    rcases hr1 with ⟨a, b⟩ | ⟨a, b⟩
    · rw [hE] at a; exact absurd a hE0
    · exact b
  rw [tq_bd_e e1', if_pos r10, tq_nm_e]
  have c1 : ((1 : Int64)).toInt = 1 := rfl
  have c1i : ((1 : Int32)).toInt = 1 := rfl
  have u1 : tq_u64 (1 : Int64) = 1 := rfl
  have es : (size - 1).toInt = ((n - 1 : Nat) : Int) := by rw [tq_i32_sub (by rw [hz.1, c1i]; omega), hz.1, c1i]; omega
  have esh := tq_i64_of_u (show tq_u64 ((1 : Int64) <<< ((size - 1).toInt64 &&& 63)) = 2 ^ (n - 1) by rw [tq_u64_shl es (by omega), u1, Nat.one_mul, Nat.mod_eq_of_lt (by omega)]) (by omega)
  have etop : (((1 : Int64) <<< ((size - 1).toInt64 &&& 63)) - 1).toInt = ((2 ^ (n - 1) - 1 : Nat) : Int) := by rw [tq_i64_sub (by rw [esh, c1]; omega), esh, c1]; omega
  generalize ((1 : Int64) <<< ((size - 1).toInt64 &&& 63)) - 1 = tp at *
  obtain ⟨r4, g4, e4, w4, hE4, hF4, R4, Z4, hb4, hr4⟩ := tq_against_spec hw hsq hE hF hFb etop (S := n) hz.1 (by omega) (P := 2 ^ (n - 1) - 1) ⟨by omega, by omega⟩ (by omega)
  obtain ⟨rfl, rfl⟩ := tq_body_unique (tq_bB hn (by omega)) hb4 (tq_body_top hn)
  rw [tq_xv_top hn] at hr4
  obtain ⟨r7, g7, e7, w7, hE7, hF7, R7, Z7, hb7, hr7⟩ := tq_against_spec w4 hsq hE4 hF4 hFb (pv := 1) (P := 1) rfl (S := n) hz.1 (by omega) ⟨by omega, by omega⟩ (by omega)
  obtain ⟨rfl, rfl⟩ := tq_body_unique (tq_bB hn (by omega)) hb7 (tq_body_one hn)
  rw [tq_xv_one hn] at hr7
  rw [tq_bd_e e4, tq_nm_e, tq_nm_e]
  -- the tq_search, where it is reached
  have go : r4 ≤ 0 → ¬ r7 < 0 → ∃ t, 1 ≤ t ∧ t < 2 ^ (n - 1) ∧ tq_CB (tq_cC E F q) n t ∧ (t + 1 = 2 ^ (n - 1) ∨ tq_NB (tq_cC E F q) n (t + 1)) ∧ ((∃ (r : Int32) (g : Nat → Int32) (u : Nat), (if r4 ≤ 0 then tq_bd (m_against sq g4 1 size) (fun u => tq_nm u.1 (fun r7 => tq_nm u.2 (fun lf8 => if r7 < 0 then m_rounded_b156 mi 1 lf8 else m_rounded_b50 sq mi size 41 1 tp lf8))) else m_rounded_b156 mi tp g4) = some (r, g) ∧ tq_WL 200 g ∧ r.toInt = (if mi = 0 then (u : Int) else -(u : Int)) ∧ ∃ R Z, tq_Body (t * 2 ^ (33 - n)) R Z ∧ ((tq_cD E F q (tq_xv R Z) ∧ u = t) ∨ (¬ tq_cD E F q (tq_xv R Z) ∧
      (t + 1 < 2 ^ (n - 1) → ∃ R Z, tq_Body ((2 * t + 1) * 2 ^ (32 - n)) R Z ∧ ((tq_cC E F q (tq_xv R Z) ∧ ¬ tq_cD E F q (tq_xv R Z) ∧ u = t + 1) ∨ (tq_cD E F q (tq_xv R Z) ∧ t % 2 = 1 ∧ u = t + 1) ∨ (tq_cD E F q (tq_xv R Z) ∧ t % 2 = 0 ∧ u = t) ∨ (¬ tq_cC E F q (tq_xv R Z) ∧ u = t)) )))) ∨ (t + 1 = 2 ^ (n - 1) ∧ ∃ R Z, tq_Body (t * 2 ^ (33 - n)) R Z ∧ ¬ tq_cD E F q (tq_xv R Z))) := by
    intro h4 h7n
    have hc1 : tq_CB (tq_cC E F q) n 1 := by
      refine ⟨_, _, tq_body_one hn, ?_⟩
      rw [tq_xv_one hn]
      rcases hr7 with ⟨p1, p2, p3⟩ | ⟨p1, p2, p3⟩ | ⟨p1, p3⟩
      · exact p1
      · exact p1
      · exact absurd (by rw [p3]; decide) h7n
    obtain ⟨fu, a', b', t, g, eq, t1, t2, ha, hb, wg, hEg, hFg, hct, hnt⟩ := tq_search hsq hFb hz mi 31 41 1 tp 1 (2 ^ (n - 1) - 1) g7 (by omega) (by omega) (by omega) (by omega) (by omega) rfl etop w7 hE7 hF7 hc1 (.inl (by omega))
    have hdec := tq_decided hsq hFb hz (mi := mi) (fuel := fu) t1 t2 ha hb wg hEg hFg
    refine ⟨t, t1, t2, hct, hnt, ?_⟩
    have e7' : tq_bd (m_against sq g4 1 size) (fun u => tq_nm u.1 (fun r7 => tq_nm u.2 (fun lf8 => if r7 < 0 then m_rounded_b156 mi 1 lf8 else m_rounded_b50 sq mi size 41 1 tp lf8))) = m_rounded_b50 sq mi size (fu + 1) a' b' g := by
      rw [tq_bd_e e7, tq_nm_e, tq_nm_e, if_neg h7n]; exact eq
    rw [if_pos h4, e7']
    exact hdec
  obtain ⟨lin, lhi, llo⟩ := hl
  rcases Int.lt_or_le s (4 * (n : Int) - 8) with q1 | q1
  · rcases Int.lt_or_le s (-(4 * (n : Int) - 8)) with q2 | q2
    · -- below the least
      have nc := llo q2
      have r7m : r7 = -1 := by
        rcases hr7 with ⟨p1, p2, p3⟩ | ⟨p1, p2, p3⟩ | ⟨p1, p3⟩
        · exact absurd p1 nc
        · exact absurd p1 nc
        · exact p3
      have nct : ¬ tq_cC E F q (2 ^ (4 * n + 148)) := fun w => nc (hcut.1 _ _ (Nat.pow_le_pow_right (by omega) (by omega)) w)
      have r4m : r4 = -1 := by
        rcases hr4 with ⟨p1, p2, p3⟩ | ⟨p1, p2, p3⟩ | ⟨p1, p3⟩
        · exact absurd p1 nct
        · exact absurd p1 nct
        · exact p3
      rw [if_pos (show r4 ≤ 0 by rw [r4m]; decide), tq_bd_e e7, tq_nm_e, tq_nm_e, if_pos (show r7 < 0 by rw [r7m]; decide)]
      obtain ⟨r, er, hr⟩ := tq_b156 (mi := mi) (v := 1) (t := 1) rfl (by omega) g7
      have hpp : tq_pp n s sig mo = 1 := by unfold tq_pp; rw [if_neg (by omega), if_pos q2]
      exact ⟨r, g7, er, w7, by rw [hpp]; exact hr⟩
    · -- in range
      have hlead := lin q2 q1
      have clo := tq_lead_lo hlead
      have chi : ¬ tq_cC E F q (2 ^ (s + 157).toNat) := hlead.2.2.2
      have nct : ¬ tq_cC E F q (2 ^ (4 * n + 148)) := fun w => chi (hcut.1 _ _ (Nat.pow_le_pow_right (by omega) (by omega)) w)
      have c1c : tq_cC E F q (2 ^ (164 - 4 * n)) := hcut.1 _ _ (Nat.pow_le_pow_right (by omega) (by omega)) clo
      have r4m : r4 = -1 := by
        rcases hr4 with ⟨p1, p2, p3⟩ | ⟨p1, p2, p3⟩ | ⟨p1, p3⟩
        · exact absurd p1 nct
        · exact absurd p1 nct
        · exact p3
      have r7n : ¬ r7 < 0 := by
        rcases hr7 with ⟨p1, p2, p3⟩ | ⟨p1, p2, p3⟩ | ⟨p1, p3⟩
        · rw [p3]; decide
        · rw [p3]; decide
        · exact absurd c1c p1
      obtain ⟨t, t1, t2, hct, hnt, hdec⟩ := go (by rw [r4m]; decide) r7n
      obtain ⟨t0, r0, Zt, Zm, a1, a2, a3, a4, a5, ⟨R', Z', a6, a7⟩, b1, b2, b3, b4, b5⟩ := tq_round_in hcut hn ⟨q2, q1⟩ hlead
      have lt1 : t < t0 + 1 := tq_cb_nb hcut hn t2 hct ⟨R', Z', a6, a7⟩
      have lt2 : t0 < t + 1 := by
        clear hdec
        rcases hnt with z | z
        · omega
        · exact tq_cb_nb hcut hn (by omega) ⟨r0, Zt, a3, a5⟩ z
      have : t = t0 := by omega
      subst this
      rcases hdec with ⟨r, g, u, x1, x2, x3, R, Z, x4, x5⟩ | ⟨x1, _⟩
      · refine ⟨r, g, x1, x2, ?_⟩
        have hu : u = tq_pp n s sig mo := by
          obtain ⟨rfl, rfl⟩ := tq_body_unique (tq_bB hn t2) x4 a3
          rcases x5 with ⟨y1, y2⟩ | ⟨y1, y2⟩
          · rw [y2, b1 y1]
          · obtain ⟨R2, Z2, y3, y4⟩ := y2 a2
            have hb32 : (2 * t + 1) * 2 ^ (32 - n) < 2 ^ 32 := by
              have e : 2 ^ 32 = 2 ^ n * 2 ^ (32 - n) := by rw [← Nat.pow_add, show n + (32 - n) = 32 by omega]
              have e2 : 2 ^ n = 2 * 2 ^ (n - 1) := by
                have h := Nat.pow_add 2 1 (n - 1)
                rw [show 1 + (n - 1) = n by omega] at h; exact h
              rw [e]; exact Nat.mul_lt_mul_of_pos_right (by omega) (Nat.two_pow_pos _)
            obtain ⟨rfl, rfl⟩ := tq_body_unique hb32 y3 a4
            rcases y4 with ⟨z1, z2, z3⟩ | ⟨z1, z2, z3⟩ | ⟨z1, z2, z3⟩ | ⟨z1, z3⟩
            · rw [z3, b2 z1 z2]
            · rw [z3, b3 z1 z2]
            · rw [z3, b4 z1 z2]
            · rw [z3, b5 z1]
        rw [x3, hu]
      · exact absurd x1 (Nat.ne_of_lt a2)
  · -- from the largest on
    have ct := lhi q1
    have hpp : tq_pp n s sig mo = 2 ^ (n - 1) - 1 := by unfold tq_pp; rw [if_pos q1]
    rw [hpp]
    by_cases hd : tq_cD E F q (2 ^ (4 * n + 148))
    · have r40 : r4 = 0 := by
        rcases hr4 with ⟨p1, p2, p3⟩ | ⟨p1, p2, p3⟩ | ⟨p1, p3⟩
        · exact absurd hd p2
        · exact p3
        · exact absurd ct p1
      have c1c : tq_cC E F q (2 ^ (164 - 4 * n)) := hcut.1 _ _ (Nat.pow_le_pow_right (by omega) (by omega)) ct
      have r7n : ¬ r7 < 0 := by
        rcases hr7 with ⟨p1, p2, p3⟩ | ⟨p1, p2, p3⟩ | ⟨p1, p3⟩
        · rw [p3]; decide
        · rw [p3]; decide
        · exact absurd c1c p1
      obtain ⟨t, t1, t2, hct, hnt, hdec⟩ := go (by rw [r40]; decide) r7n
      have htop : tq_CB (tq_cC E F q) n (2 ^ (n - 1) - 1) := ⟨_, _, tq_body_top hn, by rw [tq_xv_top hn]; exact ct⟩
      have : t = 2 ^ (n - 1) - 1 := by
        clear hdec
        rcases hnt with z | z
        · omega
        · have := tq_cb_nb hcut hn (by omega) htop z; omega
      subst this
      rcases hdec with ⟨r, g, u, x1, x2, x3, R, Z, x4, x5⟩ | ⟨x1, R, Z, x2, x3⟩
      · refine ⟨r, g, x1, x2, ?_⟩
        obtain ⟨rfl, rfl⟩ := tq_body_unique (tq_bB hn t2) x4 (tq_body_top hn)
        rw [tq_xv_top hn] at x5
        rcases x5 with ⟨y1, y2⟩ | ⟨y1, y2⟩
        · rw [x3, y2]
        · exact absurd hd y1
      · obtain ⟨rfl, rfl⟩ := tq_body_unique (tq_bB hn t2) x2 (tq_body_top hn)
        rw [tq_xv_top hn] at x3
        exact absurd hd x3
    · have r41 : r4 = 1 := by
        rcases hr4 with ⟨p1, p2, p3⟩ | ⟨p1, p2, p3⟩ | ⟨p1, p3⟩
        · exact p3
        · exact absurd p2 hd
        · exact absurd ct p1
      rw [if_neg (show ¬ r4 ≤ 0 by rw [r41]; decide)]
      obtain ⟨r, er, hr⟩ := tq_b156 (mi := mi) etop (by omega) g4
      exact ⟨r, g4, er, w4, hr⟩
theorem tq_ref_zero {sq : Int32} (mi size : Int32) {f : Nat → Int32} (hw : tq_WL 200 f) (hE : tq_rv f (40 * 0) 40 = 0) : m_rounded sq f mi size = some (0, f) := by
  unfold m_rounded
  obtain ⟨r1, e1, hr1⟩ := tq_isZero_spec (a := 0) (by omega) hw
  have e1' : m_isZero f 0 = some r1 := e1
  have r10 : r1 = 1 := by
    rcases hr1 with ⟨a, b⟩ | ⟨a, b⟩
    · exact b
    · exact absurd hE a
  rw [tq_bd_e e1', if_neg (by rw [r10]; decide)]
