theorem tq_mod_step (E k : Nat) : E % 2 ^ (k + 1) = E % 2 ^ k + 2 ^ k * (E / 2 ^ k % 2) := by
  rw [Nat.pow_succ, Nat.mod_mul]
theorem tq_near_loop {f : Nat → Int32} (hw : tq_WL 200 f) {E : Nat} (hE : tq_rv f (40 * 0) 40 = E) (v2 : Int32) : ∀ n k (v3 : Int32), k ≤ 123 → 123 < n + k → (v3 = 0 ↔ E % 2 ^ k = 0) →
    ∃ n' v3', m_nearest_b30 n v2 v3 (nI k) f = m_nearest_b30 (n' + 1) v2 v3' (nI 123) f ∧ (v3' = 0 ↔ E % 2 ^ 123 = 0) := by
  intro n
  induction n with
  | zero => intro k v3 h1 h2 hv; omega
  | succ n ih =>
    intro k v3 h1 h2 hv
    by_cases h : 123 ≤ k
    · have : k = 123 := by omega
      subst this
      exact ⟨n, v3, rfl, hv⟩
    · have hstep : ∃ t : Int32, m_nearest_b30 (n + 1) v2 v3 (nI k) f = m_nearest_b30 n v2 t (nI (k + 1)) f ∧ (t = 0 ↔ E % 2 ^ (k + 1) = 0) := by
        have ms := tq_mod_step E k
        have pk := Nat.two_pow_pos k
        rw [m_nearest_b30, if_neg (show ¬ (123 : Int32) ≤ nI k from fun q => h ((tq_nI_le (N := 123) (by omega) (by omega)).1 q))]
        unfold m_nearest_b57
        by_cases z : v3 = 0
        · rw [if_neg (fun w => w z)]
          obtain ⟨b, e1, hb⟩ := tq_bit_spec (r := 0) (by omega) hw (kx := nI k) (tq_nI_i (by omega)) (by omega)
          have e1' : m_bit f 0 (nI k) = some b := e1
          rw [tq_bd_e e1', tq_nI_add]
          rw [hE, Nat.testBit_eq_decide_div_mod_eq] at hb
          have hz := hv.1 z
          by_cases t : E / 2 ^ k % 2 = 1
          · rw [decide_eq_true t, if_pos rfl] at hb
            rw [if_neg (fun w => w hb)]
            refine ⟨1, rfl, ?_⟩
            constructor
            · intro w; exact absurd w (by decide)
            · intro w; rw [ms, t] at w; omega
          · rw [decide_eq_false t] at hb
            rw [if_pos (show ¬ b = 1 by rw [hb]; decide)]
            refine ⟨0, rfl, ⟨fun _ => ?_, fun _ => rfl⟩⟩
            have : E / 2 ^ k % 2 = 0 := by omega
            rw [ms, hz, this]; simp
        · rw [if_pos z, tq_nI_add]
          refine ⟨1, rfl, ?_⟩
          constructor
          · intro w; exact absurd w (by decide)
          · intro w; exfalso; apply z; rw [hv]
            generalize 2 ^ k * (E / 2 ^ k % 2) = Y at *
            omega
      obtain ⟨t, e1, ht⟩ := hstep
      obtain ⟨n', v3', e2, hv'⟩ := ih (k + 1) t (by omega) (by omega) ht
      exact ⟨n', v3', by rw [e1]; exact e2, hv'⟩
theorem tq_mnear_spec {nz : Int32} {n : Nat} (h : tq_Sz nz n) {f : Nat → Int32} (hw : tq_WL 200 f) (x : Int32) (nx : tq_pat n x ≠ -2 ^ (n - 1)) :
    ∃ g, m_nearest nz f x = some g ∧ tq_WL 200 g ∧ tq_rv g (40 * 0) 40 = tq_rnd (tq_mag n (tq_pat n x).natAbs * 2 ^ (124 - (4 * n - 8))) 124 false := by
  have hn := h.2
  have px := tq_not_ne hn (tq_pat_rng (x := x) hn) nx
  unfold m_nearest m_nearest_b24
  obtain ⟨g1, e1, w1, fr1, h1⟩ := tq_mload_spec (r := 0) (by omega) h hw x nx (un := 124) (U := 124) rfl (by omega)
  have e1' : m_load nz f 0 x 124 = some g1 := e1
  have hEb := tq_mg_bd (U := 124) hn px (by omega)
  have hEb2 : tq_mag n (tq_pat n x).natAbs * 2 ^ (124 - (4 * n - 8)) ≤ 2 ^ 300 := Nat.le_trans hEb (Nat.pow_le_pow_right (by omega) (by omega))
  generalize tq_mag n (tq_pat n x).natAbs * 2 ^ (124 - (4 * n - 8)) = E at *
  obtain ⟨b, e2, hb⟩ := tq_bit_spec (r := 0) (by omega) w1 (kx := 123) (k := 123) rfl (by omega)
  have e2' : m_bit g1 0 123 = some b := e2
  rw [tq_bd_e e1', tq_bd_e e2']
  rw [h1, Nat.testBit_eq_decide_div_mod_eq] at hb
  -- the end of the loop
  obtain ⟨g2, e3, w2, fr2, h2⟩ := tq_lower_spec (r := 0) (by omega) w1 (my := 124) (k := 124) rfl (by omega)
  have e3' : m_lower g1 0 124 = some g2 := e3
  rw [h1] at h2
  obtain ⟨c, e4, hc⟩ := tq_bit_spec (r := 0) (by omega) w2 (kx := 0) (k := 0) rfl (by omega)
  have e4' : m_bit g2 0 0 = some c := e4
  rw [h2, Nat.testBit_eq_decide_div_mod_eq, Nat.pow_zero, Nat.div_one] at hc
  have hup : ∃ g, m_nearest_b89 g2 = some g ∧ tq_WL 200 g ∧ tq_rv g (40 * 0) 40 = E / 2 ^ 124 + 1 := by
    unfold m_nearest_b89
    obtain ⟨g3, e5, w3, fr3, h3⟩ := tq_setLong_spec (r := 1) (by omega) w2 1
    have e5' : m_setLong g2 1 1 = some g3 := e5
    obtain ⟨g4, e6, w4, fr4, h4⟩ := tq_plus_spec (a := 0) (b := 1) (by omega) (by omega) (by omega) w3
    have e6' : m_plus g3 0 1 = some g4 := e6
    rw [tq_bd_e e5', tq_bd_e e6']
    refine ⟨g4, rfl, w4, ?_⟩
    have u1 : tq_u64 (1 : Int64) = 1 := rfl
    rw [h4, h3, tq_Fr_rv fr3 (by omega), h2, u1, Nat.mod_eq_of_lt]
    have : E / 2 ^ 124 ≤ E := Nat.div_le_self _ _
    have : 1 ≤ 2 ^ 300 := Nat.two_pow_pos _
    exact tq_n640 (k := 300) (by omega) this (by omega)
  have ms := tq_mod_step E 123
  have hml := Nat.mod_lt E (Nat.two_pow_pos 123)
  have fin : ∀ v2 : Int32, (v2 = 0 ↔ E / 2 ^ 123 % 2 = 0) → ∃ g, m_nearest_b30 124 v2 0 0 g1 = some g ∧ tq_WL 200 g ∧ tq_rv g (40 * 0) 40 = tq_rnd E 124 false := by
    intro v2 hv2
    obtain ⟨n', v3', e7, hv3⟩ := tq_near_loop w1 h1 v2 124 0 0 (by omega) (by omega) ⟨fun _ => by rw [Nat.pow_zero, Nat.mod_one], fun _ => rfl⟩
    have e0 : nI 0 = (0 : Int32) := rfl
    rw [e0] at e7
    rw [e7, m_nearest_b30, if_pos (show (123 : Int32) ≤ nI 123 from (tq_nI_le (N := 123) (by omega) (by omega)).2 (Nat.le_refl _)), tq_bd_e e3']
    obtain ⟨k1, k2, k3, k4⟩ := tq_rnd_cases (V := E) (d := 124) (mo := false) rfl rfl
    rw [show 124 - 1 = 123 from rfl, ms] at k1 k2 k3 k4
    have hf2 : E / 2 ^ 123 % 2 < 2 := Nat.mod_lt _ (by omega)
    generalize hQ : E / 2 ^ 124 = Q at *
    generalize E / 2 ^ 123 % 2 = hf at *
    generalize E % 2 ^ 123 = lo at *
    generalize 2 ^ 123 = H at *
    by_cases z : v2 = 0
    · rw [if_pos z]
      have h0 := hv2.1 z
      refine ⟨g2, rfl, w2, ?_⟩
      rw [h2, k1 (by rw [h0, Nat.mul_zero]; omega)]
    · rw [if_neg z]
      by_cases hf0 : hf = 0
      · exact absurd (hv2.2 hf0) z
      · have h1f : hf = 1 := by omega
        have hH : lo + H * hf = lo + H := by rw [h1f, Nat.mul_one]
        rw [hH] at k1 k2 k3 k4
        by_cases lo0 : v3' = 0
        · have lz := hv3.1 lo0
          rw [if_neg (fun w => w lo0), tq_bd_e e4']
          by_cases od : Q % 2 = 1
          · rw [decide_eq_true od, if_pos rfl] at hc
            rw [if_neg (fun w => w hc)]
            obtain ⟨g, a1, a2, a3⟩ := hup
            exact ⟨g, a1, a2, by rw [a3, k3 (by omega) (.inr od)]⟩
          · rw [decide_eq_false od] at hc
            rw [if_pos (show ¬ c = 1 by rw [hc]; decide)]
            exact ⟨g2, rfl, w2, by rw [h2, k4 (by omega) (by rintro (w | w); cases w; exact od w)]⟩
        · have lz : lo ≠ 0 := fun w => lo0 (hv3.2 w)
          rw [if_pos lo0]
          obtain ⟨g, a1, a2, a3⟩ := hup
          exact ⟨g, a1, a2, by rw [a3, k2 (by omega)]⟩
  by_cases t : E / 2 ^ 123 % 2 = 1
  · rw [decide_eq_true t, if_pos rfl] at hb
    rw [if_neg (fun w => w hb)]
    exact fin 1 ⟨fun w => absurd w (by decide), fun w => by rw [t] at w; cases w⟩
  · rw [decide_eq_false t] at hb
    rw [if_pos (show ¬ b = 1 by rw [hb]; decide)]
    exact fin 0 ⟨fun _ => by omega, fun _ => rfl⟩

theorem tq_rnd_scale (m d j : Nat) (hd : 1 ≤ d) (mo : Bool) : tq_rnd (m * 2 ^ j) (d + j) mo = tq_rnd m d mo := by
  induction j with
  | zero => rw [Nat.pow_zero, Nat.mul_one]; rfl
  | succ j ih =>
    have e : m * 2 ^ (j + 1) = 2 * (m * 2 ^ j) + 0 := by rw [Nat.pow_succ, ← Nat.mul_assoc, Nat.mul_comm _ 2]; rfl
    have := tq_rnd_bit (W := m * 2 ^ j) (d := d + j) (b := 0) (by omega) (by omega) mo
    rw [e, show d + (j + 1) = d + j + 1 by omega, this]
    have e2 : (mo || decide ((0 : Nat) = 1)) = mo := by cases mo <;> rfl
    rw [e2]; exact ih
theorem tq_rnd_exact (Q d : Nat) (hd : 1 ≤ d) : tq_rnd (Q * 2 ^ d) d false = Q := by
  obtain ⟨k1, _, _, _⟩ := tq_rnd_cases (V := Q * 2 ^ d) (d := d) (mo := false) (t := Q) (w := 0) (Nat.mul_div_cancel _ (Nat.two_pow_pos _)) (Nat.mul_mod_left _ _)
  exact k1 (Nat.two_pow_pos _)
theorem tq_xv_strict_z {R : Int} {Z Z' : Nat} (h : -31 ≤ R) (hz : Z < Z') : tq_xv R Z < tq_xv R Z' := by
  rcases Nat.lt_or_ge (Z / 2 ^ 30) (Z' / 2 ^ 30) with q | q
  · obtain ⟨k, hk⟩ : ∃ k : Nat, (k : Int) = 4 * R + (Z / 2 ^ 30 : Nat) + 157 := ⟨(4 * R + (Z / 2 ^ 30 : Nat) + 157).toNat, by generalize Z / 2 ^ 30 = e at *; omega⟩
    exact Nat.lt_of_lt_of_le (tq_xv_hi h (k := k) (by omega)) (tq_xv_lo h (k := k) (by omega))
  · have e : Z / 2 ^ 30 = Z' / 2 ^ 30 := by
      have := Nat.div_le_div_right (c := 2 ^ 30) (Nat.le_of_lt hz); omega
    unfold tq_xv
    rw [e]
    exact Nat.mul_lt_mul_of_pos_right (by omega) (Nat.two_pow_pos _)
theorem tq_xv_strict {B B' : Nat} (hB : B' < 2 ^ 32) (hBB : B < B') {R R' : Int} {Z Z' : Nat} (h : tq_Body B R Z) (h' : tq_Body B' R' Z') : tq_xv R Z < tq_xv R' Z' := by
  have r1 := tq_body_r h
  have r2 := tq_body_r h'
  rcases tq_body_mono hB (Nat.le_of_lt hBB) h h' with q | ⟨q, w⟩
  · obtain ⟨k, hk⟩ : ∃ k : Nat, (k : Int) = 4 * R' + 156 := ⟨(4 * R' + 156).toNat, by omega⟩
    have e3 : Z / 2 ^ 30 < 4 := by omega
    exact Nat.lt_of_lt_of_le (tq_xv_hi r1.1 (k := k) (by generalize Z / 2 ^ 30 = e at *; omega)) (tq_xv_lo r2.1 (k := k) (by generalize Z' / 2 ^ 30 = e at *; omega))
  · subst q
    apply tq_xv_strict_z r1.1
    rcases Nat.eq_or_lt_of_le w with z | z
    · exfalso
      subst z
      obtain ⟨_, h⟩ := h
      obtain ⟨_, h'⟩ := h'
      rcases h with ⟨a1, a2, a3⟩ | ⟨a1, a2, a3⟩ <;> rcases h' with ⟨b1, b2, b3⟩ | ⟨b1, b2, b3⟩
      · have := Nat.mul_lt_mul_of_pos_right hBB (Nat.two_pow_pos (R.toNat + 2)); omega
      · omega
      · omega
      · have := Nat.mul_lt_mul_of_pos_right hBB (Nat.two_pow_pos ((-R).toNat + 1)); omega
    · exact z
/-- a number that is a pattern's value is rounded to that pattern -/
theorem tq_self_pp {C D : Nat → Prop} (hcut : tq_Cut C D) {n : Nat} (hn : n = 8 ∨ n = 16 ∨ n = 32) {s : Int} {sig : Nat} {mo : Bool} (hl : tq_LeadX n C D s sig mo) {P : Nat} (hP : 1 ≤ P ∧ P < 2 ^ (n - 1)) {R : Int} {Z : Nat} (hb : tq_Body (P * 2 ^ (33 - n)) R Z) (hd : D (tq_xv R Z)) : tq_pp n s sig mo = P := by
  obtain ⟨lin, lhi, llo⟩ := hl
  obtain ⟨m1, m2, m3⟩ := hcut
  have hB := tq_bB hn hP.2
  have p33 := Nat.two_pow_pos (33 - n)
  rcases Int.lt_or_le s (4 * (n : Int) - 8) with q1 | q1
  · rcases Int.lt_or_le s (-(4 * (n : Int) - 8)) with q2 | q2
    · exfalso
      apply llo q2
      rw [← tq_xv_one hn]
      exact m1 _ _ (tq_xv_mono hB (Nat.mul_le_mul_right _ hP.1) (tq_body_one hn) hb) (m2 _ hd)
    · obtain ⟨t, r0, Zt, Zm, a1, a2, a3, a4, a5, ⟨R', Z', a6, a7⟩, b1, b2, b3, b4, b5⟩ := tq_round_in ⟨m1, m2, m3⟩ hn ⟨q2, q1⟩ (lin q2 q1)
      have h1 : P < t + 1 := tq_cb_nb ⟨m1, m2, m3⟩ hn hP.2 ⟨R, Z, hb, m2 _ hd⟩ ⟨R', Z', a6, a7⟩
      have h2 : ¬ P < t := fun w => m3 _ _ hd (tq_xv_strict (tq_bB hn (by omega)) (Nat.mul_lt_mul_of_pos_right w p33) hb a3) a5
      have : P = t := by omega
      subst this
      obtain ⟨rfl, rfl⟩ := tq_body_unique hB a3 hb
      exact b1 hd
  · have ct := lhi q1
    have hpp : tq_pp n s sig mo = 2 ^ (n - 1) - 1 := by unfold tq_pp; rw [if_pos q1]
    rw [hpp]
    have pn := Nat.two_pow_pos (n - 1)
    rcases Nat.lt_or_ge P (2 ^ (n - 1) - 1) with w | w
    · exfalso
      rw [← tq_xv_top hn] at ct
      exact m3 _ _ hd (tq_xv_strict (tq_bB hn (by omega)) (Nat.mul_lt_mul_of_pos_right w p33) hb (tq_body_top hn)) ct
    · omega
theorem tq_self_round {n : Nat} (hn : n = 8 ∨ n = 16 ∨ n = 32) {p : Int} (hp : -2 ^ (n - 1) < p ∧ p < 2 ^ (n - 1)) {m : Nat} {e : Int} (h : tq_Parts n p m e) : tq_rM n m e false = p.natAbs := by
  obtain ⟨p1, p2, p3, p4, p5, p6⟩ := h
  by_cases z : p = 0
  · have := p6 z
    subst this z
    unfold tq_rM; rw [if_pos rfl]; rfl
  · have hm := p5 z
    have hP : 1 ≤ p.natAbs ∧ p.natAbs < 2 ^ (n - 1) := by rcases hn with rfl | rfl | rfl <;> omega
    have h31 : 2 ^ (n - 1) ≤ 2 ^ 31 := Nat.pow_le_pow_right (by omega) (by omega)
    have hpv : (Int64.ofNat p.natAbs).toInt = p.natAbs := Int64.toInt_ofNat_of_lt (by omega)
    obtain ⟨g, e1, w, fr, R, Z, hb, hk, hv⟩ := tq_value_spec (r := 0) (by omega) tq_WL0 hpv (size := nI n) (un := 124) (S := n) (U := 124) (tq_nI_i (by omega)) (by omega) hP (by omega) rfl ⟨by omega, by omega⟩
    obtain ⟨d1, d2⟩ := tq_mag_div hn hP hb
    have hEq : m * 2 ^ (e + 124).toNat * 2 ^ 0 = m * 1 * 2 ^ (e + 124).toNat := by rw [Nat.pow_zero, Nat.mul_one, Nat.mul_one]
    have hl := tq_lead_dy hn (E := m * 2 ^ (e + 124).toNat) (F := 1) (A := m) (k1 := 0) (k2 := (e + 124).toNat) (by omega) (by omega) (e := e) (by omega) hEq
    rw [tq_rM_sig (by omega) (by omega)]
    refine tq_self_pp (tq_cut_c (fun _ => by omega)) hn hl hP hb ?_
    unfold tq_cD
    rw [if_neg (by decide), Nat.mul_one]
    have e3 : (4 * R + (Z / 2 ^ 30 : Nat) + 124).toNat = (4 * R + (Z / 2 ^ 30 : Nat) + ((4 * n - 8 : Nat) : Int)).toNat + (124 - (4 * n - 8)) := by
      clear hv d1 hb
      generalize Z / 2 ^ 30 = z at *; omega
    unfold tq_xv
    have e5 : m * 2 ^ (e + (4 * (n : Int) - 8)).toNat * 2 ^ (124 - (4 * n - 8)) = m * 2 ^ (e + 124).toNat := by
      rw [Nat.mul_assoc, ← Nat.pow_add, show (e + (4 * (n : Int) - 8)).toNat + (124 - (4 * n - 8)) = (e + 124).toNat by omega]
    rw [e3, Nat.pow_add, ← Nat.mul_assoc, ← d1, ← p4, Nat.mul_right_comm, e5]
theorem tq_near_parts {n : Nat} (hn : n = 8 ∨ n = 16 ∨ n = 32) {p : Int} {m : Nat} {e : Int} (h : tq_Parts n p m e) : tq_rnd (tq_mag n p.natAbs * 2 ^ (124 - (4 * n - 8))) 124 false = if 0 ≤ e then m * 2 ^ e.toNat else tq_rnd m (-e).toNat false := by
  obtain ⟨p1, p2, p3, p4, p5, p6⟩ := h
  have hE : tq_mag n p.natAbs * 2 ^ (124 - (4 * n - 8)) = m * 2 ^ (e + 124).toNat := by
    rw [← p4, Nat.mul_assoc, ← Nat.pow_add, show (e + (4 * (n : Int) - 8)).toNat + (124 - (4 * n - 8)) = (e + 124).toNat by omega]
  rw [hE]
  by_cases q : 0 ≤ e
  · rw [if_pos q, show (e + 124).toNat = e.toNat + 124 by omega, Nat.pow_add, ← Nat.mul_assoc]
    exact tq_rnd_exact _ _ (by omega)
  · rw [if_neg q]
    have := tq_rnd_scale m (-e).toNat (e + 124).toNat (by omega) false
    rw [show (-e).toNat + (e + 124).toNat = 124 by omega] at this
    exact this
