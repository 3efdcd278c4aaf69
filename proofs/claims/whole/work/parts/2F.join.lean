theorem tq_rS_0 (n : Nat) : tq_rS n 0 = 0 := by unfold tq_rS; rw [if_pos rfl]
theorem tq_rI_sign {n : Nat} {v : Int} {mi : Int32} (h1 : v < 0 → mi ≠ 0) (h2 : 0 < v → mi = 0) : tq_rI n v = if mi = 0 then (tq_rS n v.natAbs : Int) else -(tq_rS n v.natAbs : Int) := by
  unfold tq_rI
  rcases Int.lt_trichotomy v 0 with q | q | q
  · rw [if_pos q, if_neg (h1 q)]
  · subst q
    rw [show (0 : Int).natAbs = 0 from rfl, tq_rS_0]; split <;> split <;> rfl
  · rw [if_neg (by omega), if_pos (h2 q)]
theorem tq_b01 (b : Bool) : ((if b then (1 : Int32) else 0) = 0) ↔ b = false := by cases b <;> decide
theorem tq_joined_spec {f : Nat → Int32} (hw : tq_WL 200 f) {X Y : Nat} (hX : tq_rv f (40 * 0) 40 = X) (hY : tq_rv f (40 * 1) 40 = Y) (hXY : X + Y < 2 ^ 640) (b c : Bool) :
    ∃ r g, m_joined f (if b then 1 else 0) (if c then 1 else 0) = some (r, g) ∧ tq_WL 200 g ∧ tq_rv g (40 * 0) 40 = (tq_sg b X + tq_sg c Y).natAbs ∧ (tq_sg b X + tq_sg c Y < 0 → r ≠ 0) ∧ (0 < tq_sg b X + tq_sg c Y → r = 0) := by
  unfold m_joined
  by_cases s : b = c
  · subst s
    rw [if_neg (fun w => w rfl)]
    obtain ⟨g, e, w, fr, h⟩ := tq_plus_spec (a := 0) (b := 1) (by omega) (by omega) (by omega) hw
    have e' : m_plus f 0 1 = some g := e
    rw [tq_bd_e e']
    refine ⟨_, g, rfl, w, ?_, ?_, ?_⟩
    · rw [h, hX, hY, Nat.mod_eq_of_lt hXY]; unfold tq_sg; cases b <;> simp <;> omega
    · intro q; cases b
      · unfold tq_sg at q; simp at q; omega
      · decide
    · intro q; cases b
      · decide
      · unfold tq_sg at q; simp at q; omega
  · have hne : ¬ ((if b then (1 : Int32) else 0) = if c then 1 else 0) := by cases b <;> cases c <;> first | exact absurd rfl s | decide
    rw [if_pos hne]
    obtain ⟨r2, e2, h2⟩ := tq_order_spec (a := 0) (b := 1) (by omega) (by omega) hw
    have e2' : m_order f 0 1 = some r2 := e2
    rw [tq_bd_e e2']
    rw [hX, hY] at h2
    have hc : c = !b := by cases b <;> cases c <;> first | exact absurd rfl s | rfl
    by_cases q : X < Y
    · have : r2 = -1 := by rcases h2 with ⟨a, d⟩ | ⟨a, d⟩ | ⟨a, d⟩ <;> first | exact d | omega
      rw [if_pos (by rw [this]; decide)]
      obtain ⟨g, e, w, fr, h⟩ := tq_apart_spec (a := 1) (b := 0) (t := 0) (by omega) (by omega) (by omega) hw (by rw [hX, hY]; omega)
      have e' : m_apart f 1 0 0 = some g := e
      rw [tq_bd_e e']
      refine ⟨_, g, rfl, w, ?_, ?_, ?_⟩
      · rw [h, hX, hY, hc]; unfold tq_sg; cases b <;> simp <;> omega
      · rw [hc]; intro z; cases b
        · decide
        · unfold tq_sg at z; simp at z; omega
      · rw [hc]; intro z; cases b
        · unfold tq_sg at z; simp at z; omega
        · decide
    · have : ¬ r2 < 0 := by rcases h2 with ⟨a, d⟩ | ⟨a, d⟩ | ⟨a, d⟩ <;> first | omega | (rw [d]; decide)
      rw [if_neg this]
      obtain ⟨g, e, w, fr, h⟩ := tq_apart_spec (a := 0) (b := 1) (t := 0) (by omega) (by omega) (by omega) hw (by rw [hX, hY]; omega)
      have e' : m_apart f 0 1 0 = some g := e
      rw [tq_bd_e e']
      refine ⟨_, g, rfl, w, ?_, ?_, ?_⟩
      · rw [h, hX, hY, hc]; unfold tq_sg; cases b <;> simp <;> omega
      · rw [hc]; intro z; cases b
        · unfold tq_sg at z; simp at z; omega
        · decide
      · rw [hc]; intro z; cases b
        · decide
        · unfold tq_sg at z; simp at z; omega
theorem tq_sg_scale (b : Bool) (x k : Nat) : tq_sg b (x * k) = tq_sg b x * (k : Int) := by
  unfold tq_sg; cases b <;> simp [Int.neg_mul]
/-- joined, with its factor, rounded -/
theorem tq_jr_spec {nz : Int32} {n : Nat} (h : tq_Sz nz n) {f : Nat → Int32} (hw : tq_WL 200 f) {X Y : Nat} (hX : tq_rv f (40 * 0) 40 = X) (hY : tq_rv f (40 * 1) 40 = Y) (hXY : X + Y < 2 ^ 640) (b c : Bool) {sq pw : Int32} {k : Nat} (hk : pw.toInt = k) (hk2 : k ≤ 124) {v : Int} {G : Nat} (hv : tq_sg b X + tq_sg c Y = v * (G : Int)) (hG0 : 0 < G) {k1 k2 : Nat} (hkk : (k2 : Int) - k1 = 140 - 8 * n) (hG : G * 2 ^ k1 = 2 ^ k * 2 ^ k2) :
    ∃ r0 g0 g1 r g2, m_joined f (if b then 1 else 0) (if c then 1 else 0) = some (r0, g0) ∧ m_factor sq g0 pw = some (0, g1) ∧ m_rounded 0 g1 r0 nz = some (r, g2) ∧ tq_WL 200 g2 ∧ r.toInt = tq_rI n v := by
  obtain ⟨r0, g0, e0, w0, h0, s1, s2⟩ := tq_joined_spec hw hX hY hXY b c
  obtain ⟨g1, e1, w1, fr1, h1⟩ := tq_mfactor_spec w0 sq hk (by omega)
  have hE : tq_rv g1 (40 * 0) 40 = v.natAbs * G := by
    rw [tq_Fr_rv fr1 (by omega), h0, hv, Int.natAbs_mul]; rfl
  obtain ⟨r, g2, e2, w2, hr⟩ := tq_ref_S h r0 w1 hE h1 (Nat.two_pow_pos _) (Nat.pow_le_pow_right (by omega) (by omega)) hkk (A := v.natAbs) (by rw [Nat.mul_assoc, hG, Nat.mul_assoc])
  refine ⟨r0, g0, g1, r, g2, e0, e1, e2, w2, ?_⟩
  rw [hr, tq_rI_sign (v := v) (mi := r0)]
  · intro z; apply s1; rw [hv]
    exact Int.mul_neg_of_neg_of_pos z (by omega)
  · intro z; apply s2; rw [hv]
    exact Int.mul_pos z (by omega)
theorem tq_ans_not1 {n b : Nat} : tq_ansS n (tq_incS n (2 ^ (16 * n - 1)) b) = -2 ^ (n - 1) := by
  have e : tq_incS n (2 ^ (16 * n - 1)) b = 2 ^ (16 * n - 1) := by unfold tq_incS; rw [if_pos (.inl rfl)]
  rw [e]; unfold tq_ansS; rw [if_pos rfl]
theorem tq_ans_not2 {n a : Nat} : tq_ansS n (tq_incS n a (2 ^ (16 * n - 1))) = -2 ^ (n - 1) := by
  have e : tq_incS n a (2 ^ (16 * n - 1)) = 2 ^ (16 * n - 1) := by unfold tq_incS; rw [if_pos (.inr rfl)]
  rw [e]; unfold tq_ansS; rw [if_pos rfl]
theorem tq_prod_not1 {n : Nat} {q : Int} : tq_prodS n (-2 ^ (n - 1)) q = 2 ^ (16 * n - 1) := by unfold tq_prodS; rw [if_pos (.inl rfl)]
theorem tq_prod_not2 {n : Nat} {p : Int} : tq_prodS n p (-2 ^ (n - 1)) = 2 ^ (16 * n - 1) := by unfold tq_prodS; rw [if_pos (.inr rfl)]
theorem tq_not_ne {n : Nat} (hn : n = 8 ∨ n = 16 ∨ n = 32) {p : Int} (hr : -2 ^ (n - 1) ≤ p ∧ p < 2 ^ (n - 1)) (h : p ≠ -2 ^ (n - 1)) : -2 ^ (n - 1) < p ∧ p < 2 ^ (n - 1) := by omega
theorem tq_one_rng {n : Nat} (hn : n = 8 ∨ n = 16 ∨ n = 32) : -2 ^ (n - 1) < (2 ^ (n - 2) : Int) ∧ (2 ^ (n - 2) : Int) < 2 ^ (n - 1) := by rcases hn with rfl | rfl | rfl <;> decide
theorem tq_iv_one {n : Nat} (hn : n = 8 ∨ n = 16 ∨ n = 32) : tq_iv n (2 ^ (n - 2)) = ((2 ^ (4 * n - 8) : Nat) : Int) := by
  unfold tq_iv tq_sg
  have h1 : ¬ ((2 ^ (n - 2) : Int) < 0) := by rcases hn with rfl | rfl | rfl <;> decide
  have h2 : (2 ^ (n - 2) : Int).natAbs = 2 ^ (n - 2) := by rcases hn with rfl | rfl | rfl <;> rfl
  rw [decide_eq_false h1, if_neg (by decide), h2, tq_mag_one hn]
/-- the class's fused, as an integer rounded -/
theorem tq_fused_int {n : Nat} (hn : n = 8 ∨ n = 16 ∨ n = 32) {p q z : Int} (hp : -2 ^ (n - 1) < p ∧ p < 2 ^ (n - 1)) (hq : -2 ^ (n - 1) < q ∧ q < 2 ^ (n - 1)) (hz : -2 ^ (n - 1) < z ∧ z < 2 ^ (n - 1)) :
    tq_ansS n (tq_incS n (tq_prodS n p q) (tq_prodS n z (2 ^ (n - 2)))) = tq_rI n (tq_iv n p * tq_iv n q + tq_iv n z * ((2 ^ (4 * n - 8) : Nat) : Int)) := by
  have h1 := tq_isS_prod hn hp hq
  have h2 := tq_isS_prod hn hz (tq_one_rng hn)
  rw [tq_iv_one hn] at h2
  refine tq_ans_isS (tq_isS_inc hn h1 h2 ?_)
  have b1 := tq_prod_abs hn hp hq
  have b2 := tq_prod_abs hn hz (tq_one_rng hn)
  rw [tq_iv_one hn] at b2
  have hlt : 2 * 2 ^ (16 * n - 32) < 2 ^ (16 * n - 1) := by
    have h := Nat.pow_add 2 1 (16 * n - 32)
    have : 2 ^ (1 + (16 * n - 32)) < 2 ^ (16 * n - 1) := Nat.pow_lt_pow_right (by omega) (by omega)
    rw [h] at this; exact this
  generalize 2 ^ (16 * n - 32) = X at *
  generalize 2 ^ (16 * n - 1) = Y at *
  generalize tq_iv n p * tq_iv n q = a at *
  generalize tq_iv n z * ((2 ^ (4 * n - 8) : Nat) : Int) = b at *
  omega
