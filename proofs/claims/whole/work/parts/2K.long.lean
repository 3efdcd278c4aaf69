theorem tq_mtoLong_spec {nz : Int32} {n : Nat} (h : tq_Sz nz n) {f : Nat → Int32} (hw : tq_WL 200 f) (x : Int32) :
    ∃ r g, m_toLong nz f x = some (r, g) ∧ tq_WL 200 g ∧ (tq_pat n x = -2 ^ (n - 1) → r.toInt = -2 ^ 63) ∧ (tq_pat n x ≠ -2 ^ (n - 1) → ∀ m e, tq_Parts n (tq_pat n x) m e → r.toInt = if 0 ≤ e then (if m * 2 ^ e.toNat < 2 ^ 63 then tq_sg (decide (tq_pat n x < 0)) (m * 2 ^ e.toNat) else -2 ^ 63) else tq_sg (decide (tq_pat n x < 0)) (tq_rnd m (-e).toNat false)) := by
  have hn := h.2
  have cm : ((-9223372036854775808 : Int64)).toInt = -2 ^ 63 := by decide
  unfold m_toLong
  by_cases nx : tq_pat n x = -2 ^ (n - 1)
  · rw [if_neg (show ¬ m_isNot nz x = 0 from fun q => (tq_misNot_spec h x).1 q nx)]
    exact ⟨_, _, rfl, hw, fun _ => cm, fun q => absurd nx q⟩
  · rw [if_pos ((tq_misNot_spec h x).2 nx)]
    obtain ⟨g, e1, w1, h1⟩ := tq_mnear_spec h hw x nx
    obtain ⟨b, e2, hb⟩ := tq_bit_spec (r := 0) (by omega) w1 (kx := 63) (k := 63) rfl (by omega)
    have e2' : m_bit g 0 63 = some b := e2
    rw [tq_bd_e e1, tq_bd_e e2']
    have h1' : tq_rv g 0 40 = tq_rnd (tq_mag n (tq_pat n x).natAbs * 2 ^ (124 - (4 * n - 8))) 124 false := h1
    have hb : b = if (tq_rv g 0 40).testBit 63 then 1 else 0 := hb
    generalize hA : tq_rnd (tq_mag n (tq_pat n x).natAbs * 2 ^ (124 - (4 * n - 8))) 124 false = A at *
    rw [h1', Nat.testBit_eq_decide_div_mod_eq] at hb
    have hsp := tq_rv_split (f := g) (b := 0) (i := 4) 36
    rw [show 4 + 36 = 40 from rfl, h1', show 0 + 4 = 4 from rfl] at hsp
    have hlo : tq_rv g 0 4 < 2 ^ 64 := tq_rv_lt (k := 4) (fun j hj => tq_lim_lt w1 (by omega))
    have e64 : 2 ^ (16 * 4) = 2 ^ 64 := rfl
    rw [e64] at hsp
    have run : ∀ v6 : Int32, (v6 = 0 ∨ v6 = 1) → (v6 = 1 ↔ A / 2 ^ 63 % 2 = 0) → ∃ r, m_toLong_b37 nz x (-9223372036854775808) 0 v6 g = some (r, g) ∧ r.toInt = if A < 2 ^ 63 then tq_sg (decide (tq_pat n x < 0)) A else -2 ^ 63 := by
      intro v6 hv6 hiff
      unfold m_toLong_b37
      obtain ⟨r, e3, ha, hb2⟩ := tq_toL_loop h w1 x (-9223372036854775808) 40 41 0 v6 (by omega) (by omega) hv6 (by rw [if_pos (by omega)]; rfl)
      have e3' : m_toLong_b43 nz x 41 (-9223372036854775808) 0 v6 39 g = some (r, g) := e3
      refine ⟨r, e3', ?_⟩
      have key : (v6 = 1 ∧ (∀ j, 4 ≤ j → j < 40 → g j = 0)) ↔ A < 2 ^ 63 := by
        constructor
        · rintro ⟨a, c⟩
          have hz : tq_rv g 4 36 = 0 := tq_rv_zero (fun j hj => c (4 + j) (by omega) (by omega))
          rw [hz] at hsp
          have := hiff.1 a
          omega
        · intro a
          have hz : tq_rv g 4 36 = 0 := by
            rcases Nat.eq_zero_or_pos (tq_rv g 4 36) with z | z
            · exact z
            · have := Nat.mul_le_mul_left (2 ^ 64) z; omega
          refine ⟨hiff.2 (by omega), fun j j1 j2 => ?_⟩
          have := tq_rv_eq0 w1 (b := 4) (k := 36) (by omega) hz (j - 4) (by omega)
          rw [show 4 + (j - 4) = j by omega] at this; exact this
      by_cases q : A < 2 ^ 63
      · rw [if_pos q]
        obtain ⟨v, v1, v2⟩ := ha (key.2 q)
        have hz : tq_rv g 4 36 = 0 := by
          rcases Nat.eq_zero_or_pos (tq_rv g 4 36) with z | z
          · exact z
          · have := Nat.mul_le_mul_left (2 ^ 64) z; omega
        rw [hz] at hsp
        have vi := tq_i64_of_u (v1.trans (show tq_rv g 0 4 = A by omega)) q
        rw [v2]; unfold tq_sg
        cases decide (tq_pat n x < 0)
        · exact vi
        · show (-v).toInt = -(A : Int)
          rw [tq_i64_neg (by rw [vi]; omega), vi]
      · rw [if_neg q, hb2 (fun w => q (key.1 w)), cm]
    have fin : ∃ r, (if ¬ b = 0 then m_toLong_b37 nz x (-9223372036854775808) 0 0 g else m_toLong_b37 nz x (-9223372036854775808) 0 1 g) = some (r, g) ∧ r.toInt = if A < 2 ^ 63 then tq_sg (decide (tq_pat n x < 0)) A else -2 ^ 63 := by
      by_cases t : A / 2 ^ 63 % 2 = 1
      · rw [decide_eq_true t, if_pos rfl] at hb
        rw [if_pos (show ¬ b = 0 by rw [hb]; decide)]
        exact run 0 (.inl rfl) ⟨fun w => absurd w (by decide), fun w => by omega⟩
      · rw [decide_eq_false t] at hb
        rw [if_neg (show ¬ ¬ b = 0 from fun w => w (by rw [hb]; decide))]
        exact run 1 (.inr rfl) ⟨fun _ => by omega, fun _ => rfl⟩
    obtain ⟨r, e4, hr⟩ := fin
    refine ⟨r, g, e4, w1, fun q => absurd q nx, fun _ m e hp => ?_⟩
    rw [tq_near_parts hn hp] at hA
    obtain ⟨p1, p2, p3, p4, p5, p6⟩ := hp
    rw [hr]
    by_cases q : 0 ≤ e
    · rw [if_pos q] at hA ⊢; rw [hA]
    · rw [if_neg q] at hA ⊢; rw [hA]
      have hq := tq_rnd_le m (-e).toNat false
      have hq2 : m / 2 ^ (-e).toNat ≤ m := Nat.div_le_self _ _
      rw [if_pos (by omega)]
/-- M and what is behind it, of a number between M and M + 1 units of 2^e -/
theorem tq_lead_y {n : Nat} (hn : n = 8 ∨ n = 16 ∨ n = 32) {C D : Nat → Prop} (hcut : tq_Cut C D) {M T k1 k2 : Nat} {e : Int} {mo : Bool} (hM : 2 ^ T ≤ M ∧ M < 2 ^ (T + 1)) (hT : 28 ≤ T ∧ T ≤ 63) (hk : (k2 : Int) - k1 = e + 156)
    (H : ∀ x y, x * 2 ^ k1 = y * 2 ^ k2 → (C x ↔ y ≤ M) ∧ (D x ↔ y = M ∧ mo = false)) : tq_LeadX n C D (e + (T : Nat)) (M * 2 ^ (63 - T)) mo := by
  have b1 := Nat.mul_le_mul_right (2 ^ (63 - T)) hM.1
  have b2 := Nat.mul_lt_mul_of_pos_right hM.2 (Nat.two_pow_pos (63 - T))
  rw [← Nat.pow_add, show T + (63 - T) = 63 by omega] at b1
  rw [← Nat.pow_add, show T + 1 + (63 - T) = 64 by omega] at b2
  refine ⟨fun q1 q2 => ⟨b1, b2, fun c x c1 c2 hx => ?_, ?_⟩, fun q => ?_, fun q => ?_⟩
  · have e1 : x * 2 ^ k1 = c * 2 ^ (T - 28) * 2 ^ k2 := by
      have h1 : x * 2 ^ k1 * 2 ^ 28 = c * 2 ^ (T - 28) * 2 ^ k2 * 2 ^ 28 := by
        rw [Nat.mul_right_comm, hx, Nat.mul_assoc, Nat.mul_assoc, Nat.mul_assoc, ← Nat.pow_add, ← Nat.pow_add, ← Nat.pow_add, show (e + (T : Int) + 156).toNat + k1 = T - 28 + (k2 + 28) by omega]
      exact Nat.eq_of_mul_eq_mul_right (by decide) h1
    obtain ⟨r1, r2⟩ := H x _ e1
    have p := Nat.two_pow_pos (63 - T)
    have e2 : c * 2 ^ 35 = c * 2 ^ (T - 28) * 2 ^ (63 - T) := by rw [Nat.mul_assoc, ← Nat.pow_add, show T - 28 + (63 - T) = 35 by omega]
    rw [r1, r2, e2]
    exact ⟨⟨fun w => Nat.mul_le_mul_right _ w, fun w => Nat.le_of_mul_le_mul_right w p⟩, ⟨fun w => ⟨by rw [w.1], w.2⟩, fun w => ⟨Nat.eq_of_mul_eq_mul_right p w.1, w.2⟩⟩⟩
  · have e1 : 2 ^ (e + (T : Int) + 157).toNat * 2 ^ k1 = 2 ^ (T + 1) * 2 ^ k2 := by rw [← Nat.pow_add, ← Nat.pow_add, show (e + (T : Int) + 157).toNat + k1 = T + 1 + k2 by omega]
    rw [(H _ _ e1).1]; omega
  · rcases Nat.lt_or_ge (4 * n + 148 + k1) k2 with w | w
    · have e1 : 2 ^ (k2 - k1) * 2 ^ k1 = 1 * 2 ^ k2 := by rw [← Nat.pow_add, Nat.one_mul, show k2 - k1 + k1 = k2 by omega]
      refine hcut.1 _ (2 ^ (k2 - k1)) (Nat.pow_le_pow_right (by omega) (by omega)) ((H _ _ e1).1.2 ?_)
      have := Nat.two_pow_pos T; omega
    · have e1 : 2 ^ (4 * n + 148) * 2 ^ k1 = 2 ^ (4 * n + 148 + k1 - k2) * 2 ^ k2 := by rw [← Nat.pow_add, ← Nat.pow_add, show 4 * n + 148 + k1 - k2 + k2 = 4 * n + 148 + k1 by omega]
      refine (H _ _ e1).1.2 (Nat.le_trans (Nat.pow_le_pow_right (by omega) ?_) hM.1)
      omega
  · have e1 : 2 ^ (164 - 4 * n) * 2 ^ k1 = 2 ^ (164 - 4 * n + k1 - k2) * 2 ^ k2 := by rw [← Nat.pow_add, ← Nat.pow_add, show 164 - 4 * n + k1 - k2 + k2 = 164 - 4 * n + k1 by omega]
    rw [(H _ _ e1).1]
    have : 2 ^ (T + 1) ≤ 2 ^ (164 - 4 * n + k1 - k2) := Nat.pow_le_pow_right (by omega) (by omega)
    omega
theorem tq_rM_y {n M T : Nat} (hM : 2 ^ T ≤ M ∧ M < 2 ^ (T + 1)) (e : Int) (mo : Bool) : tq_rM n M e mo = tq_pp n (e + (T : Nat)) (M * 2 ^ (63 - T)) mo := by
  unfold tq_rM
  have : M ≠ 0 := by have := Nat.two_pow_pos T; omega
  rw [if_neg this, tq_log2_eq hM.1 hM.2]
