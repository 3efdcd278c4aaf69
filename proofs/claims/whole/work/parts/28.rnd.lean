/-- the bodies of t, of the middle above it and of t + 1, where t has the run of r -/
theorem tq_body_t {n : Nat} (hn : n = 8 ∨ n = 16 ∨ n = 32) {r : Int} (hr : -((n : Int) - 2) ≤ r ∧ r ≤ n - 3) {room y : Nat} (hroom : room = n - 1 - tq_rl r) (hy : y < 2 ^ room) : tq_Body ((tq_rn r * 2 ^ room + y) * 2 ^ (33 - n)) r (y * 2 ^ (32 - room)) := by
  have hZ : y * 2 ^ (32 - room) < 2 ^ 32 := by
    have e : 2 ^ 32 = 2 ^ room * 2 ^ (32 - room) := by rw [← Nat.pow_add, show room + (32 - room) = 32 by omega]
    rw [e]; exact Nat.mul_lt_mul_of_pos_right hy (Nat.two_pow_pos _)
  unfold tq_rl at hroom
  unfold tq_rn
  refine ⟨hZ, ?_⟩
  rcases Int.lt_or_le r 0 with q | q
  · rw [if_neg (by omega)] at hroom ⊢
    right
    refine ⟨q, by omega, ?_⟩
    rw [Nat.mul_assoc, ← Nat.pow_add, show 33 - n + ((-r).toNat + 1) = 32 - room by omega, Nat.add_mul, Nat.one_mul, ← Nat.pow_add, show room + (32 - room) = 32 by omega]
  · rw [if_pos q] at hroom ⊢
    left
    refine ⟨q, by omega, ?_⟩
    rw [Nat.mul_assoc, ← Nat.pow_add, show 33 - n + (r.toNat + 2) = 32 - room by omega, Nat.add_mul, Nat.mul_assoc, ← Nat.pow_add, show room + (32 - room) = 32 by omega, Nat.sub_mul]
    have h4 : 2 ^ 2 ≤ 2 ^ (r.toNat + 2) := Nat.pow_le_pow_right (by omega) (by omega)
    generalize 2 ^ (r.toNat + 2) = X at *
    omega
theorem tq_body_mid {n : Nat} (hn : n = 8 ∨ n = 16 ∨ n = 32) {r : Int} (hr : -((n : Int) - 2) ≤ r ∧ r ≤ n - 3) {room y : Nat} (hroom : room = n - 1 - tq_rl r) (hy : y < 2 ^ room) : tq_Body ((2 * (tq_rn r * 2 ^ room + y) + 1) * 2 ^ (32 - n)) r (y * 2 ^ (32 - room) + 2 ^ (31 - room)) := by
  have hrl : 2 ≤ tq_rl r ∧ tq_rl r ≤ n - 1 := by unfold tq_rl; split <;> omega
  have hZ : y * 2 ^ (32 - room) + 2 ^ (31 - room) < 2 ^ 32 := by
    have e : 2 ^ 32 = 2 ^ room * 2 ^ (32 - room) := by rw [← Nat.pow_add, show room + (32 - room) = 32 by omega]
    have e2 : 2 ^ (32 - room) = 2 ^ (31 - room) * 2 := by
      have h := Nat.pow_add 2 (31 - room) 1
      rw [show 31 - room + 1 = 32 - room by omega] at h; exact h
    have := Nat.mul_le_mul_right (2 ^ (32 - room)) (show y + 1 ≤ 2 ^ room from hy)
    rw [← e, Nat.add_mul] at this
    have p := Nat.two_pow_pos (31 - room)
    omega
  have e2 : ∀ X : Nat, (2 * X + 1) * 2 ^ (32 - room - 1) = X * 2 ^ (32 - room) + 2 ^ (31 - room) := by
    intro X
    have e2 : 2 ^ (32 - room) = 2 * 2 ^ (31 - room) := by
      have h := Nat.pow_add 2 1 (31 - room)
      rw [show 1 + (31 - room) = 32 - room by omega] at h; exact h
    rw [e2, show 32 - room - 1 = 31 - room by omega, Nat.add_mul, Nat.one_mul, Nat.mul_comm 2 X, Nat.mul_assoc]
  unfold tq_rl at hroom
  unfold tq_rn
  refine ⟨hZ, ?_⟩
  rcases Int.lt_or_le r 0 with q | q
  · rw [if_neg (by omega)] at hroom ⊢
    right
    refine ⟨q, by omega, ?_⟩
    rw [Nat.mul_assoc, ← Nat.pow_add, show 32 - n + ((-r).toNat + 1) = 32 - room - 1 by omega, e2, Nat.add_mul, Nat.one_mul, ← Nat.pow_add, show room + (32 - room) = 32 by omega, Nat.add_assoc]
  · rw [if_pos q] at hroom ⊢
    left
    refine ⟨q, by omega, ?_⟩
    rw [Nat.mul_assoc, ← Nat.pow_add, show 32 - n + (r.toNat + 2) = 32 - room - 1 by omega, e2, Nat.add_mul, Nat.mul_assoc, ← Nat.pow_add, show room + (32 - room) = 32 by omega, Nat.sub_mul]
    have h4 : 2 ^ 2 ≤ 2 ^ (r.toNat + 2) := Nat.pow_le_pow_right (by omega) (by omega)
    generalize 2 ^ (r.toNat + 2) = X at *
    omega
/-- the next run's first pattern -/
theorem tq_body_next {n : Nat} (hn : n = 8 ∨ n = 16 ∨ n = 32) {r : Int} (hr : -((n : Int) - 2) ≤ r ∧ r ≤ n - 3) {room : Nat} (hroom : room = n - 1 - tq_rl r) : tq_Body ((tq_rn r * 2 ^ room + 2 ^ room) * 2 ^ (33 - n)) (r + 1) 0 := by
  unfold tq_rl at hroom
  unfold tq_rn
  refine ⟨by omega, ?_⟩
  rcases Int.lt_or_le r 0 with q | q
  · rw [if_neg (by omega)] at hroom ⊢
    rcases Int.lt_or_le (r + 1) 0 with w | w
    · right
      refine ⟨w, by omega, ?_⟩
      rw [Nat.one_mul, ← Nat.two_mul, ← Nat.pow_succ', Nat.mul_assoc, ← Nat.pow_add, ← Nat.pow_add, show room.succ + (33 - n + ((-(r + 1)).toNat + 1)) = 32 by omega]
    · left
      have hr1 : r = -1 := by omega
      subst hr1
      refine ⟨by omega, by omega, ?_⟩
      rw [Nat.one_mul, ← Nat.two_mul, ← Nat.pow_succ', Nat.mul_assoc, ← Nat.pow_add, ← Nat.pow_add, show room.succ + (33 - n + ((-1 + 1 : Int).toNat + 2)) = 33 by omega]
      decide
  · rw [if_pos q] at hroom ⊢
    left
    refine ⟨by omega, by omega, ?_⟩
    have e : ((2 ^ (r.toNat + 2) - 2) * 2 ^ room + 2 ^ room) = (2 ^ (r.toNat + 2) - 1) * 2 ^ room := by
      have h4 : 2 ^ 2 ≤ 2 ^ (r.toNat + 2) := Nat.pow_le_pow_right (by omega) (by omega)
      rw [Nat.sub_mul, Nat.sub_mul, Nat.one_mul]
      have := Nat.mul_le_mul_right (2 ^ room) (show 2 ≤ 2 ^ (r.toNat + 2) by omega)
      omega
    rw [e, Nat.mul_assoc, Nat.mul_assoc, ← Nat.pow_add, ← Nat.pow_add, show room + (33 - n + ((r + 1).toNat + 2)) = 33 by omega, show (r + 1).toNat + 2 = r.toNat + 2 + 1 by omega, Nat.pow_succ (n := 2) (m := r.toNat + 2), Nat.sub_mul]
    have h4 : 2 ^ 2 ≤ 2 ^ (r.toNat + 2) := Nat.pow_le_pow_right (by omega) (by omega)
    generalize 2 ^ (r.toNat + 2) = X at *
    omega
theorem tq_rnd_cases {V d : Nat} {mo : Bool} {t w : Nat} (ht : V / 2 ^ d = t) (hw : V % 2 ^ d = w) :
    (w < 2 ^ (d - 1) → tq_rnd V d mo = t) ∧ (2 ^ (d - 1) < w → tq_rnd V d mo = t + 1) ∧ (w = 2 ^ (d - 1) → (mo = true ∨ t % 2 = 1) → tq_rnd V d mo = t + 1) ∧ (w = 2 ^ (d - 1) → ¬ (mo = true ∨ t % 2 = 1) → tq_rnd V d mo = t) := by
  unfold tq_rnd
  rw [ht, hw]
  refine ⟨fun h => ?_, fun h => ?_, fun h h2 => ?_, fun h h2 => ?_⟩
  · have hn : ¬ (2 ^ (d - 1) < w ∨ w = 2 ^ (d - 1) ∧ (mo = true ∨ t % 2 = 1)) := by
      rintro (q | ⟨q, _⟩) <;> omega
    rw [if_neg hn, Nat.add_zero]
  · rw [if_pos (.inl h)]
  · rw [if_pos (.inr ⟨h, h2⟩)]
  · have hn : ¬ (2 ^ (d - 1) < w ∨ w = 2 ^ (d - 1) ∧ (mo = true ∨ t % 2 = 1)) := by
      rintro (q | ⟨_, q⟩)
      · omega
      · exact h2 q
    rw [if_neg hn, Nat.add_zero]
/-- what the search finds, and how it decides -/
theorem tq_round_in {C D : Nat → Prop} (hcut : tq_Cut C D) {n : Nat} (hn : n = 8 ∨ n = 16 ∨ n = 32) {s : Int} (hs : -(4 * (n : Int) - 8) ≤ s ∧ s < 4 * (n : Int) - 8) {sig : Nat} {mo : Bool} (hl : tq_Lead C D s sig mo) :
    ∃ (t : Nat) (r : Int) (Zt Zm : Nat), 1 ≤ t ∧ t + 1 < 2 ^ (n - 1) ∧ tq_Body (t * 2 ^ (33 - n)) r Zt ∧ tq_Body ((2 * t + 1) * 2 ^ (32 - n)) r Zm ∧ C (tq_xv r Zt) ∧ (∃ R' Z', tq_Body ((t + 1) * 2 ^ (33 - n)) R' Z' ∧ ¬ C (tq_xv R' Z')) ∧
      (D (tq_xv r Zt) → tq_pp n s sig mo = t) ∧ (C (tq_xv r Zm) → ¬ D (tq_xv r Zm) → tq_pp n s sig mo = t + 1) ∧ (D (tq_xv r Zm) → t % 2 = 1 → tq_pp n s sig mo = t + 1) ∧ (D (tq_xv r Zm) → t % 2 = 0 → tq_pp n s sig mo = t) ∧ (¬ C (tq_xv r Zm) → tq_pp n s sig mo = t) := by
  have hl' := hl
  obtain ⟨l1, l2, l3, l4⟩ := hl'
  have hr : -((n : Int) - 2) ≤ s / 4 ∧ s / 4 ≤ n - 3 := by omega
  have hrl : 2 ≤ tq_rl (s / 4) ∧ tq_rl (s / 4) ≤ n - 1 := by unfold tq_rl; split <;> omega
  have hrn : 1 ≤ tq_rn (s / 4) ∧ tq_rn (s / 4) + 2 ≤ 2 ^ tq_rl (s / 4) := by
    unfold tq_rn tq_rl
    split
    · have : 2 ^ 2 ≤ 2 ^ ((s / 4).toNat + 2) := Nat.pow_le_pow_right (by omega) (by omega)
      omega
    · have : 2 ^ 2 ≤ 2 ^ ((-(s / 4)).toNat + 1) := Nat.pow_le_pow_right (by omega) (by omega)
      omega
  obtain ⟨room, hroom⟩ : ∃ room, room = n - 1 - tq_rl (s / 4) := ⟨_, rfl⟩
  obtain ⟨A, hA⟩ : ∃ A, A = (s % 4).toNat * 2 ^ 63 + (sig - 2 ^ 63) := ⟨_, rfl⟩
  have hA65 : A < 2 ^ 65 := by omega
  have hrm : room ≤ 29 := by omega
  have hd : 2 ^ 65 = 2 ^ room * 2 ^ (65 - room) := by rw [← Nat.pow_add, show room + (65 - room) = 65 by omega]
  have pd := Nat.two_pow_pos (65 - room)
  have pr := Nat.two_pow_pos room
  have hy : A / 2 ^ (65 - room) < 2 ^ room := by
    rw [Nat.div_lt_iff_lt_mul pd, ← hd]; exact hA65
  have hdm := Nat.div_add_mod A (2 ^ (65 - room))
  have hwl := Nat.mod_lt A pd
  have hV : tq_ppV (s / 4) (s % 4).toNat sig = tq_rn (s / 4) * 2 ^ 65 + A := by unfold tq_ppV; rw [hA, Nat.add_assoc]
  have hVq : (tq_rn (s / 4) * 2 ^ 65 + A) / 2 ^ (65 - room) = tq_rn (s / 4) * 2 ^ room + A / 2 ^ (65 - room) := by
    rw [hd, ← Nat.mul_assoc, Nat.add_comm, Nat.add_mul_div_right _ _ pd, Nat.add_comm]
  have hVm : (tq_rn (s / 4) * 2 ^ 65 + A) % 2 ^ (65 - room) = A % 2 ^ (65 - room) := by
    rw [hd, ← Nat.mul_assoc, Nat.add_comm, Nat.add_mul_mod_self_right]
  have hpp : tq_pp n s sig mo = tq_rnd (tq_rn (s / 4) * 2 ^ 65 + A) (65 - room) mo := by
    unfold tq_pp
    rw [if_neg (by omega), if_neg (by omega), hV, hroom]
  obtain ⟨k1, k2, k3, k4⟩ := tq_rnd_cases (mo := mo) hVq hVm
  rw [← hpp] at k1 k2 k3 k4
  have hbt := tq_body_t hn hr hroom hy
  have hbm := tq_body_mid hn hr hroom hy
  have p32 : 2 ^ (32 - room) * 2 ^ 33 = 2 ^ (65 - room) := by rw [← Nat.pow_add, show 32 - room + 33 = 65 - room by omega]
  have p31 : 2 ^ (31 - room) * 2 ^ 33 = 2 ^ (65 - room - 1) := by rw [← Nat.pow_add, show 31 - room + 33 = 65 - room - 1 by omega]
  have m32 : 2 ^ (32 - room) = 2 ^ (30 - room) * 4 := by
    have h := Nat.pow_add 2 (30 - room) 2
    rw [show 30 - room + 2 = 32 - room by omega] at h; exact h
  have m31 : 2 ^ (31 - room) = 2 ^ (29 - room) * 4 := by
    have h := Nat.pow_add 2 (29 - room) 2
    rw [show 29 - room + 2 = 31 - room by omega] at h; exact h
  have hdh : 2 ^ (65 - room) = 2 * 2 ^ (65 - room - 1) := by
    have h := Nat.pow_add 2 1 (65 - room - 1)
    rw [show 1 + (65 - room - 1) = 65 - room by omega] at h; exact h
  have hs2 : -124 ≤ s ∧ s ≤ 124 := by omega
  have q4 : ∀ a b : Nat, a * (b * 4) % 4 = 0 := fun a b => by rw [← Nat.mul_assoc]; omega
  obtain ⟨ct, dt⟩ := tq_cmp_xv hcut hs2 hl hbt.1 (by rw [m32]; exact q4 _ _) hA
  obtain ⟨cm, dm⟩ := tq_cmp_xv hcut hs2 hl hbm.1 (by rw [m32, m31]; have := q4 (A / 2 ^ (65 - room)) (2 ^ (30 - room)); omega) hA
  rw [Nat.mul_assoc, p32] at ct dt
  rw [Nat.add_mul, Nat.mul_assoc, p32, p31] at cm dm
  have hnx : ∃ R' Z', tq_Body ((tq_rn (s / 4) * 2 ^ room + A / 2 ^ (65 - room) + 1) * 2 ^ (33 - n)) R' Z' ∧ ¬ C (tq_xv R' Z') := by
    rcases Nat.lt_or_ge (A / 2 ^ (65 - room) + 1) (2 ^ room) with q | q
    · have hb2 := tq_body_t hn hr hroom q
      refine ⟨s / 4, _, by rw [Nat.add_assoc]; exact hb2, ?_⟩
      obtain ⟨c2, -⟩ := tq_cmp_xv hcut hs2 hl hb2.1 (by rw [m32]; exact q4 _ _) hA
      rw [Nat.mul_assoc, p32] at c2
      rw [c2, Nat.add_mul, Nat.mul_comm (A / 2 ^ (65 - room)) (2 ^ (65 - room))]
      generalize 2 ^ (65 - room) * (A / 2 ^ (65 - room)) = X at *
      generalize A % 2 ^ (65 - room) = Y at *
      omega
    · have : A / 2 ^ (65 - room) + 1 = 2 ^ room := by omega
      refine ⟨s / 4 + 1, 0, by rw [Nat.add_assoc, this]; exact tq_body_next hn hr hroom, fun w => l4 (hcut.1 _ _ (tq_xv_lo (by omega) ?_) w)⟩
      show (((s + 157).toNat : Nat) : Int) ≤ 4 * (s / 4 + 1) + ((0 / 2 ^ 30 : Nat) : Int) + 156
      omega
  have hlt : tq_rn (s / 4) * 2 ^ room + A / 2 ^ (65 - room) + 1 < 2 ^ (n - 1) := by
    have e : 2 ^ (n - 1) = 2 ^ tq_rl (s / 4) * 2 ^ room := by rw [← Nat.pow_add, show tq_rl (s / 4) + room = n - 1 by omega]
    have := Nat.mul_le_mul_right (2 ^ room) hrn.2
    rw [← e, Nat.add_mul] at this
    omega
  have hge : 1 ≤ tq_rn (s / 4) * 2 ^ room + A / 2 ^ (65 - room) := by
    have := Nat.mul_le_mul_right (2 ^ room) hrn.1
    rw [Nat.one_mul] at this
    exact Nat.le_trans pr (Nat.le_trans this (Nat.le_add_right _ _))
  rw [Nat.mul_comm (A / 2 ^ (65 - room)) (2 ^ (65 - room))] at ct dt cm dm
  generalize hX : 2 ^ (65 - room) * (A / 2 ^ (65 - room)) = X at *
  generalize hY : A % 2 ^ (65 - room) = Y at *
  generalize hT : tq_rn (s / 4) * 2 ^ room + A / 2 ^ (65 - room) = T at *
  have hX' : A / 2 ^ (65 - room) * 2 ^ (65 - room) = X := by rw [Nat.mul_comm]; exact hX
  generalize 2 ^ (65 - room - 1) = Hf at *
  clear hV hVq hVm hpp hA hd m32 m31 p32 p31 hrn hrl l3 l4
  refine ⟨T, s / 4, _, _, hge, hlt, hbt, hbm, ct.2 (by omega), hnx, fun h => ?_, fun h h2 => ?_, fun h h2 => ?_, fun h h2 => ?_, fun h => ?_⟩
  · have := dt.1 h
    exact k1 (by omega)
  · have w := cm.1 h
    rcases Nat.lt_or_ge Hf Y with q | q
    · exact k2 q
    · have e : Y = Hf := by omega
      refine k3 e (.inl ?_)
      cases mo with
      | true => rfl
      | false => exact absurd (dm.2 ⟨by omega, rfl⟩) h2
  · have w := (dm.1 h).1
    exact k3 (by omega) (.inr h2)
  · have w := dm.1 h
    refine k4 (by omega) ?_
    rintro (z | z)
    · rw [w.2] at z; cases z
    · omega
  · exact k1 (by
      rcases Nat.lt_or_ge Y Hf with q | q
      · exact q
      · exact absurd (cm.2 (by omega)) h)
