theorem tq_i64_of_lim {x : Int32} (h : 0 ≤ x.toInt) : x.toInt64.toInt = (tq_lim x : Int) := by rw [tq_i64_of_32, tq_lim_i h]
theorem tq_and16L {x : Int64} {k : Nat} (h : x.toInt = k) : ((x &&& 65535).toInt32).toInt = ((k % 65536 : Nat) : Int) := by
  have h1 : tq_u64 (x &&& 65535) = tq_u64 x % 2 ^ 16 := by
    rw [tq_u64_and]
    have : tq_u64 (65535 : Int64) = 2 ^ 16 - 1 := rfl
    rw [this, Nat.and_two_pow_sub_one_eq_mod]
  apply tq_i32_of_u
  · rw [tq_u32_of_64, h1, tq_u64_of_i h]; omega
  · omega
theorem tq_ix40b (r i j : Nat) : (40 : Int32) * nI r + nI i + nI j = nI (40 * r + i + j) := by
  rw [tq_ix40]; unfold nI; rw [← Int32.ofNat_add]
theorem tq_alg1 (X V L P Q : Nat) : X * (V + L * P) * Q = X * V * Q + X * (L * (P * Q)) := by
  rw [Nat.mul_add, Nat.add_mul, Nat.mul_assoc X (L * P) Q, Nat.mul_assoc L P Q]
theorem tq_alg2 (L R H P Q : Nat) : L * Q * (R + P * H) = L * R * Q + L * H * (P * Q) := by
  rw [Nat.mul_add, Nat.mul_right_comm L Q R, Nat.mul_right_comm L Q (P * H), Nat.mul_comm P H, Nat.mul_assoc L (H * P) Q, Nat.mul_assoc H P Q, ← Nat.mul_assoc L H (P * Q)]
theorem tq_alg3 {A B C X V Q P R : Nat} (hX : X = 0) (hC : C = 0) (h : A + C * R = B) : A + 0 * P = B + X * V * Q := by
  subst hX hC; rw [Nat.zero_mul, Nat.add_zero] at h; rw [h, Nat.zero_mul, Nat.zero_mul, Nat.zero_mul]
theorem tq_times_inner {b t : Nat} (hb : b ≤ 4) (ht : t ≤ 4) (hbt : b ≠ t) {k8 : Int32 → (Nat → Int32) → Option (Nat → Int32)} {i : Nat} (hi : i < 40) {x : Int64} {X : Nat} (hx : x.toInt = X) (hX : X < 65536) {f1 : Nat → Int32} (hw1 : tq_WL 200 f1) :
    ∀ n j (c : Int64) (C : Nat) (f : Nat → Int32), i + j ≤ 40 → 40 < n + i + j → c.toInt = C → C < 65536 → tq_WL 200 f → tq_Fr t f1 f → (∀ k, i + j ≤ k → k < 40 → f (40 * t + k) = f1 (40 * t + k)) →
    tq_rv f (40 * t) (i + j) + C * 2 ^ (16 * (i + j)) = tq_rv f1 (40 * t) (i + j) + X * tq_rv f1 (40 * b) j * 2 ^ (16 * i) →
    ∃ g c', m_times_b36 (nI b) (nI t) k8 n (nI i) x c (nI j) f = k8 (nI (i + 1)) g ∧ tq_WL 200 g ∧ tq_Fr t f1 g ∧ tq_rv g (40 * t) 40 + c' * 2 ^ 640 = tq_rv f1 (40 * t) 40 + X * tq_rv f1 (40 * b) (40 - i) * 2 ^ (16 * i) := by
  intro n
  induction n with
  | zero => intro j c C f h1 h2 hc hC hw hf hk hs; omega
  | succ n ih =>
    intro j c C f h1 h2 hc hC hw hf hk hs
    unfold m_times_b36
    have e40 : (40 : Int32) - nI i = nI (40 - i) := by
      apply Int32.toInt.inj
      have c40 : ((40 : Int32)).toInt = 40 := rfl
      rw [tq_i32_sub (by rw [tq_nI_i (by omega), c40]; omega), tq_nI_i (by omega), tq_nI_i (by omega), c40]; omega
    rw [e40, tq_nI_add]
    by_cases h : 40 - i ≤ j
    · rw [if_pos ((tq_nI_le (by omega) (by omega)).2 h)]
      have : i + j = 40 := by omega
      rw [this] at hs
      have ej : j = 40 - i := by omega
      rw [ej] at hs
      exact ⟨f, C, rfl, hw, hf, hs⟩
    · rw [if_neg (fun q => h ((tq_nI_le (by omega) (by omega)).1 q))]
      by_cases z : lg_cmp x 0 = 0
      · rw [if_pos z]; rw [tq_cmp_eq] at z
        have X0 : X = 0 := by rw [z] at hx; have : ((0 : Int64)).toInt = 0 := rfl; omega
        have hC0 : tq_rv f (40 * t) 40 + C * 2 ^ (16 * (i + j)) = tq_rv f1 (40 * t) 40 := by
          have s1 := tq_rv_split (f := f) (b := 40 * t) (i := i + j) (40 - (i + j))
          have s2 := tq_rv_split (f := f1) (b := 40 * t) (i := i + j) (40 - (i + j))
          have e : i + j + (40 - (i + j)) = 40 := by omega
          rw [e] at s1 s2
          have s3 : tq_rv f (40 * t + (i + j)) (40 - (i + j)) = tq_rv f1 (40 * t + (i + j)) (40 - (i + j)) := tq_rv_congr (fun k hk2 => by
            rw [Nat.add_assoc]; exact hk _ (by omega) (by omega))
          rw [s1, s2, s3]
          rw [X0] at hs; simp only [Nat.zero_mul] at hs; omega
        have hfl : tq_rv f (40 * t) (i + j) < 2 ^ (16 * (i + j)) := tq_rv_lt (fun k hk2 => tq_lim_lt hw (by omega))
        have hfl1 : tq_rv f1 (40 * t) (i + j) < 2 ^ (16 * (i + j)) := tq_rv_lt (fun k hk2 => tq_lim_lt hw1 (by omega))
        have C0 : C = 0 := by
          rcases Nat.eq_zero_or_pos C with q | q
          · exact q
          · rw [X0] at hs; simp only [Nat.zero_mul] at hs
            have := Nat.mul_le_mul_right (2 ^ (16 * (i + j))) q; omega
        exact ⟨f, 0, rfl, hw, hf, tq_alg3 X0 C0 hC0⟩
      · rw [if_neg z, tq_ix40, tq_ix40b, if_neg (tq_ixok hb (by omega)), Nat.add_assoc, if_neg (tq_ixok ht (by omega)), tq_nm_e, if_neg (tq_ixok ht (by omega)), tq_nm_e, tq_ixcl hb (by omega), tq_ixcl ht (by omega)]
        have eb : f (40 * b + j) = f1 (40 * b + j) := hf _ (by omega)
        have et : f (40 * t + (i + j)) = f1 (40 * t + (i + j)) := hk _ (Nat.le_refl _) (by omega)
        rw [eb, et]
        have lb := hw1 (40 * b + j) (by omega)
        have lt := hw1 (40 * t + (i + j)) (by omega)
        have lb2 := tq_lim_lt hw1 (i := 40 * b + j) (by omega)
        have lt2 := tq_lim_lt hw1 (i := 40 * t + (i + j)) (by omega)
        have hprod : X * tq_lim (f1 (40 * b + j)) ≤ 65535 * 65535 := Nat.mul_le_mul (by omega) (by omega)
        have m1 : (x * (f1 (40 * b + j)).toInt64).toInt = ((X * tq_lim (f1 (40 * b + j)) : Nat) : Int) := by
          have e : x.toInt * (f1 (40 * b + j)).toInt64.toInt = ((X * tq_lim (f1 (40 * b + j)) : Nat) : Int) := by rw [hx, tq_i64_of_lim lb.1]; norm_cast
          rw [tq_i64_mul (by rw [e]; omega), e]
        have m2 : (x * (f1 (40 * b + j)).toInt64 + (f1 (40 * t + (i + j))).toInt64).toInt = ((X * tq_lim (f1 (40 * b + j)) + tq_lim (f1 (40 * t + (i + j))) : Nat) : Int) := by
          rw [tq_i64_add (by rw [m1, tq_i64_of_lim lt.1]; omega), m1, tq_i64_of_lim lt.1]; omega
        have m3 : (x * (f1 (40 * b + j)).toInt64 + (f1 (40 * t + (i + j))).toInt64 + c).toInt = ((X * tq_lim (f1 (40 * b + j)) + tq_lim (f1 (40 * t + (i + j))) + C : Nat) : Int) := by
          rw [tq_i64_add (by rw [m2, hc]; omega), m2, hc]; omega
        generalize x * (f1 (40 * b + j)).toInt64 + (f1 (40 * t + (i + j))).toInt64 + c = s at *
        generalize hS : X * tq_lim (f1 (40 * b + j)) + tq_lim (f1 (40 * t + (i + j))) + C = S at *
        have e3 : (s >>> ((16 : Int32).toInt64 &&& 63)).toInt = ((S / 65536 : Nat) : Int) := by
          rw [tq_i64_shr (k := 16) rfl (by omega), m3]; norm_cast
        have e4 := tq_and16L m3
        rw [tq_nI_add]
        apply ih (j + 1) _ (S / 65536) _ (by omega) (by omega) e3 (by omega)
        · exact tq_WL_upd hw (by rw [e4]; omega)
        · intro y hy; rw [tq_upI_ne (by omega)]; exact hf y hy
        · intro k h3 h4; rw [tq_upI_ne (by omega)]; exact hk k (by omega) h4
        · have ea : i + (j + 1) = i + j + 1 := by omega
          have r1 : ∀ (h : Nat → Int32) (z k : Nat), tq_rv h z (k + 1) = tq_rv h z k + tq_lim (h (z + k)) * 2 ^ (16 * k) := fun _ _ _ => rfl
          rw [ea, r1, r1, r1, tq_upI_at, tq_p16, tq_rv_congr (g := f) (c := 40 * t) (fun k hk2 => by rw [tq_upI_ne (by omega)])]
          have key : tq_lim ((s &&& 65535).toInt32) + S / 65536 * 2 ^ 16 = S := by rw [tq_lim_of e4]; omega
          have e16 : 2 ^ (16 * (i + j)) = 2 ^ (16 * j) * 2 ^ (16 * i) := by rw [← Nat.pow_add]; congr 1; omega
          have k2 := congrArg (· * 2 ^ (16 * (i + j))) (key.trans hS.symm)
          simp only [Nat.add_mul, Nat.mul_assoc] at k2
          have k3 : X * (tq_rv f1 (40 * b) j + tq_lim (f1 (40 * b + j)) * 2 ^ (16 * j)) * 2 ^ (16 * i) = X * tq_rv f1 (40 * b) j * 2 ^ (16 * i) + X * (tq_lim (f1 (40 * b + j)) * 2 ^ (16 * (i + j))) := by
            rw [e16]; exact tq_alg1 _ _ _ _ _
          rw [k3]
          omega
theorem tq_times_outer {a b t : Nat} (ha : a ≤ 4) (hb : b ≤ 4) (ht : t ≤ 4) (hat : a ≠ t) (hbt : b ≠ t) {f0 : Nat → Int32} (hw0 : tq_WL 200 f0) : ∀ n i (f : Nat → Int32), i ≤ 40 → 40 < n + i → tq_WL 200 f → tq_Fr t f0 f →
    (∃ c, tq_rv f (40 * t) 40 + c * 2 ^ 640 = tq_rv f0 (40 * a) i * tq_rv f0 (40 * b) 40) →
    ∃ g c, m_times_b8 (nI a) (nI b) (nI t) n (nI i) f = some g ∧ tq_WL 200 g ∧ tq_Fr t f0 g ∧ tq_rv g (40 * t) 40 + c * 2 ^ 640 = tq_rv f0 (40 * a) 40 * tq_rv f0 (40 * b) 40 := by
  intro n
  induction n with
  | zero => intro i f h1 h2 hw hf hs; omega
  | succ n ih =>
    intro i f h1 h2 hw hf hs
    unfold m_times_b8
    obtain ⟨c0, hs⟩ := hs
    show ∃ g c, (if nI 40 ≤ nI i then some f else _) = some g ∧ _
    by_cases h : 40 ≤ i
    · have : i = 40 := by omega
      subst this
      rw [if_pos ((tq_nI_le (by omega) (by omega)).2 h)]
      exact ⟨f, c0, rfl, hw, hf, hs⟩
    · rw [if_neg (fun q => h ((tq_nI_le (by omega) (by omega)).1 q)), tq_ix40, if_neg (tq_ixok ha (by omega)), tq_nm_e, tq_ixcl ha (by omega)]
      have ea : f (40 * a + i) = f0 (40 * a + i) := hf _ (by omega)
      rw [ea]
      have la := hw0 (40 * a + i) (by omega)
      obtain ⟨g, c1, e, hwg, hfg, hg⟩ := tq_times_inner (k8 := m_times_b8 (nI a) (nI b) (nI t) n) hb ht hbt (i := i) (by omega) (tq_i64_of_lim la.1) (tq_lim_lt hw0 (by omega)) hw 41 0 0 0 f (by omega) (by omega) rfl (by omega) hw (fun _ _ => rfl) (fun _ _ _ => rfl) (by simp [tq_rv])
      have e0 : nI 0 = (0 : Int32) := rfl
      rw [e0] at e
      rw [e]
      apply ih (i + 1) g (by omega) (by omega) hwg
      · intro x hx; rw [hfg x hx]; exact hf x hx
      · have eb : tq_rv f (40 * b) (40 - i) = tq_rv f0 (40 * b) (40 - i) := tq_rv_congr (fun j hj => hf _ (by omega))
        rw [eb] at hg
        have s2 := tq_rv_split (f := f0) (b := 40 * b) (i := 40 - i) i
        have e40 : 40 - i + i = 40 := by omega
        rw [e40] at s2
        refine ⟨c0 + c1 + tq_lim (f0 (40 * a + i)) * tq_rv f0 (40 * b + (40 - i)) i, ?_⟩
        have er : tq_rv f0 (40 * a) (i + 1) = tq_rv f0 (40 * a) i + tq_lim (f0 (40 * a + i)) * 2 ^ (16 * i) := rfl
        rw [er, Nat.add_mul (tq_rv f0 (40 * a) i), ← hs]
        have k1 : tq_lim (f0 (40 * a + i)) * 2 ^ (16 * i) * tq_rv f0 (40 * b) 40 = tq_lim (f0 (40 * a + i)) * tq_rv f0 (40 * b) (40 - i) * 2 ^ (16 * i) + tq_lim (f0 (40 * a + i)) * tq_rv f0 (40 * b + (40 - i)) i * 2 ^ 640 := by
          have ep : 2 ^ 640 = 2 ^ (16 * (40 - i)) * 2 ^ (16 * i) := by rw [← Nat.pow_add, show 16 * (40 - i) + 16 * i = 640 by omega]
          rw [s2, ep]; exact tq_alg2 _ _ _ _ _
        rw [k1, Nat.add_mul, Nat.add_mul]
        generalize tq_lim (f0 (40 * a + i)) * tq_rv f0 (40 * b + (40 - i)) i * 2 ^ 640 = Y at *
        generalize tq_lim (f0 (40 * a + i)) * tq_rv f0 (40 * b) (40 - i) * 2 ^ (16 * i) = Z at *
        generalize c0 * 2 ^ 640 = C0 at *
        generalize c1 * 2 ^ 640 = C1 at *
        omega
theorem tq_times_spec {a b t : Nat} (ha : a ≤ 4) (hb : b ≤ 4) (ht : t ≤ 4) (hat : a ≠ t) (hbt : b ≠ t) {f : Nat → Int32} (hw : tq_WL 200 f) : ∃ g, m_times f (nI a) (nI b) (nI t) = some g ∧ tq_WL 200 g ∧ tq_Fr t f g ∧ tq_rv g (40 * t) 40 = tq_rv f (40 * a) 40 * tq_rv f (40 * b) 40 % 2 ^ 640 := by
  unfold m_times
  obtain ⟨f1, e1, w1, fr1, z1⟩ := tq_zero_spec ht hw
  rw [tq_bd_e e1]
  obtain ⟨g, c, e, w, fr, h⟩ := tq_times_outer ha hb ht hat hbt w1 41 0 f1 (by omega) (by omega) w1 (fun _ _ => rfl) ⟨0, by rw [tq_zero_rv z1]; simp [tq_rv]⟩
  refine ⟨g, e, w, fun x hx => by rw [fr x hx]; exact fr1 x hx, ?_⟩
  rw [tq_Fr_rv fr1 hat, tq_Fr_rv fr1 hbt] at h
  have hl : tq_rv g (40 * t) 40 < 2 ^ (16 * 40) := tq_rv_lt (fun j hj => tq_lim_lt w (by omega))
  rw [← h, Nat.add_mul_mod_self_right, Nat.mod_eq_of_lt hl]
