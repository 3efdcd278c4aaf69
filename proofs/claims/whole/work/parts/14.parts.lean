theorem tq_dvd_odd {a t c : Nat} (h : 2 ^ a ∣ 2 ^ t * (2 * c + 1)) : a ≤ t := by
  rcases Nat.lt_or_ge t a with q | q
  · exfalso
    obtain ⟨w, hw⟩ := h
    have e : 2 ^ a = 2 ^ t * (2 * 2 ^ (a - t - 1)) := by rw [← Nat.pow_succ', ← Nat.pow_add, show t + (a - t - 1 + 1) = a by omega]
    rw [e, Nat.mul_assoc] at hw
    have := Nat.eq_of_mul_eq_mul_left (Nat.two_pow_pos t) hw
    rw [Nat.mul_assoc] at this
    omega
  · exact q
/-- how many bits a body has left behind its run -/
theorem tq_body_shape {n P : Nat} {r : Int} {Z : Nat} (hn : n = 8 ∨ n = 16 ∨ n = 32) (hP : 1 ≤ P ∧ P < 2 ^ (n - 1)) (h : tq_Body (P * 2 ^ (33 - n)) r Z) :
    ∃ j : Nat, j ≤ n - 3 ∧ 2 ^ (32 - j) ∣ Z ∧ ((r < 0 ∧ (j : Int) = n - 2 + r) ∨ (0 ≤ r ∧ ((r = n - 2 ∧ Z = 0 ∧ j = 0) ∨ (j : Int) = n - 3 - r))) := by
  obtain ⟨hZ, h | h⟩ := h
  · obtain ⟨r0, r1, hb⟩ := h
    obtain ⟨k, rfl⟩ : ∃ k : Nat, r = k := ⟨r.toNat, by omega⟩
    rw [Int.toNat_natCast, Nat.mul_assoc, ← Nat.pow_add] at hb
    have hlow : 35 + k - n = 33 - n + (k + 2) := by omega
    rw [← hlow] at hb
    have e1 : 2 ^ 32 * 2 ^ (k + 2) = 2 ^ (n - 1) * 2 ^ (35 + k - n) := by rw [← Nat.pow_add, ← Nat.pow_add]; congr 1; omega
    have hQ : (2 ^ (n - 1) - P) * 2 ^ (35 + k - n) + Z = 2 ^ 33 := by
      rw [Nat.sub_mul, ← e1]
      have := Nat.mul_le_mul_right (2 ^ (35 + k - n)) (show P ≤ 2 ^ (n - 1) by omega)
      rw [← e1] at this
      omega
    have hQ1 : 1 ≤ 2 ^ (n - 1) - P := by omega
    generalize 2 ^ (n - 1) - P = Q at *
    have h2 := Nat.mul_le_mul_right (2 ^ (35 + k - n)) hQ1
    have hk : 35 + k - n ≤ 33 := by
      rcases Nat.lt_or_ge 33 (35 + k - n) with q | q
      · have := Nat.pow_le_pow_right (n := 2) (by omega) (show 34 ≤ 35 + k - n from q); omega
      · exact q
    rcases Nat.lt_or_ge (35 + k - n) 33 with q | q
    · refine ⟨n - 3 - k, by omega, ?_, .inr ⟨by omega, .inr (by omega)⟩⟩
      have e : 32 - (n - 3 - k) = 35 + k - n := by omega
      rw [e]
      have d1 : 2 ^ (35 + k - n) ∣ 2 ^ 33 := Nat.pow_dvd_pow 2 (by omega)
      rw [← hQ] at d1
      exact (Nat.dvd_add_right (Nat.dvd_mul_left _ _)).1 d1
    · have e : 35 + k - n = 33 := by omega
      rw [e] at hQ
      have : Z = 0 := by
        have : Q = 1 := by
          rcases Nat.lt_or_ge Q 2 with w | w
          · omega
          · have := Nat.mul_le_mul_right (2 ^ 33) w; omega
        omega
      refine ⟨0, by omega, by rw [this]; exact Nat.dvd_zero _, .inr ⟨by omega, .inl ⟨by omega, this, rfl⟩⟩⟩
  · obtain ⟨r0, r1, hb⟩ := h
    obtain ⟨k, hk⟩ : ∃ k : Nat, -r = k := ⟨(-r).toNat, by omega⟩
    rw [hk, Int.toNat_natCast, Nat.mul_assoc, ← Nat.pow_add] at hb
    have hlow : 34 + k - n = 33 - n + (k + 1) := by omega
    rw [← hlow] at hb
    have h2 := Nat.mul_le_mul_right (2 ^ (34 + k - n)) hP.1
    have hk2 : 34 + k - n ≤ 32 := by
      rcases Nat.lt_or_ge 32 (34 + k - n) with q | q
      · have := Nat.pow_le_pow_right (n := 2) (by omega) (show 33 ≤ 34 + k - n from q); omega
      · exact q
    refine ⟨n - 2 - k, by omega, ?_, .inl ⟨by omega, by omega⟩⟩
    have e : 32 - (n - 2 - k) = 34 + k - n := by omega
    rw [e]
    have d1 : 2 ^ (34 + k - n) ∣ 2 ^ 32 := Nat.pow_dvd_pow 2 (by omega)
    have d2 : 2 ^ (34 + k - n) ∣ 2 ^ 32 + Z := by rw [← hb]; exact Nat.dvd_mul_left _ _
    exact (Nat.dvd_add_right d1).1 d2
/-- (1 + f) * 2^(4 r + e), in units of 2^(8 - 4 n) -/
def tq_mgv (n : Nat) (r : Int) (Z : Nat) : Nat := (2 ^ 32 + 4 * Z % 2 ^ 32) * 2 ^ (4 * r + (Z / 2 ^ 30 : Nat) + (4 * (n : Int) - 8)).toNat / 2 ^ 32
theorem tq_op_val {n P : Nat} {r : Int} {Z t c : Nat} (hn : n = 8 ∨ n = 16 ∨ n = 32) (hP : 1 ≤ P ∧ P < 2 ^ (n - 1)) (h : tq_Body (P * 2 ^ (33 - n)) r Z) (hc : 2 ^ 32 + 4 * Z % 2 ^ 32 = 2 ^ t * (2 * c + 1)) (ht : t ≤ 32) :
    2 * c + 1 < 2 ^ 28 ∧ -(4 * (n : Int) - 8) ≤ 4 * r + (Z / 2 ^ 30 : Nat) - 32 + t ∧ 4 * r + (Z / 2 ^ 30 : Nat) - 32 + t ≤ 4 * (n : Int) - 8 ∧ (2 * c + 1) * 2 ^ (4 * r + (Z / 2 ^ 30 : Nat) - 32 + t + (4 * (n : Int) - 8)).toNat = tq_mgv n r Z ∧ tq_mgv n r Z ≤ 2 ^ (8 * n - 16) := by
  obtain ⟨j, j1, j2, j3⟩ := tq_body_shape hn hP h
  have hZ : Z < 2 ^ 32 := h.1
  have hE : Z / 2 ^ 30 < 4 := by omega
  have hmul : 4 * Z % 2 ^ 32 = 4 * (Z % 2 ^ 30) := by omega
  have d32 : 2 ^ (34 - j) ∣ 4 * Z % 2 ^ 32 ∨ j ≤ 2 := by
    rcases Nat.lt_or_ge 2 j with q | q
    · left
      have e : 2 ^ (34 - j) = 4 * 2 ^ (32 - j) := by rw [show 34 - j = 2 + (32 - j) by omega, Nat.pow_add]
      have d1 : 2 ^ (34 - j) ∣ 4 * Z := by rw [e]; exact Nat.mul_dvd_mul_left 4 j2
      exact (Nat.dvd_mod_iff (Nat.pow_dvd_pow 2 (by omega))).2 d1
    · right; exact q
  have ht2 : min 32 (34 - j) ≤ t := by
    rcases d32 with q | q
    · have : 2 ^ min 32 (34 - j) ∣ 2 ^ t * (2 * c + 1) := by
        rw [← hc]
        exact Nat.dvd_add (Nat.pow_dvd_pow 2 (by omega)) (Nat.dvd_trans (Nat.pow_dvd_pow 2 (by omega)) q)
      exact tq_dvd_odd this
    · have : 2 ^ 30 ∣ Z := Nat.dvd_trans (Nat.pow_dvd_pow 2 (by omega)) j2
      have z0 : Z % 2 ^ 30 = 0 := Nat.mod_eq_zero_of_dvd this
      have : 2 ^ 32 ∣ 2 ^ t * (2 * c + 1) := ⟨1, by rw [← hc]; omega⟩
      have := tq_dvd_odd this
      omega
  have hsz : 2 ^ t * (2 * c + 1) < 2 ^ 33 := by rw [← hc]; omega
  have hm28 : 2 * c + 1 < 2 ^ 28 := by
    have h5 : 2 ^ 5 ≤ 2 ^ t := Nat.pow_le_pow_right (by omega) (by omega)
    have := Nat.mul_le_mul_right (2 * c + 1) h5
    omega
  have hlo : -(4 * (n : Int) - 8) ≤ 4 * r + (Z / 2 ^ 30 : Nat) - 32 + t := by
    rcases j3 with q | ⟨q, q2 | q2⟩ <;> omega
  have hlo2 : -(4 * (n : Int) - 8) ≤ 4 * r + (Z / 2 ^ 30 : Nat) := by
    rcases j3 with q | ⟨q, q2 | q2⟩ <;> omega
  have key : (2 * c + 1) * 2 ^ (4 * r + (Z / 2 ^ 30 : Nat) - 32 + t + (4 * (n : Int) - 8)).toNat * 2 ^ 32 = (2 ^ 32 + 4 * Z % 2 ^ 32) * 2 ^ (4 * r + (Z / 2 ^ 30 : Nat) + (4 * (n : Int) - 8)).toNat := by
    rw [hc, Nat.mul_comm (2 ^ t), Nat.mul_assoc, Nat.mul_assoc, ← Nat.pow_add, ← Nat.pow_add]
    congr 2; omega
  have hup : (4 * r + (Z / 2 ^ 30 : Nat) + 1 ≤ 4 * (n : Int) - 8) ∨ (4 * r + (Z / 2 ^ 30 : Nat) = 4 * (n : Int) - 8 ∧ Z = 0) := by
    rcases j3 with q | ⟨q, q2 | q2⟩ <;> omega
  have hmg : (2 * c + 1) * 2 ^ (4 * r + (Z / 2 ^ 30 : Nat) - 32 + t + (4 * (n : Int) - 8)).toNat = tq_mgv n r Z := by
    unfold tq_mgv; rw [← key, Nat.mul_div_cancel _ (by decide)]
  refine ⟨hm28, hlo, ?_, hmg, ?_⟩
  · rcases hup with q | q <;> omega
  · unfold tq_mgv
    rcases hup with q | ⟨q, q0⟩
    · have h1 : 2 ^ ((4 * r + (Z / 2 ^ 30 : Nat) + (4 * (n : Int) - 8)).toNat + 1) ≤ 2 ^ (8 * n - 16) := Nat.pow_le_pow_right (by omega) (by omega)
      rw [Nat.pow_succ] at h1
      generalize 2 ^ (4 * r + (Z / 2 ^ 30 : Nat) + (4 * (n : Int) - 8)).toNat = X at *
      generalize 2 ^ (8 * n - 16) = Y at *
      have := Nat.mul_le_mul_right X (show 2 ^ 32 + 4 * Z % 2 ^ 32 ≤ 2 ^ 33 by omega)
      omega
    · rw [q0] at q ⊢
      have e : (4 * r + ((0 / 2 ^ 30 : Nat) : Int) + (4 * (n : Int) - 8)).toNat = 8 * n - 16 := by omega
      rw [e]; omega

theorem tq_root_loop {x : Int64} {X : Nat} (hx : x.toInt = X) : ∀ b n (v : Int64) (F : Nat), b < n → b ≤ 31 → v.toInt = F → 2 ^ b ∣ F → F + 2 ^ b ≤ 2 ^ 31 → F * F ≤ X → X < (F + 2 ^ b) * (F + 2 ^ b) →
    ∃ r R, f_floorRoot_b6 x n v (nI b + (-1)) = some r ∧ r.toInt = ((R : Nat) : Int) ∧ R < 2 ^ 31 ∧ R * R ≤ X ∧ X < (R + 1) * (R + 1)
  | 0, n, v, F, hn, hb, hv, hd, h1, h2, h3 => by
    obtain ⟨m, rfl⟩ : ∃ m, n = m + 1 := ⟨n - 1, by omega⟩
    unfold f_floorRoot_b6
    rw [if_pos (by decide)]
    exact ⟨v, F, rfl, hv, by omega, h2, h3⟩
  | b + 1, n, v, F, hn, hb, hv, hd, h1, h2, h3 => by
    obtain ⟨m, rfl⟩ : ∃ m, n = m + 1 := ⟨n - 1, by omega⟩
    unfold f_floorRoot_b6
    rw [tq_nI_pred (by omega), if_neg (tq_nI_nn (by omega)), tq_nm_e]
    have pb : 2 ^ (b + 1) = 2 * 2 ^ b := by rw [Nat.pow_succ, Nat.mul_comm]
    have tq_pp := Nat.two_pow_pos b
    have ptr : tq_u64 (v ||| ((1 : Int64) <<< ((nI b).toInt64 &&& 63))) = F + 2 ^ b := by
      have u1 : tq_u64 (1 : Int64) = 1 := rfl
      have hb30 : 2 ^ b ≤ 2 ^ 30 := Nat.pow_le_pow_right (by omega) (by omega)
      obtain ⟨q, rfl⟩ := hd
      rw [tq_u64_or, tq_u64_of_i hv, tq_u64_shl (tq_nI_i (by omega)) (by omega), u1, Nat.one_mul, Nat.mod_eq_of_lt (by omega), tq_or_add (by omega)]
    have htr := tq_i64_of_u ptr (by omega)
    generalize v ||| ((1 : Int64) <<< ((nI b).toInt64 &&& 63)) = tr at *
    have hsq : (tr * tr).toInt = (((F + 2 ^ b) * (F + 2 ^ b) : Nat) : Int) := by
      have hle : (F + 2 ^ b) * (F + 2 ^ b) ≤ 2 ^ 31 * 2 ^ 31 := Nat.mul_le_mul (by omega) (by omega)
      have e : tr.toInt * tr.toInt = (((F + 2 ^ b) * (F + 2 ^ b) : Nat) : Int) := by rw [htr]; push_cast; rfl
      rw [tq_i64_mul (by rw [e]; omega), e]
    have dF : 2 ^ b ∣ F := Nat.dvd_trans (Nat.pow_dvd_pow 2 (by omega)) hd
    by_cases q : 0 < lg_cmp (tr * tr) x
    · rw [if_pos q]; rw [tq_cmp_gt, hsq, hx] at q
      exact tq_root_loop hx b m v F (by omega) (by omega) hv dF (by omega) h2 (by omega)
    · rw [if_neg q]; rw [tq_cmp_gt, hsq, hx] at q
      refine tq_root_loop hx b m tr (F + 2 ^ b) (by omega) (by omega) htr (Nat.dvd_add dF (Nat.dvd_refl _)) (by omega) (by omega) ?_
      rw [pb] at h3
      have e : F + 2 ^ b + 2 ^ b = F + 2 * 2 ^ b := by omega
      rw [e]; exact h3
theorem tq_root_spec {x : Int64} {X : Nat} (hx : x.toInt = X) (hX : X < 2 ^ 62) : ∃ r R, f_floorRoot x = some r ∧ r.toInt = ((R : Nat) : Int) ∧ R < 2 ^ 31 ∧ R * R ≤ X ∧ X < (R + 1) * (R + 1) := by
  have := tq_root_loop hx 31 32 0 0 (by omega) (by omega) rfl (Nat.dvd_zero _) (by omega) (by omega) (by omega)
  exact this
theorem tq_rnd_small {V d : Nat} (h : V < 2 ^ (d - 1)) (hd : 1 ≤ d) : tq_rnd V d false = 0 := by
  unfold tq_rnd
  have : 2 ^ d = 2 * 2 ^ (d - 1) := by rw [show d = d - 1 + 1 by omega, Nat.pow_succ, Nat.mul_comm]; rfl
  rw [Nat.div_eq_of_lt (by omega), Nat.mod_eq_of_lt (by omega), if_neg (by omega)]
theorem tq_nearest_spec {mg : Int64} {ex : Int32} {m d : Nat} (nt ng : Int32) (hm : mg.toInt = m) (hm2 : m < 2 ^ 60) (hd : ex.toInt = -(d : Int)) (hd1 : 1 ≤ d) (hd2 : d < 2 ^ 30) : (f_nearestWhole nt ng mg ex).toInt = tq_rnd m d false := by
  unfold f_nearestWhole
  have c0 : ((0 : Int32)).toInt = 0 := rfl
  have c60 : ((60 : Int32)).toInt = 60 := rfl
  have c1 : ((1 : Int32)).toInt = 1 := rfl
  have e1 : (-ex).toInt = d := by rw [tq_i32_neg (by rw [hd]; omega), hd]; omega
  rw [if_pos (by rw [Int32.lt_iff_toInt_lt, hd, c0]; omega), tq_nm_e]
  generalize -ex = dr at *
  by_cases q : dr ≤ 60
  · rw [if_pos q, tq_nm_e, tq_nm_e, tq_nm_e]; rw [Int32.le_iff_toInt_le, e1, c60] at q
    have hf : (mg >>> (dr.toInt64 &&& 63)).toInt = ((m / 2 ^ d : Nat) : Int) := by
      rw [tq_i64_shr e1 (by omega), hm]; norm_cast
    generalize mg >>> (dr.toInt64 &&& 63) = fl at *
    have hqm := Nat.div_add_mod m (2 ^ d)
    have pd := Nat.two_pow_pos d
    have hml := Nat.mod_lt m pd
    have hfs : (fl <<< (dr.toInt64 &&& 63)).toInt = ((m / 2 ^ d * 2 ^ d : Nat) : Int) := by
      apply tq_i64_of_u
      · rw [tq_u64_shl e1 (by omega), tq_u64_of_i hf]
        apply Nat.mod_eq_of_lt
        rw [Nat.mul_comm]; omega
      · rw [Nat.mul_comm]; omega
    have hr : (mg - (fl <<< (dr.toInt64 &&& 63))).toInt = ((m % 2 ^ d : Nat) : Int) := by
      rw [Nat.mul_comm] at hfs
      rw [tq_i64_sub (by rw [hm, hfs]; omega), hm, hfs]; omega
    generalize mg - (fl <<< (dr.toInt64 &&& 63)) = rs at *
    have ed : (dr - 1).toInt = ((d - 1 : Nat) : Int) := by rw [tq_i32_sub (by rw [e1, c1]; omega), e1, c1]; omega
    have hh : ((1 : Int64) <<< ((dr - 1).toInt64 &&& 63)).toInt = ((2 ^ (d - 1) : Nat) : Int) := by
      have hp : 2 ^ (d - 1) ≤ 2 ^ 59 := Nat.pow_le_pow_right (by omega) (by omega)
      apply tq_i64_of_u
      · have u1 : tq_u64 (1 : Int64) = 1 := rfl
        rw [tq_u64_shl ed (by omega), u1, Nat.one_mul, Nat.mod_eq_of_lt (by omega)]
      · omega
    generalize (1 : Int64) <<< ((dr - 1).toInt64 &&& 63) = hf2 at *
    have hodd : (fl &&& 1 = 1) ↔ m / 2 ^ d % 2 = 1 := by
      have e : tq_u64 (fl &&& 1) = m / 2 ^ d % 2 := by
        rw [tq_u64_and, tq_u64_of_i hf]; have : tq_u64 (1 : Int64) = 1 := rfl
        rw [this, Nat.and_one_is_mod]
      constructor
      · intro q; rw [q] at e; have : tq_u64 (1 : Int64) = 1 := rfl; omega
      · intro q; apply tq_u64_inj; rw [e, q]; rfl
    have hql : m / 2 ^ d ≤ m := Nat.div_le_self _ _
    unfold tq_rnd
    generalize m / 2 ^ d = Q at *
    generalize m % 2 ^ d = W at *
    have up : (f_nearestWhole_b84 fl 1).toInt = ((Q + 1 : Nat) : Int) := by
      unfold f_nearestWhole_b84
      have c1 : ((1 : Int64)).toInt = 1 := rfl
      rw [if_neg (by decide), tq_i64_add (by rw [hf, c1]; omega), hf, c1]; omega
    have dn : (f_nearestWhole_b84 fl 0).toInt = ((Q : Nat) : Int) := by
      unfold f_nearestWhole_b84
      rw [if_pos rfl, hf]
    rcases tq_cmp_cases rs hf2 with ⟨a, b⟩ | ⟨a, b⟩ | ⟨a, b⟩ <;> rw [b]
    · rw [hr, hh] at a
      rw [if_pos (by decide), up, if_pos (by omega)]
    · have a' : W = 2 ^ (d - 1) := by
        have : rs.toInt = hf2.toInt := by rw [a]
        rw [hr, hh] at this; omega
      rw [if_neg (by decide), if_neg (by decide)]
      by_cases w : lg_cmp (fl &&& 1) 1 = 0
      · rw [if_neg (by simpa using w), up]; rw [tq_cmp_eq, hodd] at w
        rw [if_pos (.inr ⟨a', .inr w⟩)]
      · rw [if_pos w, dn]; rw [tq_cmp_eq, hodd] at w
        have nn : ¬ (2 ^ (d - 1) < W ∨ W = 2 ^ (d - 1) ∧ (false = true ∨ Q % 2 = 1)) := by
          rintro (z | ⟨_, z | z⟩)
          · omega
          · cases z
          · exact w z
        rw [if_neg nn]; rfl
    · rw [hr, hh] at a
      rw [if_neg (by decide), if_pos (by decide), dn, if_neg (by omega)]; rfl
  · rw [if_neg q]; rw [Int32.le_iff_toInt_le, e1, c60] at q
    have hp : 2 ^ 60 ≤ 2 ^ (d - 1) := Nat.pow_le_pow_right (by omega) (by omega)
    rw [tq_rnd_small (by omega) hd1]; rfl

theorem tq_pow_sep {a b X : Nat} (h1 : a < b) (hX : 2 ^ 32 ≤ X * 2 ^ a) : 2 ^ 33 ≤ X * 2 ^ b := by
  have e : 2 ^ b = 2 ^ a * (2 * 2 ^ (b - a - 1)) := by rw [← Nat.pow_succ', ← Nat.pow_add, show a + (b - a - 1 + 1) = b by omega]
  rw [e, ← Nat.mul_assoc]
  have p := Nat.two_pow_pos (b - a - 1)
  have := Nat.mul_le_mul hX (show 2 ≤ 2 * 2 ^ (b - a - 1) by omega)
  omega
theorem tq_body_unique {B : Nat} (hB : B < 2 ^ 32) {r r' : Int} {Z Z' : Nat} (h : tq_Body B r Z) (h' : tq_Body B r' Z') : r = r' ∧ Z = Z' := by
  obtain ⟨z1, h⟩ := h
  obtain ⟨z2, h'⟩ := h'
  have neg : ∀ {r : Int} {Z : Nat}, Z < 2 ^ 32 → r < 0 → B * 2 ^ ((-r).toNat + 1) = 2 ^ 32 + Z → B < 2 ^ 31 := by
    intro r Z hz hr h
    have : 2 ^ 2 ≤ 2 ^ ((-r).toNat + 1) := Nat.pow_le_pow_right (by omega) (by omega)
    have := Nat.mul_le_mul_left B this
    omega
  have conv : ∀ {r : Int} {Z : Nat}, B * 2 ^ (r.toNat + 2) + 2 ^ 33 = 2 ^ 32 * 2 ^ (r.toNat + 2) + Z → (2 ^ 32 - B) * 2 ^ (r.toNat + 2) + Z = 2 ^ 33 := by
    intro r Z h
    rw [Nat.sub_mul]
    have := Nat.mul_le_mul_right (2 ^ (r.toNat + 2)) (show B ≤ 2 ^ 32 by omega)
    omega
  have pos : ∀ {r : Int} {Z : Nat}, Z < 2 ^ 32 → (2 ^ 32 - B) * 2 ^ (r.toNat + 2) + Z = 2 ^ 33 → 2 ^ 31 ≤ B := by
    intro r Z hz h
    have : 2 ^ 2 ≤ 2 ^ (r.toNat + 2) := Nat.pow_le_pow_right (by omega) (by omega)
    have := Nat.mul_le_mul_left (2 ^ 32 - B) this
    omega
  rcases h with ⟨a1, a2, a3⟩ | ⟨a1, a2, a3⟩ <;> rcases h' with ⟨b1, b2, b3⟩ | ⟨b1, b2, b3⟩
  · have a3 := conv a3
    have b3 := conv b3
    rcases Nat.lt_trichotomy r.toNat r'.toNat with q | q | q
    · have := tq_pow_sep (X := 2 ^ 32 - B) (show r.toNat + 2 < r'.toNat + 2 by omega) (by omega)
      have s := Nat.mul_le_mul_left (2 ^ 32 - B) (Nat.pow_le_pow_right (n := 2) (by omega) (show r.toNat + 2 + 1 ≤ r'.toNat + 2 by omega))
      rw [Nat.pow_succ (n := 2) (m := r.toNat + 2), ← Nat.mul_assoc] at s
      omega
    · have : r = r' := by omega
      subst this
      exact ⟨rfl, by omega⟩
    · have s := Nat.mul_le_mul_left (2 ^ 32 - B) (Nat.pow_le_pow_right (n := 2) (by omega) (show r'.toNat + 2 + 1 ≤ r.toNat + 2 by omega))
      rw [Nat.pow_succ (n := 2) (m := r'.toNat + 2), ← Nat.mul_assoc] at s
      omega
  · have := neg z2 b1 b3
    have := pos z1 (conv a3)
    omega
  · have := neg z1 a1 a3
    have := pos z2 (conv b3)
    omega
  · rcases Nat.lt_trichotomy (-r).toNat (-r').toNat with q | q | q
    · have := tq_pow_sep (X := B) (show (-r).toNat + 1 < (-r').toNat + 1 by omega) (by omega)
      omega
    · have : r = r' := by omega
      subst this
      exact ⟨rfl, by omega⟩
    · have := tq_pow_sep (X := B) (show (-r').toNat + 1 < (-r).toNat + 1 by omega) (by omega)
      omega
/-- v is what the positive pattern P of n bits stands for, in units of 2^(8 - 4 n) -/
def tq_IsMag (n P v : Nat) : Prop := (P = 0 ∧ v = 0) ∨ (1 ≤ P ∧ P < 2 ^ (n - 1) ∧ ∃ r Z, tq_Body (P * 2 ^ (33 - n)) r Z ∧ v = tq_mgv n r Z)
theorem tq_isMag_unique {n P v v' : Nat} (hn : n = 8 ∨ n = 16 ∨ n = 32) (h : tq_IsMag n P v) (h' : tq_IsMag n P v') : v = v' := by
  rcases h with ⟨a, b⟩ | ⟨a, b, r, Z, c, d⟩ <;> rcases h' with ⟨a', b'⟩ | ⟨a', b', r', Z', c', d'⟩
  · omega
  · omega
  · omega
  · have hB : P * 2 ^ (33 - n) < 2 ^ 32 := by
      have e : 2 ^ 32 = 2 ^ (n - 1) * 2 ^ (33 - n) := by rw [← Nat.pow_add, show n - 1 + (33 - n) = 32 by omega]
      rw [e]; exact Nat.mul_lt_mul_of_pos_right b (Nat.two_pow_pos _)
    obtain ⟨rfl, rfl⟩ := tq_body_unique hB c c'
    omega
noncomputable def tq_mag (n P : Nat) : Nat := Classical.epsilon (fun v => tq_IsMag n P v)
theorem tq_mag_eq {n P v : Nat} (hn : n = 8 ∨ n = 16 ∨ n = 32) (h : tq_IsMag n P v) : tq_mag n P = v := by
  have hx : ∃ v, tq_IsMag n P v := ⟨v, h⟩
  exact tq_isMag_unique hn (Classical.epsilon_spec hx) h
theorem tq_op_mag {n : Nat} {p : Int} {nt ng : Int32} {mg : Int64} {ex : Int32} (hn : n = 8 ∨ n = 16 ∨ n = 32) (hp : -2 ^ (n - 1) < p ∧ p < 2 ^ (n - 1)) (h : tq_Op n p nt ng mg ex) :
    ∃ m : Nat, mg.toInt = m ∧ m < 2 ^ 28 ∧ -(4 * (n : Int) - 8) ≤ ex.toInt ∧ ex.toInt ≤ 4 * (n : Int) - 8 ∧ m * 2 ^ (ex.toInt + (4 * (n : Int) - 8)).toNat = tq_mag n p.natAbs ∧ tq_mag n p.natAbs ≤ 2 ^ (8 * n - 16) ∧ (p ≠ 0 → 1 ≤ m) := by
  obtain ⟨h1, h2, h3, h4⟩ := h
  by_cases q : p = 0
  · obtain ⟨a, b⟩ := h3 (.inl q)
    subst a b q
    have : tq_mag n (0 : Int).natAbs = 0 := tq_mag_eq hn (.inl ⟨rfl, rfl⟩)
    rw [this]
    have c0 : ((0 : Int32)).toInt = 0 := rfl
    refine ⟨0, rfl, by omega, by rw [c0]; omega, by rw [c0]; omega, by simp, Nat.zero_le _, fun w => absurd rfl w⟩
  · obtain ⟨r, Z, t, c, a1, a2, a3, a4, a5⟩ := h4 q (by omega)
    have hP : 1 ≤ p.natAbs ∧ p.natAbs < 2 ^ (n - 1) := by rcases hn with rfl | rfl | rfl <;> omega
    obtain ⟨b1, b2, b3, b4, b5⟩ := tq_op_val hn hP a1 a2 a3
    have em : tq_mag n p.natAbs = tq_mgv n r Z := tq_mag_eq hn (.inr ⟨hP.1, hP.2, r, Z, a1, rfl⟩)
    rw [em, a5]
    exact ⟨2 * c + 1, a4, b1, b2, b3, b4, b5, fun _ => by omega⟩
