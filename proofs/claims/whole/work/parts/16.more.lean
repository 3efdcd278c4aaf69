def tq_rM (n M : Nat) (e : Int) (mo : Bool) : Nat := if M = 0 then 0 else tq_pp n (e + Nat.log2 M) (M * 2 ^ (63 - Nat.log2 M)) mo
def tq_sg (ng : Bool) (v : Nat) : Int := if ng then -(v : Int) else v
theorem tq_log2_bd {M : Nat} (h : M ≠ 0) : 2 ^ Nat.log2 M ≤ M ∧ M < 2 ^ (Nat.log2 M + 1) := ⟨Nat.log2_self_le h, Nat.lt_log2_self⟩
theorem tq_c_rounded {size : Int32} {n : Nat} (h : tq_Sz size n) {neg ex : Int32} {e : Int} (he : ex.toInt = e) (hb : -2 ^ 30 ≤ e ∧ e < 2 ^ 30) {mg : Int64} {M : Nat} (hM : tq_u64 mg = M) {more : Int32} {mo ng : Bool} (hm : more = if mo then 1 else 0) (hn : neg = if ng then 1 else 0) :
    (f_rounded size neg mg ex more).toInt = tq_sg ng (tq_rM n M e mo) := by
  unfold tq_sg tq_rM
  by_cases z : M = 0
  · have : mg = 0 := tq_u64_inj (by rw [hM, z]; rfl)
    rw [this, tq_rounded_zero, if_pos z]; cases ng <;> rfl
  · rw [if_neg z]; exact tq_rounded_spec h he hb hM (tq_log2_bd z) hm hn
theorem tq_ng_b {n : Nat} {p : Int} {nt ng : Int32} {mg : Int64} {ex : Int32} (h : tq_Op n p nt ng mg ex) : ng = if decide (p < 0) then 1 else 0 := by
  rw [h.2.1]; simp
theorem tq_c_fromLong {size : Int32} {n : Nat} (h : tq_Sz size n) (v : Int64) : (f_fromLong size v).toInt = if v.toInt = -2 ^ 63 then -2 ^ (n - 1) else tq_sg (decide (v.toInt < 0)) (tq_rM n v.toInt.natAbs 0 false) := by
  unfold f_fromLong f_fromLong_b31
  have cm : ((-9223372036854775808 : Int64)).toInt = -2 ^ 63 := by decide
  have c0 : ((0 : Int64)).toInt = 0 := rfl
  have hr := tq_i64_rng v
  by_cases q : v.toInt = -2 ^ 63
  · rw [if_pos q, if_neg (by simp only [tq_cmp_eq]; intro w; exact w (Int64.toInt.inj (by rw [q, cm])))]
    exact tq_notOf_spec h
  · rw [if_neg q, if_pos (by simp only [tq_cmp_eq]; intro w; exact q (by rw [w, cm]))]
    have hab := tq_labs_spec (x := v) (by omega)
    by_cases w : 0 ≤ lg_cmp v 0
    · rw [if_pos w]; rw [tq_cmp_ge, c0] at w
      exact tq_c_rounded h (e := 0) rfl (by omega) (tq_u64_of_i hab) (mo := false) rfl (by rw [decide_eq_false (by omega)]; rfl)
    · rw [if_neg w]; rw [tq_cmp_ge, c0] at w
      exact tq_c_rounded h (e := 0) rfl (by omega) (tq_u64_of_i hab) (mo := false) rfl (by rw [decide_eq_true (by omega)]; rfl)
theorem tq_nt_b {n : Nat} {p : Int} {nt ng : Int32} {mg : Int64} {ex : Int32} (h : tq_Op n p nt ng mg ex) : (nt = 0) ↔ p ≠ -2 ^ (n - 1) := by
  have := h.1
  by_cases q : p = -2 ^ (n - 1)
  · rw [if_pos q] at this; rw [this]; constructor
    · intro w; exact absurd w (by decide)
    · intro w; exact absurd q w
  · rw [if_neg q] at this; rw [this]; exact ⟨fun _ => q, fun _ => rfl⟩
/-- the parts that reading gives: p = ± m * 2^e -/
def tq_Parts (n : Nat) (p : Int) (m : Nat) (e : Int) : Prop :=
  m < 2 ^ 28 ∧ -(4 * (n : Int) - 8) ≤ e ∧ e ≤ 4 * (n : Int) - 8 ∧ m * 2 ^ (e + (4 * (n : Int) - 8)).toNat = tq_mag n p.natAbs ∧ (p ≠ 0 → 1 ≤ m) ∧ (p = 0 → m = 0)
theorem tq_op_parts {n : Nat} {p : Int} {nt ng : Int32} {mg : Int64} {ex : Int32} (hn : n = 8 ∨ n = 16 ∨ n = 32) (hp : -2 ^ (n - 1) ≤ p ∧ p < 2 ^ (n - 1)) (hq : p ≠ -2 ^ (n - 1)) (h : tq_Op n p nt ng mg ex) : ∃ m : Nat, mg.toInt = m ∧ tq_Parts n p m ex.toInt := by
  obtain ⟨m, a1, a2, a3, a4, a5, a6, a7⟩ := tq_op_mag hn (by omega) h
  refine ⟨m, a1, a2, a3, a4, a5, a7, fun z => ?_⟩
  have := (h.2.2.1 (.inl z)).1
  rw [this] at a1
  have c0 : ((0 : Int64)).toInt = 0 := rfl
  omega
theorem tq_c_convert {size : Int32} {n : Nat} (h : tq_Sz size n) (nt0 ng0 : Int32) (mg0 : Int64) (ex0 : Int32) (x w : Int32) {n' : Nat} (hw : n' = if w = 0 then 8 else if w = 1 then 16 else 32) :
    ∃ r a b c d, f_convert size nt0 ng0 mg0 ex0 x w = (r, a, b, c, d) ∧
      (tq_pat n x = -2 ^ (n - 1) → r.toInt = -2 ^ (n' - 1)) ∧ (tq_pat n x ≠ -2 ^ (n - 1) → ∃ m e, tq_Parts n (tq_pat n x) m e ∧ r.toInt = tq_sg (decide (tq_pat n x < 0)) (tq_rM n' m e false)) := by
  unfold f_convert
  have hs := tq_sizeOfWidth_spec w
  rw [← hw] at hs
  generalize f_sizeOfWidth w = sz at *
  obtain ⟨a, b, c, d, e1, o1⟩ := tq_read_spec h x nt0 ng0 mg0 ex0
  simp only [tq_nm_e]
  rw [e1]
  by_cases q : tq_pat n x = -2 ^ (n - 1)
  · have : ¬ a = 0 := fun w => (tq_nt_b o1).1 w q
    refine ⟨f_notOf sz, a, b, c, d, if_neg this, fun _ => tq_notOf_spec hs, fun w => absurd q w⟩
  · obtain ⟨m, hm, hp⟩ := tq_op_parts h.2 (tq_pat_rng h.2) q o1
    refine ⟨f_rounded sz b c d 0, a, b, c, d, if_pos ((tq_nt_b o1).2 q), fun w => absurd w q, fun _ => ⟨m, d.toInt, hp, ?_⟩⟩
    have := h.2
    exact tq_c_rounded hs rfl (by have := hp.2.1; have := hp.2.2.1; omega) (tq_u64_of_i hm) (mo := false) rfl (tq_ng_b o1)
theorem tq_c_next {size : Int32} {n : Nat} (h : tq_Sz size n) (p : Int32) : (f_next size p).toInt = tq_pat n (p + 1) := tq_patternOf_spec h _
theorem tq_c_compare {size : Int32} {n : Nat} (h : tq_Sz size n) (x y : Int32) : (f_compare size x y).toInt = if tq_pat n x = tq_pat n y then 0 else if tq_pat n x < tq_pat n y then -1 else 1 := by
  unfold f_compare
  simp only [tq_nm_e]
  have h1 := tq_patternOf_spec h x
  have h2 := tq_patternOf_spec h y
  rw [← h1, ← h2]
  generalize f_patternOf x size = a at *
  generalize f_patternOf y size = b at *
  by_cases q : a = b
  · rw [if_neg (by simpa using q), if_pos (by rw [q])]; rfl
  · have q2 : ¬ a.toInt = b.toInt := fun w => q (Int32.toInt.inj w)
    rw [if_pos q, if_neg q2]
    by_cases w : b ≤ a
    · rw [if_pos w]; rw [Int32.le_iff_toInt_le] at w
      rw [if_neg (by omega)]; rfl
    · rw [if_neg w]; rw [Int32.le_iff_toInt_le] at w
      rw [if_pos (by omega)]; rfl
theorem tq_c_whole {size : Int32} {n : Nat} (h : tq_Sz size n) (nt0 ng0 : Int32) (mg0 : Int64) (ex0 : Int32) (x : Int32) :
    ∃ r a b c d, f_whole size nt0 ng0 mg0 ex0 x = (r, a, b, c, d) ∧
      (tq_pat n x = -2 ^ (n - 1) → r.toInt = -2 ^ (n - 1)) ∧ (tq_pat n x ≠ -2 ^ (n - 1) → ∃ m e, tq_Parts n (tq_pat n x) m e ∧ r.toInt = if 0 ≤ e then tq_pat n x else tq_sg (decide (tq_pat n x < 0)) (tq_rM n (tq_rnd m (-e).toNat false) 0 false)) := by
  unfold f_whole f_whole_b32
  obtain ⟨a, b, c, d, e1, o1⟩ := tq_read_spec h x nt0 ng0 mg0 ex0
  simp only [tq_nm_e]
  rw [e1]
  have c0 : ((0 : Int32)).toInt = 0 := rfl
  by_cases q : tq_pat n x = -2 ^ (n - 1)
  · have : ¬ a = 0 := fun w => (tq_nt_b o1).1 w q
    refine ⟨f_patternOf x size, a, b, c, d, if_pos this, fun _ => by rw [tq_patternOf_spec h, q], fun w => absurd q w⟩
  · obtain ⟨m, hm, hp⟩ := tq_op_parts h.2 (tq_pat_rng h.2) q o1
    have ha := (tq_nt_b o1).2 q
    have hh := h.2
    by_cases w : d < 0
    · have w2 := w
      rw [Int32.lt_iff_toInt_lt, c0] at w2
      refine ⟨f_rounded size b (f_nearestWhole a b c d) 0 0, a, b, c, d, ?_, fun w => absurd w q, fun _ => ⟨m, d.toInt, hp, ?_⟩⟩
      · dsimp only
        rw [if_neg (by simpa using ha), if_pos w]
      · rw [if_neg (by omega)]
        have hnr := tq_nearest_spec (mg := c) (ex := d) (d := (-d.toInt).toNat) a b hm (by have := hp.1; omega) (by omega) (by omega) (by have := hp.2.1; omega)
        exact tq_c_rounded h (e := 0) rfl (by omega) (tq_u64_of_i hnr) (mo := false) rfl (tq_ng_b o1)
    · have w2 := w
      rw [Int32.lt_iff_toInt_lt, c0] at w2
      refine ⟨f_patternOf x size, a, b, c, d, ?_, fun w => absurd w q, fun _ => ⟨m, d.toInt, hp, ?_⟩⟩
      · dsimp only
        rw [if_neg (by simpa using ha), if_neg w]
      · rw [if_pos (by omega), tq_patternOf_spec h]
theorem tq_c_toLong {size : Int32} {n : Nat} (h : tq_Sz size n) (nt0 ng0 : Int32) (mg0 : Int64) (ex0 : Int32) (x : Int32) :
    ∃ r a b c d, f_toLong size nt0 ng0 mg0 ex0 x = (r, a, b, c, d) ∧
      (tq_pat n x = -2 ^ (n - 1) → r.toInt = -2 ^ 63) ∧ (tq_pat n x ≠ -2 ^ (n - 1) → ∃ m e, tq_Parts n (tq_pat n x) m e ∧ r.toInt = if 0 ≤ e then (if m * 2 ^ e.toNat < 2 ^ 63 then tq_sg (decide (tq_pat n x < 0)) (m * 2 ^ e.toNat) else -2 ^ 63) else tq_sg (decide (tq_pat n x < 0)) (tq_rnd m (-e).toNat false)) := by
  unfold f_toLong
  obtain ⟨a, b, c, d, e1, o1⟩ := tq_read_spec h x nt0 ng0 mg0 ex0
  simp only [tq_nm_e]
  rw [e1]
  have c0 : ((0 : Int32)).toInt = 0 := rfl
  have cm : ((-9223372036854775808 : Int64)).toInt = -2 ^ 63 := by decide
  dsimp only
  unfold f_toLong_b37
  by_cases q : tq_pat n x = -2 ^ (n - 1)
  · have : ¬ a = 0 := fun w => (tq_nt_b o1).1 w q
    rw [if_pos this, if_pos this]
    refine ⟨-9223372036854775808, a, b, c, d, ite_self _, fun _ => cm, fun w => absurd q w⟩
  · obtain ⟨m, hm, hp⟩ := tq_op_parts h.2 (tq_pat_rng h.2) q o1
    have ha := (tq_nt_b o1).2 q
    have hh := h.2
    rw [if_neg (show ¬ ¬ a = 0 from fun w => w ha), if_neg (show ¬ ¬ a = 0 from fun w => w ha), if_pos (show (0 : Int32) = 0 from rfl), if_neg (show ¬ (1 : Int32) = 0 by decide), tq_nm_e]
    have hb := tq_ng_b o1
    have sgn : ∀ (y : Int64) (Y : Nat), y.toInt = Y → ∃ r, (if b = 0 then (y, a, b, c, d) else (-y, a, b, c, d)) = (r, a, b, c, d) ∧ r.toInt = tq_sg (decide (tq_pat n x < 0)) Y := by
      intro y Y hy
      unfold tq_sg
      by_cases s : tq_pat n x < 0
      · rw [decide_eq_true s] at hb ⊢
        rw [if_pos rfl] at hb
        refine ⟨-y, if_neg (by rw [hb]; decide), ?_⟩
        rw [tq_i64_neg (by rw [hy]; omega), hy, if_pos rfl]
      · rw [decide_eq_false s] at hb ⊢
        rw [if_neg (by decide)] at hb
        refine ⟨y, if_pos hb, ?_⟩
        rw [hy, if_neg (by decide)]
    -- is it too large?
    have hlz : (d < f_lnlz c) ↔ (d.toInt < 0 ∨ m * 2 ^ d.toInt.toNat < 2 ^ 63) := by
      rw [Int32.lt_iff_toInt_lt]
      by_cases mz : m = 0
      · subst mz
        have : c = 0 := Int64.toInt.inj hm
        rw [this, tq_lnlz_zero]
        have c64 : ((64 : Int32)).toInt = 64 := rfl
        rw [c64, Nat.zero_mul]
        have p0 : tq_pat n x = 0 := by
          by_cases w : tq_pat n x = 0
          · exact w
          · have := hp.2.2.2.2.1 w; omega
        have := (o1.2.2.1 (.inl p0)).2
        rw [this, c0]; simp
      · have nz : c ≠ 0 := fun w => by rw [w] at hm; have : ((0 : Int64)).toInt = 0 := rfl; omega
        obtain ⟨t, t1, t2, t3, t4⟩ := tq_lnlz_spec nz
        rw [tq_u64_of_i hm] at t3 t4
        rw [t2]
        rcases Int.lt_or_le d.toInt 0 with w | w
        · constructor
          · intro _; exact .inl w
          · intro _; omega
        · obtain ⟨k, hk⟩ : ∃ k : Nat, d.toInt = k := ⟨d.toInt.toNat, by omega⟩
          rw [hk, Int.toNat_natCast]
          constructor
          · intro z; right
            have h1 := Nat.mul_lt_mul_of_pos_right t4 (Nat.two_pow_pos k)
            rw [← Nat.pow_add] at h1
            have h2 : 2 ^ (t + 1 + k) ≤ 2 ^ 63 := Nat.pow_le_pow_right (by omega) (by omega)
            omega
          · rintro (z | z)
            · omega
            · have h1 := Nat.mul_le_mul_right (2 ^ k) t3
              rw [← Nat.pow_add] at h1
              have : t + k < 63 := by
                rcases Nat.lt_or_ge (t + k) 63 with y | y
                · exact y
                · have := Nat.pow_le_pow_right (n := 2) (by omega) y; omega
              omega
    by_cases w : d < f_lnlz c
    · rw [if_pos w]; rw [hlz] at w
      rcases Int.lt_or_le d.toInt 0 with y | y
      · have hnr := tq_nearest_spec (mg := c) (ex := d) (d := (-d.toInt).toNat) a b hm (by have := hp.1; omega) (by omega) (by omega) (by have := hp.2.1; omega)
        obtain ⟨r, er, hr⟩ := sgn _ _ hnr
        exact ⟨r, a, b, c, d, er, fun z => absurd z q, fun _ => ⟨m, d.toInt, hp, by rw [if_neg (by omega)]; exact hr⟩⟩
      · have w := w.resolve_left (by omega)
        have hv : (f_nearestWhole a b c d).toInt = ((m * 2 ^ d.toInt.toNat : Nat) : Int) := by
          unfold f_nearestWhole
          rw [if_neg (by rw [Int32.lt_iff_toInt_lt, c0]; omega)]
          have k63 : m = 0 ∨ d.toInt.toNat < 64 := by
            rcases Nat.eq_zero_or_pos m with z | z
            · exact .inl z
            · right
              rcases Nat.lt_or_ge d.toInt.toNat 64 with y | y
              · exact y
              · have := Nat.pow_le_pow_right (n := 2) (by omega) y
                have := Nat.mul_le_mul_right (2 ^ d.toInt.toNat) z
                omega
          rcases k63 with z | z
          · subst z
            have : c = 0 := Int64.toInt.inj hm
            rw [this, Int64.zero_shiftLeft, Nat.zero_mul]; rfl
          · apply tq_i64_of_u
            · rw [tq_u64_shl (k := d.toInt.toNat) (by omega) z, tq_u64_of_i hm, Nat.mod_eq_of_lt (by omega)]
            · exact w
        obtain ⟨r, er, hr⟩ := sgn _ _ hv
        exact ⟨r, a, b, c, d, er, fun z => absurd z q, fun _ => ⟨m, d.toInt, hp, by rw [if_pos y, if_pos w]; exact hr⟩⟩
    · rw [if_neg w]; rw [hlz] at w
      refine ⟨-9223372036854775808, a, b, c, d, rfl, fun z => absurd z q, fun _ => ⟨m, d.toInt, hp, ?_⟩⟩
      rw [if_pos (by omega), if_neg (by omega)]; exact cm

theorem tq_lnlz_log {x : Int64} {m : Nat} (hm : x.toInt = m) (hz : m ≠ 0) : (f_lnlz x).toInt = 63 - (Nat.log2 m : Int) := by
  have nz : x ≠ 0 := fun w => by rw [w] at hm; have : ((0 : Int64)).toInt = 0 := rfl; omega
  obtain ⟨t, t1, t2, t3, t4⟩ := tq_lnlz_spec nz
  rw [tq_u64_of_i hm] at t3 t4
  rw [t2, tq_log2_eq t3 t4]
theorem tq_log2_lt28 {m k : Nat} (h : m < 2 ^ k) (hz : m ≠ 0) : Nat.log2 m < k := (Nat.log2_lt hz).2 h
/-- the dividend, its leading bit at 62 -/
def tq_dvd62 (m : Nat) : Nat := m * 2 ^ (62 - Nat.log2 m)
theorem tq_c_divide {size : Int32} {n : Nat} (h : tq_Sz size n) (nt0 ng0 : Int32) (mg0 : Int64) (ex0 nt1 ng1 : Int32) (mg1 : Int64) (ex1 : Int32) (x y : Int32) :
    ∃ r a b c d a' b' c' d', f_divide size nt0 ng0 mg0 ex0 nt1 ng1 mg1 ex1 x y = some (r, a, b, c, d, a', b', c', d') ∧
      ((tq_pat n x = -2 ^ (n - 1) ∨ tq_pat n y = -2 ^ (n - 1) ∨ tq_pat n y = 0) → r.toInt = -2 ^ (n - 1)) ∧
      (tq_pat n x ≠ -2 ^ (n - 1) → tq_pat n y ≠ -2 ^ (n - 1) → tq_pat n y ≠ 0 → ∃ m e m' e', tq_Parts n (tq_pat n x) m e ∧ tq_Parts n (tq_pat n y) m' e' ∧
        r.toInt = tq_sg (decide ((tq_pat n x < 0) ≠ (tq_pat n y < 0))) (if m = 0 then 0 else tq_rM n (tq_dvd62 m / m') (e - (62 - Nat.log2 m : Nat) - e') (decide (tq_dvd62 m / m' * m' ≠ tq_dvd62 m)))) := by
  unfold f_divide
  obtain ⟨a, b, c, d, e1, o1⟩ := tq_read_spec h x nt0 ng0 mg0 ex0
  obtain ⟨a', b', c', d', e2, o2⟩ := tq_read_spec h y nt1 ng1 mg1 ex1
  simp only [tq_nm_e]
  rw [e1, e2]
  dsimp only
  unfold f_divide_b56
  have c1 : ((1 : Int32)).toInt = 1 := rfl
  have z0 : ((0 : Int64)).toInt = 0 := rfl
  by_cases q : tq_pat n x = -2 ^ (n - 1)
  · have : ¬ a = 0 := fun w => (tq_nt_b o1).1 w q
    rw [if_pos this]
    exact ⟨_, _, _, _, _, _, _, _, _, rfl, fun _ => tq_notOf_spec h, fun w => absurd q w⟩
  · have ha := (tq_nt_b o1).2 q
    rw [if_neg (show ¬ ¬ a = 0 from fun w => w ha)]
    by_cases q' : tq_pat n y = -2 ^ (n - 1)
    · have : ¬ a' = 0 := fun w => (tq_nt_b o2).1 w q'
      rw [if_pos this]
      exact ⟨_, _, _, _, _, _, _, _, _, rfl, fun _ => tq_notOf_spec h, fun _ w => absurd q' w⟩
    · have ha' := (tq_nt_b o2).2 q'
      rw [if_neg (show ¬ ¬ a' = 0 from fun w => w ha')]
      obtain ⟨m, hm, hp⟩ := tq_op_parts h.2 (tq_pat_rng h.2) q o1
      obtain ⟨m', hm', hp'⟩ := tq_op_parts h.2 (tq_pat_rng h.2) q' o2
      have hh := h.2
      by_cases y0 : tq_pat n y = 0
      · have m0 := hp'.2.2.2.2.2 y0
        have : c' = 0 := Int64.toInt.inj (by rw [hm', m0]; rfl)
        rw [if_neg (show ¬ ¬ lg_cmp c' 0 = 0 from fun w => w (tq_cmp_eq.2 this))]
        exact ⟨_, _, _, _, _, _, _, _, _, rfl, fun _ => tq_notOf_spec h, fun _ _ w => absurd y0 w⟩
      · have m1 := hp'.2.2.2.2.1 y0
        have cz : c' ≠ 0 := fun w => by rw [w, z0] at hm'; omega
        rw [if_pos (show ¬ lg_cmp c' 0 = 0 from fun w => cz (tq_cmp_eq.1 w)), if_neg cz]
        -- the dividend
        have hdv : ∃ sh : Nat, sh < 64 ∧ (m ≠ 0 → sh = 62 - Nat.log2 m) ∧ (f_lnlz c - 1).toInt = sh ∧ m * 2 ^ sh < 2 ^ 63 := by
          by_cases mz : m = 0
          · have : c = 0 := Int64.toInt.inj (by rw [hm, mz]; rfl)
            refine ⟨63, by omega, fun w => absurd mz w, by rw [this, tq_lnlz_zero]; rfl, by rw [mz]; omega⟩
          · have hl := tq_lnlz_log hm mz
            have h28 := tq_log2_lt28 hp.1 mz
            refine ⟨62 - Nat.log2 m, by omega, fun _ => rfl, by rw [tq_i32_sub (by rw [hl, c1]; omega), hl, c1]; omega, ?_⟩
            have := Nat.mul_lt_mul_of_pos_right (tq_log2_bd mz).2 (Nat.two_pow_pos (62 - Nat.log2 m))
            rw [← Nat.pow_add, show Nat.log2 m + 1 + (62 - Nat.log2 m) = 63 by omega] at this
            exact this
        obtain ⟨sh, s1, s2, s3, s4⟩ := hdv
        have hsh : (c <<< ((f_lnlz c - 1).toInt64 &&& 63)).toInt = ((m * 2 ^ sh : Nat) : Int) := by
          apply tq_i64_of_u
          · rw [tq_u64_shl s3 s1, tq_u64_of_i hm, Nat.mod_eq_of_lt (by omega)]
          · exact s4
        generalize f_lnlz c - 1 = shv at *
        generalize c <<< (shv.toInt64 &&& 63) = dv at *
        have hq : (dv / c').toInt = ((m * 2 ^ sh / m' : Nat) : Int) := by
          have nm1 : c' ≠ -1 := fun w => by rw [w] at hm'; have : ((-1 : Int64)).toInt = -1 := rfl; omega
          rw [Int64.toInt_div_of_ne_right _ _ nm1, hsh, hm', ← Int.ofNat_tdiv]
        have hmul : (dv / c' * c').toInt = ((m * 2 ^ sh / m' * m' : Nat) : Int) := by
          have hle := Nat.div_mul_le_self (m * 2 ^ sh) m'
          have e : (dv / c').toInt * c'.toInt = ((m * 2 ^ sh / m' * m' : Nat) : Int) := by rw [hq, hm']; norm_cast
          rw [tq_i64_mul (by rw [e]; omega), e]
        have hex : ((d - shv) - d').toInt = d.toInt - sh - d'.toInt := by
          have w1 := hp.2.1; have w2 := hp.2.2.1; have w3 := hp'.2.1; have w4 := hp'.2.2.1
          have : (d - shv).toInt = d.toInt - sh := by rw [tq_i32_sub (by rw [s3]; omega), s3]
          rw [tq_i32_sub (by rw [this]; omega), this]
        have ql : m * 2 ^ sh / m' < 2 ^ 63 := Nat.lt_of_le_of_lt (Nat.div_le_self _ _) s4
        have hw1 := hp.2.1; have hw2 := hp.2.2.1; have hw3 := hp'.2.1; have hw4 := hp'.2.2.1
        have fin : ∀ (mo : Bool), (mo = decide (m * 2 ^ sh / m' * m' ≠ m * 2 ^ sh)) → ∃ r, f_divide_b121 size shv (dv / c') (if mo then 1 else 0) a b c d a' b' c' d' = some (r, a, b, c, d, a', b', c', d') ∧ r.toInt = tq_sg (decide ((tq_pat n x < 0) ≠ (tq_pat n y < 0))) (tq_rM n (m * 2 ^ sh / m') (d.toInt - sh - d'.toInt) mo) := by
          intro mo hmo
          unfold f_divide_b121 f_divide_b168
          rw [tq_nm_e]
          have hb := tq_ng_b o1
          have hb' := tq_ng_b o2
          by_cases s : (tq_pat n x < 0) = (tq_pat n y < 0)
          · have : b = b' := by rw [hb, hb']; simp only [s]
            rw [if_pos this]
            exact ⟨_, rfl, tq_c_rounded h hex (by omega) (tq_u64_of_i hq) rfl (by rw [decide_eq_false (by simpa using s)]; rfl)⟩
          · have : ¬ b = b' := by
              rw [hb, hb']
              by_cases w1 : tq_pat n x < 0 <;> by_cases w2 : tq_pat n y < 0 <;> simp [w1, w2] at s ⊢
            rw [if_neg this]
            exact ⟨_, rfl, tq_c_rounded h hex (by omega) (tq_u64_of_i hq) rfl (by rw [decide_eq_true s]; rfl)⟩
        have fin2 : ∃ r, (if lg_cmp (dv / c' * c') dv = 0 then f_divide_b121 size shv (dv / c') 0 a b c d a' b' c' d' else f_divide_b121 size shv (dv / c') 1 a b c d a' b' c' d') = some (r, a, b, c, d, a', b', c', d') ∧ r.toInt = tq_sg (decide ((tq_pat n x < 0) ≠ (tq_pat n y < 0))) (tq_rM n (m * 2 ^ sh / m') (d.toInt - sh - d'.toInt) (decide (m * 2 ^ sh / m' * m' ≠ m * 2 ^ sh))) := by
          by_cases w : lg_cmp (dv / c' * c') dv = 0
          · rw [if_pos w]; rw [tq_cmp_eq, ← Int64.toInt_inj, hmul, hsh] at w
            have w : m * 2 ^ sh / m' * m' = m * 2 ^ sh := by omega
            have em : decide (m * 2 ^ sh / m' * m' ≠ m * 2 ^ sh) = false := decide_eq_false (fun z => z w)
            have := fin false em.symm
            rw [em]
            exact this
          · rw [if_neg w]; rw [tq_cmp_eq, ← Int64.toInt_inj, hmul, hsh] at w
            have w : m * 2 ^ sh / m' * m' ≠ m * 2 ^ sh := by omega
            have em : decide (m * 2 ^ sh / m' * m' ≠ m * 2 ^ sh) = true := decide_eq_true w
            have := fin true em.symm
            rw [em]
            exact this
        obtain ⟨r, er, hr⟩ := fin2
        refine ⟨r, a, b, c, d, a', b', c', d', er, fun w => absurd w (by rintro (z | z | z); exact q z; exact q' z; exact y0 z), fun _ _ _ => ⟨m, d.toInt, m', d'.toInt, hp, hp', ?_⟩⟩
        rw [hr]
        by_cases mz : m = 0
        · rw [if_pos mz, mz, Nat.zero_mul, Nat.zero_div]
          have : tq_rM n 0 (d.toInt - sh - d'.toInt) (decide (0 * m' ≠ 0)) = 0 := by unfold tq_rM; rw [if_pos rfl]
          rw [this]
        · rw [if_neg mz, s2 mz]; rfl
/-- the radicand's shift: 61 or 62 bits, and an even exponent -/
def tq_rsh (m : Nat) (e : Int) : Nat := if (e - (61 - (Nat.log2 m : Int))) % 2 = 0 then 61 - Nat.log2 m else 60 - Nat.log2 m
theorem tq_i32_and1 {x : Int32} : (x &&& 1 = 0) ↔ x.toInt % 2 = 0 := by
  have e : tq_u32 (x &&& 1) = tq_u32 x % 2 := by
    rw [tq_u32_and]; have : tq_u32 (1 : Int32) = 1 := rfl
    rw [this, Nat.and_one_is_mod]
  have hu := tq_u32_i x
  constructor
  · intro q; rw [q] at e; have : tq_u32 (0 : Int32) = 0 := rfl; omega
  · intro q; apply tq_u32_inj; rw [e]; show _ = 0; omega
theorem tq_c_root {size : Int32} {n : Nat} (h : tq_Sz size n) (nt0 ng0 : Int32) (mg0 : Int64) (ex0 : Int32) (x : Int32) :
    ∃ r a b c d, f_root size nt0 ng0 mg0 ex0 x = some (r, a, b, c, d) ∧
      ((tq_pat n x < 0) → r.toInt = -2 ^ (n - 1)) ∧ (tq_pat n x = 0 → r.toInt = 0) ∧
      (0 < tq_pat n x → ∃ m e R, tq_Parts n (tq_pat n x) m e ∧ R * R ≤ m * 2 ^ tq_rsh m e ∧ m * 2 ^ tq_rsh m e < (R + 1) * (R + 1) ∧
        r.toInt = tq_rM n R ((e - tq_rsh m e) / 2) (decide (R * R ≠ m * 2 ^ tq_rsh m e))) := by
  unfold f_root
  obtain ⟨a, b, c, d, e1, o1⟩ := tq_read_spec h x nt0 ng0 mg0 ex0
  simp only [tq_nm_e]
  rw [e1]
  dsimp only
  unfold f_root_b32
  have c1 : ((1 : Int32)).toInt = 1 := rfl
  have c2 : ((2 : Int32)).toInt = 2 := rfl
  have cm1 : ((-1 : Int32)).toInt = -1 := rfl
  have z0 : ((0 : Int64)).toInt = 0 := rfl
  have hr := tq_pat_rng (x := x) h.2
  have hh := h.2
  by_cases q : tq_pat n x = -2 ^ (n - 1)
  · have : ¬ a = 0 := fun w => (tq_nt_b o1).1 w q
    rw [if_pos this]
    refine ⟨_, _, _, _, _, rfl, fun _ => tq_notOf_spec h, fun w => ?_, fun w => ?_⟩
    · exfalso; rcases hh with rfl | rfl | rfl <;> omega
    · exfalso; rcases hh with rfl | rfl | rfl <;> omega
  · have ha := (tq_nt_b o1).2 q
    rw [if_neg (show ¬ ¬ a = 0 from fun w => w ha)]
    have hb := tq_ng_b o1
    by_cases s : tq_pat n x < 0
    · have : ¬ b = 0 := by rw [hb, decide_eq_true s]; decide
      rw [if_neg this]
      exact ⟨_, _, _, _, _, rfl, fun _ => tq_notOf_spec h, fun w => by omega, fun w => by omega⟩
    · have : b = 0 := by rw [hb, decide_eq_false s]; rfl
      rw [if_pos this]
      obtain ⟨m, hm, hp⟩ := tq_op_parts h.2 (tq_pat_rng h.2) q o1
      by_cases p0 : tq_pat n x = 0
      · have m0 := hp.2.2.2.2.2 p0
        have : c = 0 := Int64.toInt.inj (by rw [hm, m0]; rfl)
        rw [if_neg (show ¬ ¬ lg_cmp c 0 = 0 from fun w => w (tq_cmp_eq.2 this))]
        exact ⟨_, _, _, _, _, rfl, fun w => by omega, fun _ => rfl, fun w => by omega⟩
      · have m1 := hp.2.2.2.2.1 p0
        have cz : c ≠ 0 := fun w => by rw [w, z0] at hm; omega
        rw [if_pos (show ¬ lg_cmp c 0 = 0 from fun w => cz (tq_cmp_eq.1 w))]
        have hl := tq_lnlz_log hm (by omega)
        have h28 := tq_log2_lt28 hp.1 (by omega)
        have es : (f_lnlz c - 2).toInt = ((61 - Nat.log2 m : Nat) : Int) := by rw [tq_i32_sub (by rw [hl, c2]; omega), hl, c2]; omega
        generalize f_lnlz c - 2 = shv at *
        have w1 := hp.2.1; have w2 := hp.2.2.1
        have ed : (d - shv).toInt = d.toInt - (61 - Nat.log2 m : Nat) := by rw [tq_i32_sub (by rw [es]; omega), es]
        have main : ∀ (sv' : Int32) (S : Nat), sv'.toInt = S → S = tq_rsh m d.toInt → S ≤ 61 - Nat.log2 m →
            ∃ r a' b' c' d', f_root_b84 size sv' a b c d = some (r, a', b', c', d') ∧ ((tq_pat n x < 0) → r.toInt = -2 ^ (n - 1)) ∧ (tq_pat n x = 0 → r.toInt = 0) ∧
            (0 < tq_pat n x → ∃ m e R, tq_Parts n (tq_pat n x) m e ∧ R * R ≤ m * 2 ^ tq_rsh m e ∧ m * 2 ^ tq_rsh m e < (R + 1) * (R + 1) ∧ r.toInt = tq_rM n R ((e - tq_rsh m e) / 2) (decide (R * R ≠ m * 2 ^ tq_rsh m e))) := by
          intro sv' S hS hSr hS2
          have hlt : m * 2 ^ S < 2 ^ 62 := by
            have h1 := Nat.mul_lt_mul_of_pos_right (tq_log2_bd (show m ≠ 0 by omega)).2 (Nat.two_pow_pos S)
            rw [← Nat.pow_add] at h1
            have : 2 ^ (Nat.log2 m + 1 + S) ≤ 2 ^ 62 := Nat.pow_le_pow_right (by omega) (by omega)
            omega
          unfold f_root_b84
          rw [tq_nm_e]
          have hrad : (c <<< (sv'.toInt64 &&& 63)).toInt = ((m * 2 ^ S : Nat) : Int) := by
            apply tq_i64_of_u
            · rw [tq_u64_shl hS (by omega), tq_u64_of_i hm, Nat.mod_eq_of_lt (by omega)]
            · omega
          generalize c <<< (sv'.toInt64 &&& 63) = rad at *
          obtain ⟨fl, R, f1, f2, f3, f4, f5⟩ := tq_root_spec hrad hlt
          rw [tq_bd_e f1]
          have hsq : (fl * fl).toInt = ((R * R : Nat) : Int) := by
            have hle : R * R < 2 ^ 62 := by omega
            have e : fl.toInt * fl.toInt = ((R * R : Nat) : Int) := by rw [f2]; norm_cast
            rw [tq_i64_mul (by rw [e]; omega), e]
          have hds : (d - sv').toInt = d.toInt - S := by rw [tq_i32_sub (by rw [hS]; omega), hS]
          have hex : ((d - sv') >>> ((1 : Int32) &&& 31)).toInt = (d.toInt - S) / 2 := by rw [tq_i32_shr (k := 1) rfl (by omega), hds]; rfl
          have tail : ∀ mo : Bool, mo = decide (R * R ≠ m * 2 ^ S) → ∃ r a' b' c' d', f_root_b115 size sv' fl (if mo then 1 else 0) a b c d = some (r, a', b', c', d') ∧ ((tq_pat n x < 0) → r.toInt = -2 ^ (n - 1)) ∧ (tq_pat n x = 0 → r.toInt = 0) ∧
              (0 < tq_pat n x → ∃ m e R, tq_Parts n (tq_pat n x) m e ∧ R * R ≤ m * 2 ^ tq_rsh m e ∧ m * 2 ^ tq_rsh m e < (R + 1) * (R + 1) ∧ r.toInt = tq_rM n R ((e - tq_rsh m e) / 2) (decide (R * R ≠ m * 2 ^ tq_rsh m e))) := by
            intro mo hmo
            unfold f_root_b115
            refine ⟨_, _, _, _, _, rfl, fun w => absurd w s, fun w => absurd w p0, fun _ => ⟨m, d.toInt, R, hp, by rw [← hSr]; exact f4, by rw [← hSr]; exact f5, ?_⟩⟩
            rw [← hSr, ← hmo, tq_c_rounded h (neg := 0) hex (by omega) (tq_u64_of_i f2) rfl (ng := false) rfl]
            rfl
          by_cases w : lg_cmp (fl * fl) rad = 0
          · rw [if_pos w]; rw [tq_cmp_eq, ← Int64.toInt_inj, hsq, hrad] at w
            exact tail false (by rw [decide_eq_false (by omega)])
          · rw [if_neg w]; rw [tq_cmp_eq, ← Int64.toInt_inj, hsq, hrad] at w
            exact tail true (by rw [decide_eq_true (by omega)])
        by_cases par : (d - shv) &&& 1 = 0
        · rw [if_pos par]; rw [tq_i32_and1, ed] at par
          exact main shv _ es (by unfold tq_rsh; rw [if_pos (by omega)]) (Nat.le_refl _)
        · rw [if_neg par]; rw [tq_i32_and1, ed] at par
          refine main (shv + (-1)) (60 - Nat.log2 m) ?_ (by unfold tq_rsh; rw [if_neg (by omega)]) (by omega)
          rw [tq_i32_add (by rw [es, cm1]; omega), es, cm1]; omega
