theorem tq_same_add {size : Int32} {n : Nat} (h : tq_Sz size n) {N : Nat} (hN : 4 * N = n) {p0 : Int32} (hp : p0.toInt = 8 * n - 16) (nt0 ng0 : Int32) (mg0 : Int64) (ex0 nt1 ng1 : Int32) (mg1 : Int64) (ex1 : Int32) (f2 f3 : Nat → Int64) {lf : Nat → Int32} (hl : tq_WL 200 lf) (sq x y : Int32) :
    ∃ r a b c d a' b' c' d' g2 g3 s l, f_add size nt0 ng0 mg0 ex0 nt1 ng1 mg1 ex1 p0 N f2 f3 x y = some (r, a, b, c, d, a', b', c', d', g2, g3) ∧ m_add size sq lf x y = some (r, s, l) ∧ tq_WL 200 l := by
  obtain ⟨r, a, b, c, d, a', b', c', d', g2, g3, e, hr⟩ := tq_c_add h hN hp nt0 ng0 mg0 ex0 nt1 ng1 mg1 ex1 f2 f3 x y
  obtain ⟨r2, s, l, e2, w, hr2⟩ := tq_madd_spec h hl sq x y
  have : r2 = r := Int32.toInt.inj (by rw [hr, hr2])
  subst this
  exact ⟨_, a, b, c, d, a', b', c', d', g2, g3, s, l, e, e2, w⟩
theorem tq_same_subtract {size : Int32} {n : Nat} (h : tq_Sz size n) {N : Nat} (hN : 4 * N = n) {p0 : Int32} (hp : p0.toInt = 8 * n - 16) (nt0 ng0 : Int32) (mg0 : Int64) (ex0 nt1 ng1 : Int32) (mg1 : Int64) (ex1 : Int32) (f2 f3 : Nat → Int64) {lf : Nat → Int32} (hl : tq_WL 200 lf) (sq x y : Int32) :
    ∃ r a b c d a' b' c' d' g2 g3 s l, f_subtract size nt0 ng0 mg0 ex0 nt1 ng1 mg1 ex1 p0 N f2 f3 x y = some (r, a, b, c, d, a', b', c', d', g2, g3) ∧ m_subtract size sq lf x y = some (r, s, l) ∧ tq_WL 200 l := by
  obtain ⟨r, a, b, c, d, a', b', c', d', g2, g3, e, hr⟩ := tq_c_subtract h hN hp nt0 ng0 mg0 ex0 nt1 ng1 mg1 ex1 f2 f3 x y
  obtain ⟨r2, s, l, e2, w, hr2⟩ := tq_msubtract_spec h hl sq x y
  have : r2 = r := Int32.toInt.inj (by rw [hr, hr2])
  subst this
  exact ⟨_, a, b, c, d, a', b', c', d', g2, g3, s, l, e, e2, w⟩
theorem tq_same_multiply {size : Int32} {n : Nat} (h : tq_Sz size n) {N : Nat} (hN : 4 * N = n) {p0 : Int32} (hp : p0.toInt = 8 * n - 16) (nt0 ng0 : Int32) (mg0 : Int64) (ex0 nt1 ng1 : Int32) (mg1 : Int64) (ex1 : Int32) (f2 f3 : Nat → Int64) {lf : Nat → Int32} (hl : tq_WL 200 lf) (sq x y : Int32) :
    ∃ r a b c d a' b' c' d' g2 g3 s l, f_multiply size nt0 ng0 mg0 ex0 nt1 ng1 mg1 ex1 p0 N f2 f3 x y = some (r, a, b, c, d, a', b', c', d', g2, g3) ∧ m_multiply size sq lf x y = some (r, s, l) ∧ tq_WL 200 l := by
  obtain ⟨r, a, b, c, d, a', b', c', d', g2, g3, e, hr⟩ := tq_c_multiply h hN hp nt0 ng0 mg0 ex0 nt1 ng1 mg1 ex1 f2 f3 x y
  obtain ⟨r2, s, l, e2, w, hr2⟩ := tq_mmultiply_spec h hl sq x y
  have : r2 = r := Int32.toInt.inj (by rw [hr, hr2])
  subst this
  exact ⟨_, a, b, c, d, a', b', c', d', g2, g3, s, l, e, e2, w⟩
theorem tq_same_fused {size : Int32} {n : Nat} (h : tq_Sz size n) {N : Nat} (hN : 4 * N = n) {p0 : Int32} (hp : p0.toInt = 8 * n - 16) (nt0 ng0 : Int32) (mg0 : Int64) (ex0 nt1 ng1 : Int32) (mg1 : Int64) (ex1 : Int32) (f2 f3 : Nat → Int64) {lf : Nat → Int32} (hl : tq_WL 200 lf) (sq x y z : Int32) :
    ∃ r a b c d a' b' c' d' g2 g3 s l, f_fused size nt0 ng0 mg0 ex0 nt1 ng1 mg1 ex1 p0 N f2 f3 x y z = some (r, a, b, c, d, a', b', c', d', g2, g3) ∧ m_fused size sq lf x y z = some (r, s, l) ∧ tq_WL 200 l := by
  obtain ⟨r, a, b, c, d, a', b', c', d', g2, g3, e, hr⟩ := tq_c_fused h hN hp nt0 ng0 mg0 ex0 nt1 ng1 mg1 ex1 f2 f3 x y z
  obtain ⟨r2, s, l, e2, w, hr2⟩ := tq_mfused_spec h hl sq x y z
  have : r2 = r := Int32.toInt.inj (by rw [hr, hr2])
  subst this
  exact ⟨_, a, b, c, d, a', b', c', d', g2, g3, s, l, e, e2, w⟩
theorem tq_same_divide {size : Int32} {n : Nat} (h : tq_Sz size n) (nt0 ng0 : Int32) (mg0 : Int64) (ex0 nt1 ng1 : Int32) (mg1 : Int64) (ex1 : Int32) {lf : Nat → Int32} (hl : tq_WL 200 lf) (sq x y : Int32) :
    ∃ r a b c d a' b' c' d' s l, f_divide size nt0 ng0 mg0 ex0 nt1 ng1 mg1 ex1 x y = some (r, a, b, c, d, a', b', c', d') ∧ m_divide size sq lf x y = some (r, s, l) ∧ tq_WL 200 l := by
  obtain ⟨r, a, b, c, d, a', b', c', d', e, h1, h2⟩ := tq_c_divide h nt0 ng0 mg0 ex0 nt1 ng1 mg1 ex1 x y
  obtain ⟨r2, s, l, e2, w, k1, k2⟩ := tq_mdivide_spec h hl sq x y
  have : r2 = r := by
    apply Int32.toInt.inj
    by_cases u : tq_pat n x = -2 ^ (n - 1) ∨ tq_pat n y = -2 ^ (n - 1) ∨ tq_pat n y = 0
    · rw [h1 u, k1 u]
    · have u1 : tq_pat n x ≠ -2 ^ (n - 1) := fun z => u (.inl z)
      have u2 : tq_pat n y ≠ -2 ^ (n - 1) := fun z => u (.inr (.inl z))
      have u3 : tq_pat n y ≠ 0 := fun z => u (.inr (.inr z))
      obtain ⟨m, e, m', e', q1, q2, q3⟩ := h2 u1 u2 u3
      rw [q3, k2 u1 u2 u3 m e m' e' q1 q2]
  subst this
  exact ⟨_, a, b, c, d, a', b', c', d', s, l, e, e2, w⟩
theorem tq_same_root {size : Int32} {n : Nat} (h : tq_Sz size n) (nt0 ng0 : Int32) (mg0 : Int64) (ex0 : Int32) {lf : Nat → Int32} (hl : tq_WL 200 lf) (sq x : Int32) :
    ∃ r a b c d s l, f_root size nt0 ng0 mg0 ex0 x = some (r, a, b, c, d) ∧ m_root size sq lf x = some (r, s, l) ∧ tq_WL 200 l := by
  obtain ⟨r, a, b, c, d, e, h1, h2, h3⟩ := tq_c_root h nt0 ng0 mg0 ex0 x
  obtain ⟨r2, s, l, e2, w, k1, k2, k3⟩ := tq_mroot_spec h hl sq x
  have : r2 = r := by
    apply Int32.toInt.inj
    rcases Int.lt_trichotomy (tq_pat n x) 0 with z | z | z
    · rw [h1 z, k1 z]
    · rw [h2 z, k2 z]
    · obtain ⟨m, e, R, q1, q2, q3, q4⟩ := h3 z
      rw [q4, k3 z m e R q1 q2 q3]
  subst this
  exact ⟨_, a, b, c, d, s, l, e, e2, w⟩
theorem tq_same_whole {size : Int32} {n : Nat} (h : tq_Sz size n) (nt0 ng0 : Int32) (mg0 : Int64) (ex0 : Int32) {lf : Nat → Int32} (hl : tq_WL 200 lf) (sq x : Int32) :
    ∃ r a b c d s l, f_whole size nt0 ng0 mg0 ex0 x = (r, a, b, c, d) ∧ m_whole size sq lf x = some (r, s, l) ∧ tq_WL 200 l := by
  obtain ⟨r, a, b, c, d, e, h1, h2⟩ := tq_c_whole h nt0 ng0 mg0 ex0 x
  obtain ⟨r2, s, l, e2, w, k1, k2⟩ := tq_mwhole_spec h hl sq x
  have : r2 = r := by
    apply Int32.toInt.inj
    by_cases u : tq_pat n x = -2 ^ (n - 1)
    · rw [h1 u, k1 u]
    · obtain ⟨m, e, q1, q2⟩ := h2 u
      rw [q2, k2 u m e q1]
  subst this
  exact ⟨_, a, b, c, d, s, l, e, e2, w⟩
theorem tq_same_toLong {size : Int32} {n : Nat} (h : tq_Sz size n) (nt0 ng0 : Int32) (mg0 : Int64) (ex0 : Int32) {lf : Nat → Int32} (hl : tq_WL 200 lf) (x : Int32) :
    ∃ r a b c d l, f_toLong size nt0 ng0 mg0 ex0 x = (r, a, b, c, d) ∧ m_toLong size lf x = some (r, l) ∧ tq_WL 200 l := by
  obtain ⟨r, a, b, c, d, e, h1, h2⟩ := tq_c_toLong h nt0 ng0 mg0 ex0 x
  obtain ⟨r2, l, e2, w, k1, k2⟩ := tq_mtoLong_spec h hl x
  have : r2 = r := by
    apply Int64.toInt.inj
    by_cases u : tq_pat n x = -2 ^ (n - 1)
    · rw [h1 u, k1 u]
    · obtain ⟨m, e, q1, q2⟩ := h2 u
      rw [q2, k2 u m e q1]
  subst this
  exact ⟨_, a, b, c, d, l, e, e2, w⟩
theorem tq_same_convert {size : Int32} {n : Nat} (h : tq_Sz size n) (nt0 ng0 : Int32) (mg0 : Int64) (ex0 : Int32) {lf : Nat → Int32} (hl : tq_WL 200 lf) (sq x wd : Int32) :
    ∃ r a b c d s l, f_convert size nt0 ng0 mg0 ex0 x wd = (r, a, b, c, d) ∧ m_convert size sq lf x wd = some (r, s, l) ∧ tq_WL 200 l := by
  obtain ⟨r, a, b, c, d, e, h1, h2⟩ := tq_c_convert h nt0 ng0 mg0 ex0 x wd rfl
  obtain ⟨r2, s, l, e2, w, k1, k2⟩ := tq_mconvert_spec h hl sq x wd rfl
  have : r2 = r := by
    apply Int32.toInt.inj
    by_cases u : tq_pat n x = -2 ^ (n - 1)
    · rw [h1 u, k1 u]
    · obtain ⟨m, e, q1, q2⟩ := h2 u
      rw [q2, k2 u m e q1]
  subst this
  exact ⟨_, a, b, c, d, s, l, e, e2, w⟩
theorem tq_same_fromLong {size : Int32} {n : Nat} (h : tq_Sz size n) {lf : Nat → Int32} (hl : tq_WL 200 lf) (sq : Int32) (v : Int64) :
    ∃ s l, m_fromLong size sq lf v = some (f_fromLong size v, s, l) ∧ tq_WL 200 l := by
  obtain ⟨r2, s, l, e2, w, k1⟩ := tq_mfromLong_spec h hl sq v
  have : r2 = f_fromLong size v := Int32.toInt.inj (by rw [k1, tq_c_fromLong h])
  subst this
  exact ⟨s, l, e2, w⟩
theorem tq_same_clear {size : Int32} {n : Nat} (h : tq_Sz size n) {N : Nat} (hN : 4 * N = n) (p0 : Int32) {f0 f1 : Nat → Int64} {sf : Nat → Int32} (hs : tq_WL 64 sf) (h0 : tq_sv f0 N = tq_rv sf (32 * 0) n) (h1 : tq_sv f1 N = tq_rv sf (32 * 1) n) (q : Int32) :
    ∃ r g0 g1 g, f_clear p0 N f0 f1 q = some (r, g0, g1) ∧ m_clear size sf q = some (r, g) ∧ tq_WL 64 g ∧ tq_sv g0 N = tq_rv g (32 * 0) n ∧ tq_sv g1 N = tq_rv g (32 * 1) n := by
  obtain ⟨g0, g1, e, q0, q1⟩ := tq_c_clear h.2 hN p0 f0 f1 q
  obtain ⟨g, e2, w, k0, k1⟩ := tq_mclear_spec h hs q
  rw [h0] at q0
  rw [h1] at q1
  exact ⟨_, g0, g1, g, e, e2, w, q0.trans k0.symm, q1.trans k1.symm⟩
theorem tq_same_merge {size : Int32} {n : Nat} (h : tq_Sz size n) {N : Nat} (hN : 4 * N = n) (p0 : Int32) {f0 f1 : Nat → Int64} {lf sf : Nat → Int32} (hl : tq_WL 200 lf) (hs : tq_WL 64 sf) (h0 : tq_sv f0 N = tq_rv sf (32 * 0) n) (h1 : tq_sv f1 N = tq_rv sf (32 * 1) n) (q : Int32) :
    ∃ r g0 g1 l g, f_merge p0 N f0 f1 q = some (r, g0, g1) ∧ m_merge size lf sf q = some (r, l, g) ∧ tq_WL 200 l ∧ tq_WL 64 g ∧ tq_sv g0 N = tq_rv g (32 * 0) n ∧ tq_sv g1 N = tq_rv g (32 * 1) n := by
  obtain ⟨g0, g1, e, q0, q1⟩ := tq_c_merge h.2 hN p0 f0 f1 q
  obtain ⟨l, g, e2, w, w2, k0, k1⟩ := tq_mmerge_q h hl hs q
  rw [h0, h1] at q0
  rw [h0, h1] at q1
  exact ⟨_, g0, g1, l, g, e, e2, w, w2, q0.trans k0.symm, q1.trans k1.symm⟩
theorem tq_same_negate {size : Int32} {n : Nat} (h : tq_Sz size n) {N : Nat} (hN : 4 * N = n) (p0 : Int32) {f0 f1 : Nat → Int64} {lf sf : Nat → Int32} (hl : tq_WL 200 lf) (hs : tq_WL 64 sf) (h0 : tq_sv f0 N = tq_rv sf (32 * 0) n) (h1 : tq_sv f1 N = tq_rv sf (32 * 1) n) (q : Int32) :
    ∃ r g0 g1 l g, f_negate p0 N f0 f1 q = some (r, g0, g1) ∧ m_negate size lf sf q = some (r, l, g) ∧ tq_WL 200 l ∧ tq_WL 64 g ∧ tq_sv g0 N = tq_rv g (32 * 0) n ∧ tq_sv g1 N = tq_rv g (32 * 1) n := by
  obtain ⟨g0, g1, e, q0, q1⟩ := tq_c_negate h.2 hN p0 f0 f1 q
  obtain ⟨l, g, e2, w, w2, k0, k1⟩ := tq_mnegate_q h hl hs q
  rw [h0] at q0
  rw [h1] at q1
  exact ⟨_, g0, g1, l, g, e, e2, w, w2, q0.trans k0.symm, q1.trans k1.symm⟩
theorem tq_same_collect {size : Int32} {n : Nat} (h : tq_Sz size n) {N : Nat} (hN : 4 * N = n) {p0 : Int32} (hp : p0.toInt = 8 * n - 16) (nt0 ng0 : Int32) (mg0 : Int64) (ex0 nt1 ng1 : Int32) (mg1 : Int64) (ex1 : Int32) (f3 : Nat → Int64) {f0 f1 : Nat → Int64} {lf sf : Nat → Int32} (hl : tq_WL 200 lf) (hs : tq_WL 64 sf) (h0 : tq_sv f0 N = tq_rv sf (32 * 0) n) (h1 : tq_sv f1 N = tq_rv sf (32 * 1) n) (q x y : Int32) {mi : Int32} (hmi : mi = 0 ∨ mi = 1) :
    ∃ r g0 g1 g3 a b c d a' b' c' d' l g, f_collect size nt0 ng0 mg0 ex0 nt1 ng1 mg1 ex1 p0 N f0 f1 q f3 x y mi = some (r, g0, g1, g3, a, b, c, d, a', b', c', d') ∧ m_collect size lf sf q x y mi = some (r, l, g) ∧ tq_WL 200 l ∧ tq_WL 64 g ∧ tq_sv g0 N = tq_rv g (32 * 0) n ∧ tq_sv g1 N = tq_rv g (32 * 1) n := by
  obtain ⟨g0, g1, g3, a, b, c, d, a', b', c', d', e, q0, q1⟩ := tq_c_collect h hN hp nt0 ng0 mg0 ex0 nt1 ng1 mg1 ex1 f0 f1 f3 q x y mi
  obtain ⟨l, g, e2, w, w2, k0, k1⟩ := tq_mcollect_q h hl hs q x y hmi rfl
  rw [h0] at q0
  rw [h1] at q1
  exact ⟨_, g0, g1, g3, a, b, c, d, a', b', c', d', l, g, e, e2, w, w2, q0.trans k0.symm, q1.trans k1.symm⟩
theorem tq_same_total {size : Int32} {n : Nat} (h : tq_Sz size n) {N : Nat} (hN : 4 * N = n) {p0 : Int32} (hp : p0.toInt = 8 * n - 16) (f3 : Nat → Int64) {f0 f1 : Nat → Int64} {lf sf : Nat → Int32} (hl : tq_WL 200 lf) (hs : tq_WL 64 sf) (h0 : tq_sv f0 N = tq_rv sf (32 * 0) n) (h1 : tq_sv f1 N = tq_rv sf (32 * 1) n) (sq q : Int32) :
    ∃ r g3 s l g, f_total size p0 N f0 f1 q f3 = some (r, g3) ∧ m_total size sq lf sf q = some (r, s, l, g) ∧ tq_WL 200 l ∧ tq_WL 64 g ∧ tq_sv f0 N = tq_rv g (32 * 0) n ∧ tq_sv f1 N = tq_rv g (32 * 1) n := by
  obtain ⟨r, g3, e, hr⟩ := tq_c_total h hN hp f0 f1 f3 q
  obtain ⟨r2, s, l, g, e2, w, w2, k0, k1, hr2⟩ := tq_mtotal_q h hl hs sq q
  have : r2 = r := Int32.toInt.inj (by rw [hr, hr2, h0, h1])
  subst this
  exact ⟨_, g3, s, l, g, e, e2, w, w2, h0.trans k0.symm, h1.trans k1.symm⟩
