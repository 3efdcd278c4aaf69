theorem tq_dm_uni {a x X r : Nat} (h : a = x + X * r) (hx : x < X) : a / X = r := by
  have hX : 0 < X := by omega
  rw [h, Nat.add_mul_div_left _ _ hX, Nat.div_eq_of_lt hx, Nat.zero_add]
theorem tq_word_sv {f : Nat → Int64} {N k : Nat} (hk : k < N) : tq_u64 (f k) = tq_sv f N / 2 ^ (64 * k) % 2 ^ 64 := by
  obtain ⟨r, h1, h2⟩ := tq_sv_split f k (N - k)
  rw [show k + (N - k) = N by omega] at h1
  rw [tq_dm_uni h1 (tq_sv_lt f k), h2 (by omega)]
theorem tq_word_rv {f : Nat → Int32} (hw : tq_WL 64 f) {q n k : Nat} (hq : q ≤ 1) (hn : n ≤ 32) (hk : 4 * k + 4 ≤ n) : tq_rv f (32 * q + 4 * k) 4 = tq_rv f (32 * q) n / 2 ^ (64 * k) % 2 ^ 64 := by
  have s := tq_rv_split (f := f) (b := 32 * q) (i := 4 * k) (n - 4 * k)
  rw [show 4 * k + (n - 4 * k) = n by omega, show 16 * (4 * k) = 64 * k by omega] at s
  have hl : tq_rv f (32 * q) (4 * k) < 2 ^ (16 * (4 * k)) := tq_rv_lt (fun j hj => tq_lim_lt hw (by omega))
  rw [show 16 * (4 * k) = 64 * k by omega] at hl
  rw [tq_dm_uni s hl]
  have t := tq_rv_split (f := f) (b := 32 * q + 4 * k) (i := 4) (n - 4 * k - 4)
  rw [show 4 + (n - 4 * k - 4) = n - 4 * k by omega] at t
  have h4 : tq_rv f (32 * q + 4 * k) 4 < 2 ^ (16 * 4) := tq_rv_lt (fun j hj => tq_lim_lt hw (by omega))
  rw [t, show 16 * 4 = 64 from rfl, Nat.add_mul_mod_self_left, Nat.mod_eq_of_lt h4]
theorem tq_nz_div {nz : Int32} {n N : Nat} (h : tq_Sz nz n) (hN : 4 * N = n) : nz / 4 = nI N := by
  obtain ⟨h1, h2⟩ := h
  rw [tq_of_i32 h1]
  clear h1
  rcases h2 with rfl | rfl | rfl
  · rw [show N = 2 by omega]; decide
  · rw [show N = 4 by omega]; decide
  · rw [show N = 8 by omega]; decide
theorem tq_mword1 {nz : Int32} {n N : Nat} (h : tq_Sz nz n) (hN : 4 * N = n) {sf : Nat → Int32} (hs : tq_WL 64 sf) {q k : Nat} (hq : q ≤ 1) (hk : k < N) : ∃ r, m_word_b28 sf (nI q) (nI k) 41 0 3 = some r ∧ tq_u64 r = tq_rv sf (32 * q) n / 2 ^ (64 * k) % 2 ^ 64 := by
  have hn := h.2
  obtain ⟨r, e, hr⟩ := tq_word_loop hq (k := k) (by omega) hs 4 41 0 (by omega) (by omega) rfl
  exact ⟨r, e, by rw [hr, tq_word_rv hs hq (n := n) (by omega) (by omega)]⟩
theorem tq_same_word {nz : Int32} {n N : Nat} (h : tq_Sz nz n) (hN : 4 * N = n) (p0 : Int32) {f0 f1 : Nat → Int64} {sf : Nat → Int32} (hs : tq_WL 64 sf) (h0 : tq_sv f0 N = tq_rv sf (32 * 0) n) (h1 : tq_sv f1 N = tq_rv sf (32 * 1) n) (q k : Int32) : ∃ v, f_word p0 N f0 f1 q k = some v ∧ m_word nz sf q k = some v := by
  have hn := h.2
  rw [tq_c_word hn hN]
  refine ⟨_, rfl, ?_⟩
  unfold m_word
  have c0 : ((0 : Int32)).toInt = 0 := rfl
  have hNI := tq_nI_i (n := N) (by omega)
  rw [tq_nz_div h hN]
  by_cases ab : q = 0 ∨ q = 1
  · rw [tq_msum1 ab, if_neg (by decide)]
    by_cases k0 : k < 0
    · have kk := k0
      rw [Int32.lt_iff_toInt_lt, c0] at kk
      rw [if_pos k0, if_neg (fun z => by have := z.2.1; omega)]
    · rw [if_neg k0]
      have k2 := k0
      rw [Int32.lt_iff_toInt_lt, c0] at k2
      by_cases kN : k < nI N
      · have kk := kN
        rw [Int32.lt_iff_toInt_lt, hNI] at kk
        rw [if_pos kN, if_pos (show (q = 0 ∨ q = 1) ∧ 0 ≤ k.toInt ∧ k.toInt < N from ⟨ab, by omega, by omega⟩)]
        have hcl := tq_cl_i (x := k) (by omega)
        have hkn : k = nI k.toNatClampNeg := tq_of_i32 (by omega)
        have hlt : k.toNatClampNeg < N := by omega
        generalize k.toNatClampNeg = j at *
        rw [hkn]
        rcases ab with rfl | rfl
        · obtain ⟨r, e, hr⟩ := tq_mword1 h hN hs (q := 0) (by decide) hlt
          have e' : m_word_b28 sf 0 (nI j) 41 0 3 = some r := e
          rw [e', if_pos (show (0 : Int32) = 0 from rfl)]
          congr 1
          apply tq_u64_inj
          rw [hr, tq_word_sv hlt, h0]
        · obtain ⟨r, e, hr⟩ := tq_mword1 h hN hs (q := 1) (by decide) hlt
          have e' : m_word_b28 sf 1 (nI j) 41 0 3 = some r := e
          rw [e', if_neg (show ¬ (1 : Int32) = 0 by decide)]
          congr 1
          apply tq_u64_inj
          rw [hr, tq_word_sv hlt, h1]
      · have kk := kN
        rw [Int32.lt_iff_toInt_lt, hNI] at kk
        rw [if_neg kN, if_neg (show ¬ ((q = 0 ∨ q = 1) ∧ 0 ≤ k.toInt ∧ k.toInt < N) from fun z => by have := z.2.2; omega)]
  · rw [tq_msum0 ab, if_pos rfl, if_neg (fun z => ab z.1)]
theorem tq_same_bits (size : Int32) : f_bits size = m_bits size := rfl
theorem tq_same_next {size : Int32} {n : Nat} (h : tq_Sz size n) (x : Int32) : f_next size x = m_next size x := by
  apply Int32.toInt.inj
  rw [tq_c_next h]
  exact (tq_mpat_spec h _).symm
theorem tq_same_pat {size : Int32} {n : Nat} (h : tq_Sz size n) (x : Int32) : f_patternOf x size = m_pattern size x := by
  apply Int32.toInt.inj
  rw [tq_patternOf_spec h, tq_mpat_spec h]
theorem tq_same_compare {size : Int32} {n : Nat} (h : tq_Sz size n) (x y : Int32) : f_compare size x y = m_compare size x y := by
  apply Int32.toInt.inj
  rw [tq_c_compare h]
  unfold m_compare
  have h1 := tq_mpat_spec h x
  have h2 := tq_mpat_spec h y
  simp only [tq_nm_e]
  by_cases a : tq_pat n x = tq_pat n y
  · have : m_pattern size x = m_pattern size y := Int32.toInt.inj (by rw [h1, h2, a])
    rw [if_pos a, if_neg (fun w => w this)]; rfl
  · have : ¬ m_pattern size x = m_pattern size y := fun w => a (by rw [← h1, ← h2, w])
    rw [if_neg a, if_pos this]
    by_cases b : tq_pat n x < tq_pat n y
    · rw [if_pos b, if_neg (show ¬ m_pattern size y ≤ m_pattern size x from fun w => by rw [Int32.le_iff_toInt_le, h1, h2] at w; omega)]; rfl
    · rw [if_neg b, if_pos (show m_pattern size y ≤ m_pattern size x by rw [Int32.le_iff_toInt_le, h1, h2]; omega)]; rfl
