theorem tq_un_eq {nz : Int32} {n : Nat} (h : tq_Sz nz n) : ((4 : Int32) * nz - 8).toInt = ((4 * n - 8 : Nat) : Int) := by
  obtain ⟨h1, h2⟩ := h
  rw [tq_of_i32 h1]
  clear h1
  rcases h2 with rfl | rfl | rfl <;> decide
theorem tq_inc_P {X L R P : Nat} (hX : X = 2 * L) (hP : P < L) : (R + (X - P) % X) % X = (R + (X - P)) % X ∧ (X - P) % X ≠ L ∧ (X - (X - P) % X) % X = P := by
  refine ⟨Nat.add_mod_mod _ _ _, ?_, ?_⟩
  · rcases Nat.eq_zero_or_pos P with z | z
    · subst z; rw [Nat.sub_zero, Nat.mod_self]; omega
    · rw [Nat.mod_eq_of_lt (show X - P < X by omega)]; omega
  · rcases Nat.eq_zero_or_pos P with z | z
    · subst z; rw [Nat.sub_zero, Nat.mod_self, Nat.sub_zero, Nat.mod_self]
    · rw [Nat.mod_eq_of_lt (show X - P < X by omega), show X - (X - P) = P by omega, Nat.mod_eq_of_lt (show P < X by omega)]
theorem tq_two_L {n : Nat} (h1 : 1 ≤ n) : 2 ^ (16 * n) = 2 * 2 ^ (16 * n - 1) := by
  have h := Nat.pow_add 2 1 (16 * n - 1)
  rw [show 1 + (16 * n - 1) = 16 * n by omega] at h; exact h
theorem tq_inc_pos {n R P : Nat} (hP : P < 2 ^ (16 * n - 1)) (hR : R ≠ 2 ^ (16 * n - 1)) : tq_incS n R P = (R + P) % 2 ^ (16 * n) := by
  unfold tq_incS
  rw [if_neg]
  rintro (z | z)
  · exact hR z
  · exact absurd z (Nat.ne_of_lt hP)
theorem tq_inc_neg {n R P : Nat} (h1 : 1 ≤ n) (hP : P < 2 ^ (16 * n - 1)) (hR : R ≠ 2 ^ (16 * n - 1)) : tq_incS n R (tq_negS n P) = (R + (2 ^ (16 * n) - P)) % 2 ^ (16 * n) := by
  obtain ⟨a, b, _⟩ := tq_inc_P (R := R) (tq_two_L h1) hP
  unfold tq_incS tq_negS
  rw [if_neg, a]
  rintro (z | z)
  · exact hR z
  · exact b z
theorem tq_neg_neg {n P : Nat} (h1 : 1 ≤ n) (hP : P < 2 ^ (16 * n - 1)) : tq_negS n (tq_negS n P) = P := (tq_inc_P (R := 0) (tq_two_L h1) hP).2.2
theorem tq_neg_L {n : Nat} (h1 : 1 ≤ n) : tq_negS n (2 ^ (16 * n - 1)) = 2 ^ (16 * n - 1) := by
  unfold tq_negS
  have e := tq_two_L h1
  have p := Nat.two_pow_pos (16 * n - 1)
  generalize 2 ^ (16 * n - 1) = L at *
  generalize 2 ^ (16 * n) = X at *
  rw [show X - L = L by omega, Nat.mod_eq_of_lt (show L < X by omega)]
theorem tq_rv_low {f : Nat → Int32} {b n P : Nat} (hn : n ≤ 40) (hl : ∀ j, j < n → tq_lim (f (b + j)) < 65536) (h : tq_rv f b 40 = P) (hP : P < 2 ^ (16 * n)) : tq_rv f b n = P := by
  have s := tq_rv_split (f := f) (b := b) (i := n) (40 - n)
  rw [show n + (40 - n) = 40 by omega, h] at s
  have hlt := tq_rv_lt hl
  generalize tq_rv f b n = A at *
  generalize tq_rv f (b + n) (40 - n) = B at *
  generalize 2 ^ (16 * n) = X at *
  rcases Nat.eq_zero_or_pos B with z | z
  · subst z; omega
  · have := Nat.le_mul_of_pos_right X z; omega
theorem tq_sz640 {n : Nat} (hn : n = 8 ∨ n = 16 ∨ n = 32) : 16 * n ≤ 640 := by omega
theorem tq_sz40 {n : Nat} (hn : n = 8 ∨ n = 16 ∨ n = 32) : n ≤ 40 := by omega
theorem tq_sz200 {n j : Nat} (hn : n ≤ 40) (h : j < n) : 40 * 0 + j < 200 := by omega
theorem tq_mcollect1 {nz : Int32} {n : Nat} (h : tq_Sz nz n) {lf sf : Nat → Int32} (hl : tq_WL 200 lf) (hs : tq_WL 64 sf) {k : Nat} (hk : k ≤ 1) (x y : Int32) {mi : Int32} (hmi : mi = 0 ∨ mi = 1) :
    ∃ l g, m_collect nz lf sf (nI k) x y mi = some (1, l, g) ∧ tq_WL 200 l ∧ tq_WL 64 g ∧ tq_Gr k sf g ∧ tq_rv g (32 * k) n = tq_incS n (tq_rv sf (32 * k) n) (if mi = 0 then tq_prodS n (tq_pat n x) (tq_pat n y) else tq_negS n (tq_prodS n (tq_pat n x) (tq_pat n y))) := by
  have hn := h.2
  have h1n : 1 ≤ n := by omega
  have hsum : m_isSum (nI k) = 1 := by
    have : k = 0 ∨ k = 1 := by omega
    rcases this with rfl | rfl <;> decide
  have lose : (tq_pat n x = -2 ^ (n - 1) ∨ tq_pat n y = -2 ^ (n - 1)) → ∃ l g, m_collect_b25 nz (nI k) x y mi lf sf = some (1, l, g) ∧ tq_WL 200 l ∧ tq_WL 64 g ∧ tq_Gr k sf g ∧ tq_rv g (32 * k) n = tq_incS n (tq_rv sf (32 * k) n) (if mi = 0 then tq_prodS n (tq_pat n x) (tq_pat n y) else tq_negS n (tq_prodS n (tq_pat n x) (tq_pat n y))) := by
    intro hnot
    have hp : tq_prodS n (tq_pat n x) (tq_pat n y) = 2 ^ (16 * n - 1) := by unfold tq_prodS; rw [if_pos hnot]
    rw [hp, tq_neg_L h1n, ite_self]
    unfold m_collect_b25 m_collect_b30
    obtain ⟨g, e, w, fr, hv⟩ := tq_mlose_spec h hk hs
    rw [tq_bd_e e]
    obtain ⟨r, e2, h2⟩ := tq_mlost_spec h hk w
    rw [tq_bd_e e2]
    rcases h2 with ⟨a, b⟩ | ⟨a, b⟩
    · rw [if_neg (by rw [b]; decide)]
      refine ⟨lf, g, rfl, hl, w, fr, ?_⟩
      unfold tq_incS; rw [if_pos (.inr rfl), hv]
    · exact absurd hv a
  unfold m_collect
  rw [hsum, if_pos (by decide)]
  by_cases nx : tq_pat n x = -2 ^ (n - 1)
  · rw [if_pos (show ¬ m_isNot nz x = 0 from fun w => (tq_misNot_spec h x).1 w nx)]
    exact lose (.inl nx)
  · rw [if_neg (show ¬ ¬ m_isNot nz x = 0 from fun w => w ((tq_misNot_spec h x).2 nx))]
    by_cases ny : tq_pat n y = -2 ^ (n - 1)
    · rw [if_neg (show ¬ m_isNot nz y = 0 from fun w => (tq_misNot_spec h y).1 w ny)]
      exact lose (.inr ny)
    · rw [if_pos ((tq_misNot_spec h y).2 ny)]
      clear lose
      unfold m_collect_b30
      obtain ⟨r, e2, h2⟩ := tq_mlost_spec h hk hs
      rw [tq_bd_e e2]
      rcases h2 with ⟨a, b⟩ | ⟨a, b⟩
      · rw [if_neg (by rw [b]; decide)]
        refine ⟨lf, sf, rfl, hl, hs, fun _ _ => rfl, ?_⟩
        unfold tq_incS; rw [if_pos (.inl a), a]
      · rw [if_pos b]
        have px := tq_not_ne hn (tq_pat_rng (x := x) hn) nx
        have py := tq_not_ne hn (tq_pat_rng (x := y) hn) ny
        have hU : 4 * n - 8 ≤ 4 * n - 8 ∧ 4 * n - 8 ≤ 200 := by omega
        obtain ⟨g1, e1, w1, fr1, v1⟩ := tq_mload_spec (r := 1) (by omega) h hl x nx (tq_un_eq h) hU
        have e1' : m_load nz lf 1 x ((4 : Int32) * nz - 8) = some g1 := e1
        obtain ⟨g2, e2, w2, fr2, v2⟩ := tq_mload_spec (r := 2) (by omega) h w1 y ny (tq_un_eq h) hU
        have e2' : m_load nz g1 2 y ((4 : Int32) * nz - 8) = some g2 := e2
        obtain ⟨g3, e3, w3, fr3, v3⟩ := tq_times_spec (a := 1) (b := 2) (t := 0) (by omega) (by omega) (by omega) (by omega) (by omega) w2
        have e3' : m_times g2 1 2 0 = some g3 := e3
        rw [tq_bd_e e1', tq_bd_e e2', tq_bd_e e3']
        rw [Nat.sub_self, Nat.pow_zero, Nat.mul_one (tq_mag n (tq_pat n x).natAbs)] at v1
        rw [Nat.sub_self, Nat.pow_zero, Nat.mul_one (tq_mag n (tq_pat n y).natAbs)] at v2
        rw [v2, tq_Fr_rv fr2 (by omega), v1] at v3
        have bx := tq_mag_le hn px
        have by' := tq_mag_le hn py
        have hP : tq_mag n (tq_pat n x).natAbs * tq_mag n (tq_pat n y).natAbs < 2 ^ (16 * n - 1) := by
          refine Nat.lt_of_le_of_lt (Nat.mul_le_mul bx by') ?_
          rw [← Nat.pow_add]; exact Nat.pow_lt_pow_right (by omega) (by omega)
        have hp : tq_prodS n (tq_pat n x) (tq_pat n y) = if (tq_pat n x < 0) = (tq_pat n y < 0) then tq_mag n (tq_pat n x).natAbs * tq_mag n (tq_pat n y).natAbs else tq_negS n (tq_mag n (tq_pat n x).natAbs * tq_mag n (tq_pat n y).natAbs) := by
          unfold tq_prodS; rw [if_neg (by rintro (z | z); exact nx z; exact ny z)]; rfl
        rw [hp]
        generalize tq_mag n (tq_pat n x).natAbs * tq_mag n (tq_pat n y).natAbs = P at *
        have hP2 : P < 2 ^ (16 * n) := Nat.lt_of_lt_of_le hP (Nat.pow_le_pow_right (by decide) (Nat.sub_le _ _))
        rw [Nat.mod_eq_of_lt (Nat.lt_of_lt_of_le hP2 (Nat.pow_le_pow_right (by decide) (tq_sz640 hn)))] at v3
        have n40 := tq_sz40 hn
        have v4 := tq_rv_low n40 (fun j hj => tq_lim_lt w3 (i := 40 * 0 + j) (tq_sz200 n40 hj)) v3 hP2
        rw [tq_mneg_spec h x, tq_mneg_spec h y]
        have fin : ∀ t : Int32, (t = 0 ∨ t = 1) → ∃ l g, m_collect_b108 nz t 0 (nI k) g3 sf = some (1, l, g) ∧ tq_WL 200 l ∧ tq_WL 64 g ∧ tq_Gr k sf g ∧ tq_rv g (32 * k) n = tq_incS n (tq_rv sf (32 * k) n) (if t = 0 then P else tq_negS n P) := by
          intro t ht
          obtain ⟨g4, e4, w4, fr4, v5⟩ := tq_mpour_spec h hk (r := 0) (by omega) w3 hs t v4
          have e4' : m_pour nz g3 sf (nI k) 0 t = some g4 := e4
          unfold m_collect_b108
          rw [tq_bd_e e4']
          refine ⟨g3, g4, rfl, w3, w4, fr4, ?_⟩
          rcases ht with rfl | rfl
          · rw [v5, if_pos (show (0 : Int32) = 0 from rfl), if_pos (show (0 : Int32) = 0 from rfl), tq_inc_pos hP a]
          · rw [v5, if_neg (show ¬ (1 : Int32) = 0 by decide), if_neg (show ¬ (1 : Int32) = 0 by decide), tq_inc_neg h1n hP a]
        have f0 := fin 0 (.inl rfl)
        have f1 := fin 1 (.inr rfl)
        rw [if_pos (show (0 : Int32) = 0 from rfl)] at f0
        rw [if_neg (show ¬ (1 : Int32) = 0 by decide)] at f1
        clear fin
        have t00 : ∀ g f, m_collect_b100 nz 0 0 0 (nI k) g f = m_collect_b108 nz 0 0 (nI k) g f := fun g f => by unfold m_collect_b100; rw [if_pos rfl]
        have t01 : ∀ g f, m_collect_b100 nz 0 1 0 (nI k) g f = m_collect_b108 nz 1 0 (nI k) g f := fun g f => by unfold m_collect_b100; rw [if_neg (by decide)]
        have t10 : ∀ g f, m_collect_b100 nz 1 0 0 (nI k) g f = m_collect_b108 nz 1 0 (nI k) g f := fun g f => by unfold m_collect_b100; rw [if_neg (by decide)]
        have t11 : ∀ g f, m_collect_b100 nz 1 1 0 (nI k) g f = m_collect_b108 nz 0 0 (nI k) g f := fun g f => by unfold m_collect_b100; rw [if_pos rfl]
        have same : (tq_pat n x < 0) = (tq_pat n y < 0) → (if decide (tq_pat n x < 0) = true then (1 : Int32) else 0) = if decide (tq_pat n y < 0) = true then 1 else 0 := fun z => by
          have : decide (tq_pat n x < 0) = decide (tq_pat n y < 0) := by rw [decide_eq_decide, z]
          rw [this]
        have diff : ¬ (tq_pat n x < 0) = (tq_pat n y < 0) → ¬ ((if decide (tq_pat n x < 0) = true then (1 : Int32) else 0) = if decide (tq_pat n y < 0) = true then 1 else 0) := fun z => by
          by_cases s1 : tq_pat n x < 0 <;> by_cases s2 : tq_pat n y < 0
          · exact absurd (by simp [s1, s2]) z
          · rw [decide_eq_true s1, decide_eq_false s2]; decide
          · rw [decide_eq_false s1, decide_eq_true s2]; decide
          · exact absurd (by simp [s1, s2]) z
        by_cases sn : (tq_pat n x < 0) = (tq_pat n y < 0)
        · rw [if_pos (same sn), if_pos sn]
          rcases hmi with rfl | rfl
          · rw [t00, if_pos (show (0 : Int32) = 0 from rfl)]; exact f0
          · rw [t01, if_neg (show ¬ (1 : Int32) = 0 by decide)]; exact f1
        · rw [if_neg (diff sn), if_neg sn]
          rcases hmi with rfl | rfl
          · rw [t10, if_pos (show (0 : Int32) = 0 from rfl)]; exact f1
          · rw [t11, if_neg (show ¬ (1 : Int32) = 0 by decide), tq_neg_neg h1n hP]; exact f0
theorem tq_mcollect_q {nz : Int32} {n : Nat} (h : tq_Sz nz n) {lf sf : Nat → Int32} (hl : tq_WL 200 lf) (hs : tq_WL 64 sf) (q x y : Int32) {mi : Int32} (hmi : mi = 0 ∨ mi = 1) {T : Nat} (hT : T = if mi = 0 then tq_prodS n (tq_pat n x) (tq_pat n y) else tq_negS n (tq_prodS n (tq_pat n x) (tq_pat n y))) :
    ∃ l g, m_collect nz lf sf q x y mi = some (f_isSum q, l, g) ∧ tq_WL 200 l ∧ tq_WL 64 g ∧ tq_rv g (32 * 0) n = (if q = 0 then tq_incS n (tq_rv sf (32 * 0) n) T else tq_rv sf (32 * 0) n) ∧ tq_rv g (32 * 1) n = (if q = 1 then tq_incS n (tq_rv sf (32 * 1) n) T else tq_rv sf (32 * 1) n) := by
  have hn := h.2
  have hfs : f_isSum q = m_isSum q := rfl
  by_cases hq : q = 0 ∨ q = 1
  · rw [hfs, tq_msum1 hq]
    rcases hq with rfl | rfl
    · obtain ⟨l, g, e, w1, w2, fr, hv⟩ := tq_mcollect1 h hl hs (k := 0) (by omega) x y hmi
      rw [← hT] at hv
      obtain ⟨r1, r2⟩ := tq_rowq (nz := nz) (by omega) (by omega) fr hv
      have z0 : nI 0 = 0 := rfl
      rw [z0] at e
      rw [if_pos rfl] at r1
      rw [if_neg (show ¬ (0 : Nat) = 1 by decide)] at r2
      rw [if_pos (show (0 : Int32) = 0 from rfl), if_neg (show ¬ (0 : Int32) = 1 by decide)]
      exact ⟨l, g, e, w1, w2, r1, r2⟩
    · obtain ⟨l, g, e, w1, w2, fr, hv⟩ := tq_mcollect1 h hl hs (k := 1) (by omega) x y hmi
      rw [← hT] at hv
      obtain ⟨r1, r2⟩ := tq_rowq (nz := nz) (by omega) (by omega) fr hv
      have z0 : nI 1 = 1 := rfl
      rw [z0] at e
      rw [if_neg (show ¬ (1 : Nat) = 0 by decide)] at r1
      rw [if_pos rfl] at r2
      rw [if_neg (show ¬ (1 : Int32) = 0 by decide), if_pos (show (1 : Int32) = 1 from rfl)]
      exact ⟨l, g, e, w1, w2, r1, r2⟩
  · unfold m_collect
    rw [hfs, tq_msum0 hq, if_neg (by decide)]
    exact ⟨lf, sf, rfl, hl, hs, by rw [if_neg (fun z => hq (.inl z))], by rw [if_neg (fun z => hq (.inr z))]⟩
