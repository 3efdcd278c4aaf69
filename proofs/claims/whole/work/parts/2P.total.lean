theorem tq_up_eq {nz : Int32} {n : Nat} (h : tq_Sz nz n) : ((264 : Int32) - 8 * nz).toInt = ((264 - 8 * n : Nat) : Int) := by
  obtain ⟨h1, h2⟩ := h
  rw [tq_of_i32 h1]
  clear h1
  rcases h2 with rfl | rfl | rfl <;> decide
theorem tq_up_lt {n A : Nat} (hn : n = 8 ∨ n = 16 ∨ n = 32) (hA : A < 2 ^ (16 * n)) : A * 2 ^ (264 - 8 * n) < 2 ^ 640 := by
  have := Nat.mul_lt_mul_of_pos_right hA (Nat.two_pow_pos (264 - 8 * n))
  rw [← Nat.pow_add] at this
  exact Nat.lt_of_lt_of_le this (Nat.pow_le_pow_right (by decide) (by omega))
theorem tq_up_id {n A : Nat} (hn : n = 8 ∨ n = 16 ∨ n = 32) : A * 2 ^ (264 - 8 * n) * 2 ^ (4 * n - 8) = A * 2 ^ 124 * 2 ^ (132 - 4 * n) := by
  rw [Nat.mul_assoc, Nat.mul_assoc, ← Nat.pow_add, ← Nat.pow_add, show 264 - 8 * n + (4 * n - 8) = 124 + (132 - 4 * n) by omega]
theorem tq_up_k {n : Nat} (hn : n = 8 ∨ n = 16 ∨ n = 32) : ((132 - 4 * n : Nat) : Int) - ((4 * n - 8 : Nat) : Int) = 140 - 8 * n := by omega
theorem tq_up_640 {n : Nat} (hn : n = 8 ∨ n = 16 ∨ n = 32) : 264 - 8 * n < 640 := by omega
theorem tq_tot_76 {nz : Int32} {n : Nat} (h : tq_Sz nz n) {lf : Nat → Int32} (sf : Nat → Int32) (hl : tq_WL 200 lf) {A : Nat} (hA : tq_rv lf (40 * 1) 40 = A) (hA2 : A < 2 ^ (16 * n)) (v2 sq : Int32) :
    ∃ r l, m_total_b76 nz v2 sq lf sf = some (r, 0, l, sf) ∧ tq_WL 200 l ∧ r.toInt = if v2 = 0 then (tq_rS n A : Int) else -(tq_rS n A : Int) := by
  have hn := h.2
  unfold m_total_b76
  obtain ⟨g1, e1, w1, fr1, v1⟩ := tq_move_spec (a := 1) (b := 0) (by omega) (by omega) (by omega) hl
  have e1' : m_move lf 1 0 = some g1 := e1
  obtain ⟨g2, e2, w2, fr2, v2'⟩ := tq_raise_spec (r := 0) (by omega) w1 (tq_up_eq h) (tq_up_640 hn)
  have e2' : m_raise g1 0 ((264 : Int32) - 8 * nz) = some g2 := e2
  rw [v1, hA, Nat.mod_eq_of_lt (tq_up_lt hn hA2)] at v2'
  obtain ⟨g3, e3, w3, fr3, v3⟩ := tq_mfactor_spec w2 sq (pw := 124) (k := 124) rfl (by omega)
  have hE : tq_rv g3 (40 * 0) 40 = A * 2 ^ (264 - 8 * n) := by rw [tq_Fr_rv fr3 (by decide), v2']
  obtain ⟨r, g4, e4, w4, hr⟩ := tq_ref_S h v2 w3 hE v3 (Nat.two_pow_pos _) (Nat.pow_le_pow_right (by decide) (by decide)) (tq_up_k hn) (tq_up_id hn)
  rw [tq_bd_e e1', tq_bd_e e2', tq_bd_e e3, tq_nm_e, tq_nm_e, tq_bd_e e4]
  exact ⟨r, g4, rfl, w4, hr⟩
theorem tq_sg_lo {n S : Nat} (h : S < 2 ^ (16 * n - 1)) : tq_ansS n S = (tq_rS n S : Int) := by
  unfold tq_ansS
  rw [if_neg (Nat.ne_of_lt h)]
  apply tq_rI_nn
  unfold tq_sgnd; rw [if_pos h]
theorem tq_rI_sub {n S X : Nat} (h : S < X) : tq_rI n ((S : Int) - (X : Int)) = -(tq_rS n (X - S) : Int) := by
  unfold tq_rI
  rw [if_pos (by omega), show ((S : Int) - (X : Int)).natAbs = X - S by omega]
theorem tq_sg_hi {n S : Nat} (h : 2 ^ (16 * n - 1) < S) (h2 : S < 2 ^ (16 * n)) : tq_ansS n S = -(tq_rS n (tq_negS n S) : Int) := by
  unfold tq_ansS
  rw [if_neg (Nat.ne_of_gt h)]
  unfold tq_sgnd
  rw [if_neg (Nat.not_lt.2 (Nat.le_of_lt h)), tq_rI_sub h2]
  unfold tq_negS
  rw [Nat.mod_eq_of_lt (Nat.sub_lt (Nat.two_pow_pos _) (Nat.lt_of_le_of_lt (Nat.zero_le _) h))]
theorem tq_top_lt {q n : Nat} (hq : q ≤ 1) (hn : n = 8 ∨ n = 16 ∨ n = 32) {f : Nat → Int32} (hw : tq_WL 64 f) : (f (32 * q + (n - 1)) < 32768 ↔ tq_rv f (32 * q) n < 2 ^ (16 * n - 1)) := by
  have hl := hw (32 * q + (n - 1)) (by omega)
  have hi := tq_lim_i hl.1
  have hr : tq_rv f (32 * q) (n - 1) < 2 ^ (16 * (n - 1)) := tq_rv_lt (fun j hj => tq_lim_lt hw (by omega))
  have e : (f (32 * q + (n - 1)) < 32768) ↔ tq_lim (f (32 * q + (n - 1))) < 32768 := by
    rw [Int32.lt_iff_toInt_lt]
    have : (32768 : Int32).toInt = 32768 := rfl
    rw [this]; omega
  rw [e, tq_rv_last (by omega), tq_p15 (by omega)]
  generalize tq_lim (f (32 * q + (n - 1))) = t
  generalize tq_rv f (32 * q) (n - 1) = R at *
  generalize 2 ^ (16 * (n - 1)) = X at *
  constructor
  · intro w
    have := Nat.mul_le_mul_right X (show t + 1 ≤ 32768 by omega)
    rw [Nat.add_mul] at this; omega
  · intro w
    rcases Nat.lt_or_ge t 32768 with z | z
    · exact z
    · have := Nat.mul_le_mul_right X z; omega
theorem tq_mtotal1 {nz : Int32} {n : Nat} (h : tq_Sz nz n) {lf sf : Nat → Int32} (hl : tq_WL 200 lf) (hs : tq_WL 64 sf) {q : Nat} (hq : q ≤ 1) (sq : Int32) :
    ∃ r s l g, m_total nz sq lf sf (nI q) = some (r, s, l, g) ∧ tq_WL 200 l ∧ tq_WL 64 g ∧ tq_Gr q sf g ∧ tq_rv g (32 * q) n = tq_rv sf (32 * q) n ∧ r.toInt = tq_ansS n (tq_rv sf (32 * q) n) := by
  have hn := h.2
  have hsum : m_isSum (nI q) = 1 := by
    have : q = 0 ∨ q = 1 := by omega
    rcases this with rfl | rfl <;> decide
  unfold m_total
  rw [hsum, if_neg (by decide)]
  obtain ⟨r, e, hr⟩ := tq_mlost_spec h hq hs
  rw [tq_bd_e e]
  rcases hr with ⟨a, b⟩ | ⟨a, b⟩
  · rw [if_neg (by rw [b]; decide)]
    unfold m_total_b15
    refine ⟨_, _, _, _, rfl, hl, hs, fun _ _ => rfl, rfl, ?_⟩
    rw [tq_mnot_spec h]; unfold tq_ansS; rw [if_pos a]
  · rw [if_pos b]
    have e1 : (32 : Int32) * nI q + nz - 1 = nI (32 * q + (n - 1)) := by
      rw [tq_nz_eq h, tq_ix32]
      have : (1 : Int32) = nI 1 := rfl
      rw [this, tq_ixs (by omega) (by omega)]; congr 1; omega
    have n32 : n ≤ 32 := by omega
    rw [e1, if_neg (tq_ixok3 hq (by omega)), tq_ixcl3 hq (by omega)]
    have ht := tq_top_lt hq hn hs
    have hlt : tq_rv sf (32 * q) n < 2 ^ (16 * n) := tq_rv_lt (fun j hj => tq_lim_lt hs (by omega))
    by_cases t : sf (32 * q + (n - 1)) < 32768
    · rw [if_pos t]
      unfold m_total_b49 m_total_b60
      obtain ⟨l1, d1, w1, fr1, d2, d3⟩ := tq_mdraw_spec h hq (r := 1) (by decide) hl hs
      have d1' : m_draw nz lf sf (nI q) 1 = some l1 := d1
      rw [if_pos rfl, tq_bd_e d1', if_pos rfl]
      obtain ⟨r, l2, e2, w2, hr⟩ := tq_tot_76 h sf w1 d3 hlt 0 sq
      exact ⟨r, 0, l2, sf, e2, w2, hs, fun _ _ => rfl, rfl, by rw [hr, if_pos rfl, tq_sg_lo (ht.1 t)]⟩
    · rw [if_neg t]
      have hgt : 2 ^ (16 * n - 1) < tq_rv sf (32 * q) n := by
        rcases Nat.lt_trichotomy (tq_rv sf (32 * q) n) (2 ^ (16 * n - 1)) with z | z | z
        · exact absurd (ht.2 z) t
        · exact absurd z a
        · exact z
      unfold m_total_b49 m_total_b60
      have one : ¬ (1 : Int32) = 0 := by decide
      rw [if_neg one]
      obtain ⟨l1, f1, e1, w1, u1, fr1, v1, _⟩ := tq_mnegate_spec h hq hl hs
      rw [tq_bd_e e1, tq_nm_e, tq_nm_e, tq_nm_e]
      obtain ⟨l2, d1, w2, fr2, d2, d3⟩ := tq_mdraw_spec h hq (r := 1) (by decide) w1 u1
      have d1' : m_draw nz l1 f1 (nI q) 1 = some l2 := d1
      obtain ⟨l3, f3, e3, w3, u3, fr3, v3, fz3⟩ := tq_mnegate_spec h hq w2 u1
      rw [tq_bd_e d1', if_neg one, tq_bd_e e3, tq_nm_e, tq_nm_e, tq_nm_e]
      have hA : tq_rv l3 (40 * 1) 40 = tq_negS n (tq_rv sf (32 * q) n) := by rw [tq_Fr_rv fz3 (by decide), d3, v1]
      obtain ⟨r, l4, e4, w4, hr⟩ := tq_tot_76 h f3 w3 hA (Nat.mod_lt _ (Nat.two_pow_pos _)) 1 sq
      refine ⟨r, 0, l4, f3, e4, w4, u3, fun x hx => by rw [fr3 x hx]; exact fr1 x hx, ?_, ?_⟩
      · rw [v3, v1, tq_negS_negS hlt]
      · rw [hr, if_neg one, tq_sg_hi hgt hlt]
theorem tq_mtotal_q {nz : Int32} {n : Nat} (h : tq_Sz nz n) {lf sf : Nat → Int32} (hl : tq_WL 200 lf) (hs : tq_WL 64 sf) (sq q : Int32) :
    ∃ r s l g, m_total nz sq lf sf q = some (r, s, l, g) ∧ tq_WL 200 l ∧ tq_WL 64 g ∧ tq_rv g (32 * 0) n = tq_rv sf (32 * 0) n ∧ tq_rv g (32 * 1) n = tq_rv sf (32 * 1) n ∧ r.toInt = if q = 0 then tq_ansS n (tq_rv sf (32 * 0) n) else if q = 1 then tq_ansS n (tq_rv sf (32 * 1) n) else -2 ^ (n - 1) := by
  have n32 : n ≤ 32 := by have := h.2; omega
  by_cases a : q = 0
  · subst a
    obtain ⟨r, s, l, g, e, w1, w2, fr, v, hr⟩ := tq_mtotal1 h hl hs (q := 0) (by decide) sq
    have z0 : nI 0 = 0 := rfl
    rw [z0] at e
    exact ⟨r, s, l, g, e, w1, w2, v, tq_Gr_rv n32 fr (by decide), by rw [hr, if_pos rfl]⟩
  · by_cases b : q = 1
    · subst b
      obtain ⟨r, s, l, g, e, w1, w2, fr, v, hr⟩ := tq_mtotal1 h hl hs (q := 1) (by decide) sq
      have z0 : nI 1 = 1 := rfl
      rw [z0] at e
      exact ⟨r, s, l, g, e, w1, w2, tq_Gr_rv n32 fr (by decide), v, by rw [hr, if_neg a, if_pos rfl]⟩
    · unfold m_total m_total_b15
      rw [tq_msum0 (by rintro (z | z); exact a z; exact b z), if_pos rfl]
      exact ⟨_, _, _, _, rfl, hl, hs, rfl, rfl, by rw [tq_mnot_spec h, if_neg a, if_neg b]⟩
theorem tq_word_loop {q k : Nat} (hq : q ≤ 1) (hk : k < 8) {f : Nat → Int32} (hw : tq_WL 64 f) : ∀ i fu (v : Int64), i ≤ 4 → i < fu → tq_u64 v = tq_rv f (32 * q + 4 * k + i) (4 - i) → ∃ r, m_word_b28 f (nI q) (nI k) fu v (nI i + (-1)) = some r ∧ tq_u64 r = tq_rv f (32 * q + 4 * k) 4 := by
  intro i
  induction i with
  | zero =>
    intro fu v h1 h2 hu
    obtain ⟨m, rfl⟩ : ∃ k, fu = k + 1 := ⟨fu - 1, by omega⟩
    rw [m_word_b28, if_pos (by decide)]
    exact ⟨v, rfl, hu⟩
  | succ i ih =>
    intro fu v h1 h2 hu
    obtain ⟨m, rfl⟩ : ∃ k, fu = k + 1 := ⟨fu - 1, by omega⟩
    have ea : (32 : Int32) * nI q + 4 * nI k + nI i = nI (32 * q + 4 * k + i) := by
      show nI 32 * nI q + nI 4 * nI k + nI i = _
      unfold nI; rw [← Int32.ofNat_mul, ← Int32.ofNat_mul, ← Int32.ofNat_add, ← Int32.ofNat_add]
    rw [m_word_b28, tq_nI_pred (by omega), if_neg (tq_nI_nn (by omega)), ea, if_neg (tq_nI_ok (by omega) (by omega)), tq_nI_cl (by omega), tq_nm_e]
    apply ih m _ (by omega) (by omega)
    have hl := hw (32 * q + 4 * k + i) (by omega)
    have hlim := tq_i64_of_lim hl.1
    have hll := tq_lim_lt hw (i := 32 * q + 4 * k + i) (by omega)
    have hsp := tq_rv_split (f := f) (b := 32 * q + 4 * k + i) (i := 1) (3 - i)
    have e1 : tq_rv f (32 * q + 4 * k + i) 1 = tq_lim (f (32 * q + 4 * k + i)) := by
      show 0 + tq_lim (f (32 * q + 4 * k + i + 0)) * 2 ^ (16 * 0) = _
      simp
    rw [show 1 + (3 - i) = 4 - i by omega, e1] at hsp
    have hv4 : tq_u64 v = tq_rv f (32 * q + 4 * k + i + 1) (3 - i) := by
      rw [hu, show 4 - (i + 1) = 3 - i by omega, Nat.add_assoc _ i 1]
    have hb : tq_rv f (32 * q + 4 * k + i + 1) (3 - i) < 2 ^ (16 * (3 - i)) := tq_rv_lt (fun j hj => tq_lim_lt hw (by omega))
    have hb2 : 2 ^ (16 * (3 - i)) ≤ 2 ^ 48 := Nat.pow_le_pow_right (by omega) (by omega)
    rw [tq_u64_or, tq_u64_shl (k := 16) rfl (by omega), hv4, tq_u64_of_i hlim, Nat.mod_eq_of_lt (by omega), Nat.mul_comm, tq_or_add (by omega), hsp]
    show _ = tq_lim (f (32 * q + 4 * k + i)) + 2 ^ 16 * _
    omega
