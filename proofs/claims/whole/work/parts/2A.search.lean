def tq_CB (C : Nat → Prop) (n t : Nat) : Prop := ∃ R Z, tq_Body (t * 2 ^ (33 - n)) R Z ∧ C (tq_xv R Z)
def tq_NB (C : Nat → Prop) (n t : Nat) : Prop := ∃ R Z, tq_Body (t * 2 ^ (33 - n)) R Z ∧ ¬ C (tq_xv R Z)
theorem tq_bB {n t : Nat} (hn : n = 8 ∨ n = 16 ∨ n = 32) (ht : t < 2 ^ (n - 1)) : t * 2 ^ (33 - n) < 2 ^ 32 := by
  have e : 2 ^ 32 = 2 ^ (n - 1) * 2 ^ (33 - n) := by rw [← Nat.pow_add, show n - 1 + (33 - n) = 32 by omega]
  rw [e]; exact Nat.mul_lt_mul_of_pos_right ht (Nat.two_pow_pos _)
theorem tq_cb_nb {C D : Nat → Prop} (hcut : tq_Cut C D) {n t t' : Nat} (hn : n = 8 ∨ n = 16 ∨ n = 32) (ht : t < 2 ^ (n - 1)) (h : tq_CB C n t) (h' : tq_NB C n t') : t < t' := by
  rcases Nat.lt_or_ge t t' with q | q
  · exact q
  · exfalso
    obtain ⟨R, Z, b, c⟩ := h
    obtain ⟨R', Z', b', c'⟩ := h'
    exact c' (hcut.1 _ _ (tq_xv_mono (tq_bB hn ht) (Nat.mul_le_mul_right _ q) b' b) c)
theorem tq_i64_ge {a b : Int64} : (0 ≤ lg_cmp a b) ↔ b.toInt ≤ a.toInt := tq_cmp_ge
theorem tq_half_up {a b : Int64} {l m : Nat} (ha : a.toInt = l) (hb : b.toInt = m) (hl : l < 2 ^ 32) (hm : m < 2 ^ 32) : ((a + b + 1) / 2).toInt = (((l + m + 1) / 2 : Nat) : Int) := by
  have c1 : ((1 : Int64)).toInt = 1 := rfl
  have c2 : ((2 : Int64)).toInt = ((2 : Nat) : Int) := rfl
  have e1 : (a + b).toInt = ((l + m : Nat) : Int) := by rw [tq_i64_add (by rw [ha, hb]; omega), ha, hb]; omega
  have e2 : (a + b + 1).toInt = ((l + m + 1 : Nat) : Int) := by rw [tq_i64_add (by rw [e1, c1]; omega), e1, c1]; omega
  rw [Int64.toInt_div_of_ne_right _ _ (by decide), e2, c2, ← Int.ofNat_tdiv]
/-- the tq_search: it ends at the largest pattern that is not above the number -/
theorem tq_search {sq : Int32} {q : Bool} (hsq : (sq = 0 ∧ q = false) ∨ (sq ≠ 0 ∧ q = true)) {E F : Nat} (hFb : q = false → F ≤ 2 ^ 390) {size : Int32} {n : Nat} (hz : tq_Sz size n) (mi : Int32) : ∀ k fuel (a b : Int64) (l m : Nat) (f : Nat → Int32), k < fuel → m < l + 2 ^ k → 1 ≤ l → l ≤ m → m < 2 ^ (n - 1) → a.toInt = l → b.toInt = m → tq_WL 200 f → tq_rv f (40 * 0) 40 = E → tq_rv f (40 * 4) 40 = F →
    tq_CB (tq_cC E F q) n l → (m + 1 = 2 ^ (n - 1) ∨ tq_NB (tq_cC E F q) n (m + 1)) →
    ∃ fuel' a' b' t g, m_rounded_b50 sq mi size fuel a b f = m_rounded_b50 sq mi size (fuel' + 1) a' b' g ∧ 1 ≤ t ∧ t < 2 ^ (n - 1) ∧ a'.toInt = ((t : Nat) : Int) ∧ b'.toInt = ((t : Nat) : Int) ∧ tq_WL 200 g ∧ tq_rv g (40 * 0) 40 = E ∧ tq_rv g (40 * 4) 40 = F ∧ tq_CB (tq_cC E F q) n t ∧ (t + 1 = 2 ^ (n - 1) ∨ tq_NB (tq_cC E F q) n (t + 1)) := by
  have hn := hz.2
  have h31 : 2 ^ (n - 1) ≤ 2 ^ 31 := Nat.pow_le_pow_right (by omega) (by omega)
  intro k
  induction k with
  | zero =>
    intro fuel a b l m f h1 h2 h3 h4 h5 ha hb hw hE hF hc hn2
    obtain ⟨fu, rfl⟩ : ∃ fu, fuel = fu + 1 := ⟨fuel - 1, by omega⟩
    have : l = m := by rw [Nat.pow_zero] at h2; omega
    subst this
    exact ⟨fu, a, b, l, f, rfl, h3, h5, ha, hb, hw, hE, hF, hc, hn2⟩
  | succ k ih =>
    intro fuel a b l m f h1 h2 h3 h4 h5 ha hb hw hE hF hc hn2
    obtain ⟨fu, rfl⟩ : ∃ fu, fuel = fu + 1 := ⟨fuel - 1, by omega⟩
    rcases Nat.eq_or_lt_of_le h4 with e | e
    · subst e
      exact ⟨fu, a, b, l, f, rfl, h3, h5, ha, hb, hw, hE, hF, hc, hn2⟩
    · have hk2 : 2 ^ (k + 1) = 2 * 2 ^ k := by rw [Nat.pow_succ, Nat.mul_comm]
      have hmid := tq_half_up ha hb (by omega) (by omega)
      obtain ⟨rr, g, e1, w1, hE1, hF1, R, Z, hb1, hr⟩ := tq_against_spec hw hsq hE hF hFb hmid (S := n) hz.1 (by omega) (P := (l + m + 1) / 2) ⟨by omega, by omega⟩ (by omega)
      have hstep : m_rounded_b50 sq mi size (fu + 1) a b f = if rr < 0 then m_rounded_b50 sq mi size fu a ((a + b + 1) / 2 - 1) g else m_rounded_b50 sq mi size fu ((a + b + 1) / 2) b g := by
        rw [m_rounded_b50, if_neg (by rw [tq_i64_ge, ha, hb]; omega), tq_nm_e, tq_bd_e e1, tq_nm_e, tq_nm_e, tq_nm_e]
      rw [hstep]
      have c1 : ((1 : Int64)).toInt = 1 := rfl
      rcases hr with ⟨p1, p2, p3⟩ | ⟨p1, p2, p3⟩ | ⟨p1, p3⟩
      · rw [if_neg (by rw [p3]; decide)]
        exact ih fu _ b ((l + m + 1) / 2) m g (by omega) (by omega) (by omega) (by omega) h5 hmid hb w1 hE1 hF1 ⟨R, Z, hb1, p1⟩ hn2
      · rw [if_neg (by rw [p3]; decide)]
        exact ih fu _ b ((l + m + 1) / 2) m g (by omega) (by omega) (by omega) (by omega) h5 hmid hb w1 hE1 hF1 ⟨R, Z, hb1, p1⟩ hn2
      · rw [if_pos (by rw [p3]; decide)]
        have hm1 : ((a + b + 1) / 2 - 1).toInt = (((l + m + 1) / 2 - 1 : Nat) : Int) := by rw [tq_i64_sub (by rw [hmid, c1]; omega), hmid, c1]; omega
        refine ih fu a _ l ((l + m + 1) / 2 - 1) g (by omega) (by omega) h3 (by omega) (by omega) ha hm1 w1 hE1 hF1 hc (.inr ?_)
        rw [show (l + m + 1) / 2 - 1 + 1 = (l + m + 1) / 2 by omega]
        exact ⟨R, Z, hb1, p1⟩
theorem tq_b156 {mi : Int32} {v : Int64} {t : Nat} (hv : v.toInt = t) (ht : t < 2 ^ 31) (f : Nat → Int32) : ∃ r, m_rounded_b156 mi v f = some (r, f) ∧ r.toInt = if mi = 0 then (t : Int) else -(t : Int) := by
  unfold m_rounded_b156
  by_cases h : mi = 0
  · rw [if_pos h, if_pos h]
    refine ⟨_, rfl, ?_⟩
    rw [Int64.toInt_toInt32, hv]; exact tq_bmod_of (by omega)
  · rw [if_neg h, if_neg h]
    refine ⟨_, rfl, ?_⟩
    have e : (-v).toInt = -(t : Int) := by rw [tq_i64_neg (by rw [hv]; omega), hv]
    rw [Int64.toInt_toInt32, e]; exact tq_bmod_of (by omega)
theorem tq_odd_t {v : Int64} {t : Nat} (hv : v.toInt = t) (ht : t < 2 ^ 32) : (lg_cmp (v - v / 2 * 2) 1 = 0) ↔ t % 2 = 1 := by
  have c2 : ((2 : Int64)).toInt = ((2 : Nat) : Int) := rfl
  have c1 : ((1 : Int64)).toInt = 1 := rfl
  have e1 : (v / 2).toInt = ((t / 2 : Nat) : Int) := by rw [Int64.toInt_div_of_ne_right _ _ (by decide), hv, c2, ← Int.ofNat_tdiv]
  have e2 : (v / 2 * 2).toInt = ((t / 2 * 2 : Nat) : Int) := by rw [tq_i64_mul (by rw [e1, c2]; omega), e1, c2]; omega
  have e3 : (v - v / 2 * 2).toInt = ((t % 2 : Nat) : Int) := by rw [tq_i64_sub (by rw [hv, e2]; omega), hv, e2]; omega
  rw [tq_cmp_eq, ← Int64.toInt_inj, e3, c1]; omega
/-- how the search's end is tq_decided -/
theorem tq_decided {sq : Int32} {q : Bool} (hsq : (sq = 0 ∧ q = false) ∨ (sq ≠ 0 ∧ q = true)) {E F : Nat} (hFb : q = false → F ≤ 2 ^ 390) {size : Int32} {n : Nat} (hz : tq_Sz size n) {mi : Int32} {fuel : Nat} {a b : Int64} {t : Nat} (h1 : 1 ≤ t) (h2 : t < 2 ^ (n - 1)) (ha : a.toInt = t) (hb : b.toInt = t) {f : Nat → Int32} (hw : tq_WL 200 f) (hE : tq_rv f (40 * 0) 40 = E) (hF : tq_rv f (40 * 4) 40 = F) :
    (∃ (r : Int32) (g : Nat → Int32) (u : Nat), m_rounded_b50 sq mi size (fuel + 1) a b f = some (r, g) ∧ tq_WL 200 g ∧ r.toInt = (if mi = 0 then (u : Int) else -(u : Int)) ∧ ∃ R Z, tq_Body (t * 2 ^ (33 - n)) R Z ∧ ((tq_cD E F q (tq_xv R Z) ∧ u = t) ∨ (¬ tq_cD E F q (tq_xv R Z) ∧
      (t + 1 < 2 ^ (n - 1) → ∃ R Z, tq_Body ((2 * t + 1) * 2 ^ (32 - n)) R Z ∧ ((tq_cC E F q (tq_xv R Z) ∧ ¬ tq_cD E F q (tq_xv R Z) ∧ u = t + 1) ∨ (tq_cD E F q (tq_xv R Z) ∧ t % 2 = 1 ∧ u = t + 1) ∨ (tq_cD E F q (tq_xv R Z) ∧ t % 2 = 0 ∧ u = t) ∨ (¬ tq_cC E F q (tq_xv R Z) ∧ u = t)) )))) ∨ (t + 1 = 2 ^ (n - 1) ∧ ∃ R Z, tq_Body (t * 2 ^ (33 - n)) R Z ∧ ¬ tq_cD E F q (tq_xv R Z)) := by
  have hn := hz.2
  have h31 : 2 ^ (n - 1) ≤ 2 ^ 31 := Nat.pow_le_pow_right (by omega) (by omega)
  obtain ⟨rr, g, e1, w1, hE1, hF1, R, Z, hb1, hr⟩ := tq_against_spec hw hsq hE hF hFb ha (S := n) hz.1 (by omega) (P := t) ⟨h1, h2⟩ (by omega)
  have c1 : ((1 : Int64)).toInt = 1 := rfl
  have c2 : ((2 : Int64)).toInt = 2 := rfl
  have c1i : ((1 : Int32)).toInt = 1 := rfl
  have top : 0 ≤ lg_cmp a b := by rw [tq_i64_ge, ha, hb]; omega
  by_cases hd : tq_cD E F q (tq_xv R Z)
  · have r0 : rr = 0 := by
      rcases hr with ⟨p1, p2, p3⟩ | ⟨p1, p2, p3⟩ | ⟨p1, p3⟩
      · exact absurd hd p2
      · exact p3
      · exact absurd ((tq_cut_c (q := q) (E := E) (F := F) (fun h => by
          rcases Nat.eq_zero_or_pos F with z | z
          · exfalso
            subst h; unfold tq_cC at p1; rw [if_neg (by decide), z] at p1
            exact p1 (by simp)
          · exact z)).2.1 _ hd) p1
    obtain ⟨r, er, hrr⟩ := tq_b156 (mi := mi) ha (by omega) g
    left
    refine ⟨r, g, t, ?_, w1, hrr, R, Z, hb1, .inl ⟨hd, rfl⟩⟩
    rw [m_rounded_b50, if_pos top, tq_bd_e e1, tq_nm_e, tq_nm_e, if_pos r0]; exact er
  · have r0 : ¬ rr = 0 := by
      rcases hr with ⟨p1, p2, p3⟩ | ⟨p1, p2, p3⟩ | ⟨p1, p3⟩
      · rw [p3]; decide
      · exact absurd p2 hd
      · rw [p3]; decide
    rcases Nat.lt_or_ge (t + 1) (2 ^ (n - 1)) with hlt | hge
    · left
      have e2t : ((2 : Int64) * a).toInt = ((2 * t : Nat) : Int) := by rw [tq_i64_mul (by rw [ha, c2]; omega), ha, c2]; omega
      have e2p : ((2 : Int64) * a + 1).toInt = ((2 * t + 1 : Nat) : Int) := by rw [tq_i64_add (by rw [e2t, c1]; omega), e2t, c1]; omega
      have es : (size + 1).toInt = ((n + 1 : Nat) : Int) := by rw [tq_i32_add (by rw [hz.1, c1i]; omega), hz.1, c1i]; omega
      have p2n : 2 * 2 ^ (n - 1) = 2 ^ (n + 1 - 1) := by
        have h := Nat.pow_add 2 1 (n - 1)
        rw [show 1 + (n - 1) = n + 1 - 1 by omega] at h; exact h.symm
      obtain ⟨rr2, g2, e3, w2, hE2, hF2, R2, Z2, hb2, hr2⟩ := tq_against_spec w1 hsq hE1 hF1 hFb e2p (S := n + 1) es (by omega) (P := 2 * t + 1) ⟨by omega, by omega⟩ (by
        intro h33
        have : n = 32 := by omega
        subst this
        omega)
      rw [show 33 - (n + 1) = 32 - n by omega] at hb2
      have hgo : m_rounded_b50 sq mi size (fuel + 1) a b f = if 0 < rr2 then m_rounded_b145 mi a g2 else if ¬ rr2 = 0 then m_rounded_b156 mi a g2 else if ¬ (lg_cmp (a - a / 2 * 2) 1) = 0 then m_rounded_b156 mi a g2 else m_rounded_b145 mi a g2 := by
        rw [m_rounded_b50, if_pos top, tq_bd_e e1, tq_nm_e, tq_nm_e, if_neg r0, tq_bd_e e3, tq_nm_e, tq_nm_e]
      obtain ⟨rd, ed, hd2⟩ := tq_b156 (mi := mi) ha (by omega) g2
      have eup : (a + 1).toInt = ((t + 1 : Nat) : Int) := by rw [tq_i64_add (by rw [ha, c1]; omega), ha, c1]; omega
      obtain ⟨ru, eu, hu2⟩ := tq_b156 (mi := mi) eup (by omega) g2
      have eu' : m_rounded_b145 mi a g2 = some (ru, g2) := by unfold m_rounded_b145; rw [tq_nm_e]; exact eu
      have hodd := tq_odd_t ha (by omega)
      rcases hr2 with ⟨p1, p2, p3⟩ | ⟨p1, p2, p3⟩ | ⟨p1, p3⟩
      · exact ⟨ru, g2, t + 1, by rw [hgo, p3, if_pos (by decide)]; exact eu', w2, hu2, R, Z, hb1, .inr ⟨hd, fun _ => ⟨R2, Z2, hb2, .inl ⟨p1, p2, rfl⟩⟩⟩⟩
      · by_cases ho : t % 2 = 1
        · exact ⟨ru, g2, t + 1, by rw [hgo, p3, if_neg (by decide), if_neg (fun z => z rfl), if_neg (fun z => z (hodd.2 ho))]; exact eu', w2, hu2, R, Z, hb1, .inr ⟨hd, fun _ => ⟨R2, Z2, hb2, .inr (.inl ⟨p2, ho, rfl⟩)⟩⟩⟩
        · exact ⟨rd, g2, t, by rw [hgo, p3, if_neg (by decide), if_neg (fun z => z rfl), if_pos (fun z => ho (hodd.1 z))]; exact ed, w2, hd2, R, Z, hb1, .inr ⟨hd, fun _ => ⟨R2, Z2, hb2, .inr (.inr (.inl ⟨p2, by omega, rfl⟩))⟩⟩⟩
      · exact ⟨rd, g2, t, by rw [hgo, p3, if_neg (by decide), if_pos (by decide)]; exact ed, w2, hd2, R, Z, hb1, .inr ⟨hd, fun _ => ⟨R2, Z2, hb2, .inr (.inr (.inr ⟨p1, rfl⟩))⟩⟩⟩
    · right
      exact ⟨by omega, R, Z, hb1, hd⟩
