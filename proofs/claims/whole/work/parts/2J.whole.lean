theorem tq_rnd_le (V d : Nat) (mo : Bool) : tq_rnd V d mo ≤ V / 2 ^ d + 1 := by unfold tq_rnd; split <;> omega
theorem tq_parts_ex {nz : Int32} {n : Nat} (h : tq_Sz nz n) (x : Int32) (nx : tq_pat n x ≠ -2 ^ (n - 1)) : ∃ m e, tq_Parts n (tq_pat n x) m e := by
  obtain ⟨nt, ng, mg, ex, _, o1⟩ := tq_read_spec h x 0 0 0 0
  obtain ⟨m0, _, hp0⟩ := tq_op_parts h.2 (tq_pat_rng h.2) nx o1
  exact ⟨m0, _, hp0⟩
theorem tq_mwhole_spec {nz : Int32} {n : Nat} (h : tq_Sz nz n) {f : Nat → Int32} (hw : tq_WL 200 f) (sq x : Int32) :
    ∃ r s g, m_whole nz sq f x = some (r, s, g) ∧ tq_WL 200 g ∧ (tq_pat n x = -2 ^ (n - 1) → r.toInt = -2 ^ (n - 1)) ∧ (tq_pat n x ≠ -2 ^ (n - 1) → ∀ m e, tq_Parts n (tq_pat n x) m e → r.toInt = if 0 ≤ e then tq_pat n x else tq_sg (decide (tq_pat n x < 0)) (tq_rM n (tq_rnd m (-e).toNat false) 0 false)) := by
  have hn := h.2
  unfold m_whole
  by_cases nx : tq_pat n x = -2 ^ (n - 1)
  · rw [if_neg (show ¬ m_isNot nz x = 0 from fun q => (tq_misNot_spec h x).1 q nx)]
    exact ⟨_, _, _, rfl, hw, fun _ => tq_mnot_spec h, fun q => absurd nx q⟩
  · rw [if_pos ((tq_misNot_spec h x).2 nx)]
    have px := tq_not_ne hn (tq_pat_rng (x := x) hn) nx
    obtain ⟨g1, e1, w1, h1⟩ := tq_mnear_spec h hw x nx
    obtain ⟨g2, e2, w2, fr2, h2⟩ := tq_raise_spec (r := 0) (by omega) w1 (my := 124) (k := 124) rfl (by omega)
    have e2' : m_raise g1 0 124 = some g2 := e2
    obtain ⟨g3, e3, w3, fr3, h3⟩ := tq_mfactor_spec w2 sq (pw := 0) (k := 0) rfl (by omega)
    have hsgn : ∀ v : Nat, (if m_negative nz x = 0 then (v : Int) else -(v : Int)) = tq_sg (decide (tq_pat n x < 0)) v := by
      intro v; rw [tq_mneg_spec h x]; unfold tq_sg; cases decide (tq_pat n x < 0) <;> rfl
    have run : ∀ m e, tq_Parts n (tq_pat n x) m e → ∃ r g, m_rounded 0 g3 (m_negative nz x) nz = some (r, g) ∧ tq_WL 200 g ∧ r.toInt = if 0 ≤ e then tq_pat n x else tq_sg (decide (tq_pat n x < 0)) (tq_rM n (tq_rnd m (-e).toNat false) 0 false) := by
      intro m e hp
      have hnp := tq_near_parts hn hp
      have hp' := hp
      obtain ⟨p1, p2, p3, p4, p5, p6⟩ := hp'
      rw [hnp] at h1
      by_cases q : 0 ≤ e
      · rw [if_pos q] at h1 ⊢
        have hE : tq_rv g3 (40 * 0) 40 = m * 2 ^ (e + 124).toNat := by
          rw [tq_Fr_rv fr3 (by omega), h2, h1, Nat.mul_assoc, ← Nat.pow_add, show e.toNat + 124 = (e + 124).toNat by omega, Nat.mod_eq_of_lt]
          have := Nat.mul_lt_mul_of_pos_right p1 (Nat.two_pow_pos (e + 124).toNat)
          rw [← Nat.pow_add] at this
          exact Nat.lt_of_lt_of_le this (Nat.pow_le_pow_right (by omega) (by omega))
        obtain ⟨r, g4, e4, w4, hr4⟩ := tq_ref_M h (m_negative nz x) w3 hE h3 (by decide) (by rw [Nat.pow_zero]; exact Nat.two_pow_pos _) (A := m) (by omega) (e := e) (k1 := 0) (k2 := (e + 124).toNat) (by omega) (by rw [Nat.pow_zero, Nat.mul_one, Nat.mul_one])
        refine ⟨r, g4, e4, w4, ?_⟩
        rw [hr4, tq_self_round hn px hp, hsgn]
        unfold tq_sg
        by_cases s : tq_pat n x < 0
        · rw [decide_eq_true s, if_pos rfl]; omega
        · rw [decide_eq_false s, if_neg (by decide)]; omega
      · rw [if_neg q] at h1 ⊢
        have hq := tq_rnd_le m (-e).toNat false
        have hq2 : m / 2 ^ (-e).toNat ≤ m := Nat.div_le_self _ _
        have hA : tq_rnd m (-e).toNat false < 2 ^ 60 := by omega
        generalize tq_rnd m (-e).toNat false = A at *
        have hE : tq_rv g3 (40 * 0) 40 = A * 2 ^ 124 := by
          rw [tq_Fr_rv fr3 (by omega), h2, h1, Nat.mod_eq_of_lt]
          have := Nat.mul_lt_mul_of_pos_right hA (Nat.two_pow_pos 124)
          rw [← Nat.pow_add] at this
          exact Nat.lt_of_lt_of_le this (Nat.pow_le_pow_right (by omega) (by omega))
        obtain ⟨r, g4, e4, w4, hr4⟩ := tq_ref_M h (m_negative nz x) w3 hE h3 (by decide) (by rw [Nat.pow_zero]; exact Nat.two_pow_pos _) (A := A) (by omega) (e := 0) (k1 := 0) (k2 := 124) (by omega) (by rw [Nat.pow_zero, Nat.mul_one, Nat.mul_one])
        exact ⟨r, g4, e4, w4, by rw [hr4, hsgn]⟩
    obtain ⟨m0, e0, hp0⟩ := tq_parts_ex h x nx
    obtain ⟨r, g, e, w4, hr⟩ := run m0 e0 hp0
    refine ⟨r, 0, g, ?_, w4, fun q => absurd q nx, fun _ m e' hp => ?_⟩
    · rw [tq_bd_e e1, tq_bd_e e2', tq_bd_e e3, tq_nm_e, tq_nm_e, tq_bd_e e]; rfl
    · obtain ⟨r', g', e4', _, hr'⟩ := run m e' hp
      have := e.symm.trans e4'
      cases this
      exact hr'
/-- the limbs from i on, of the lowest four -/
theorem tq_toL_loop {nz : Int32} {n : Nat} (h : tq_Sz nz n) {f : Nat → Int32} (hw : tq_WL 200 f) (x : Int32) (v2 : Int64) : ∀ i fu (v4 : Int64) (v6 : Int32), i ≤ 40 → i < fu → (v6 = 0 ∨ v6 = 1) → tq_u64 v4 = (if 4 ≤ i then 0 else tq_rv f i (4 - i)) →
    ∃ r, m_toLong_b43 nz x fu v2 v4 v6 (nI i + (-1)) f = some (r, f) ∧ ((v6 = 1 ∧ (∀ j, 4 ≤ j → j < i → f j = 0)) → ∃ v : Int64, tq_u64 v = tq_rv f 0 4 ∧ r = if decide (tq_pat n x < 0) then -v else v) ∧ (¬ (v6 = 1 ∧ (∀ j, 4 ≤ j → j < i → f j = 0)) → r = v2) := by
  intro i
  induction i with
  | zero =>
    intro fu v4 v6 h1 h2 hv hu
    obtain ⟨k, rfl⟩ : ∃ k, fu = k + 1 := ⟨fu - 1, by omega⟩
    rw [m_toLong_b43, if_pos (by decide)]
    have hneg := tq_mneg_spec h x
    rcases hv with z | z
    · rw [z, if_neg (fun w => w rfl)]
      exact ⟨v2, rfl, fun w => absurd w.1 (by decide), fun _ => rfl⟩
    · rw [z, if_pos (show ¬ (1 : Int32) = 0 by decide), hneg]
      cases hd : decide (tq_pat n x < 0)
      · exact ⟨v4, by rw [if_pos (by decide)], fun _ => ⟨v4, by rw [hu, if_neg (by omega)], rfl⟩, fun w => absurd ⟨rfl, fun j a b => by omega⟩ w⟩
      · exact ⟨-v4, by rw [if_neg (by decide)], fun _ => ⟨v4, by rw [hu, if_neg (by omega)], rfl⟩, fun w => absurd ⟨rfl, fun j a b => by omega⟩ w⟩
  | succ i ih =>
    intro fu v4 v6 h1 h2 hv hu
    obtain ⟨k, rfl⟩ : ∃ k, fu = k + 1 := ⟨fu - 1, by omega⟩
    have c0 : ∀ j : Nat, (0 : Int32) + nI j = nI j := fun j => Int32.zero_add _
    have step : ∀ v6' : Int32, (v6' = 0 ∨ v6' = 1) → ∃ v4' : Int64, tq_u64 v4' = (if 4 ≤ i then 0 else tq_rv f i (4 - i)) ∧ m_toLong_b76 (m_toLong_b43 nz x k) v2 v4 (nI i) v6' f = m_toLong_b43 nz x k v2 v4' v6' (nI i + (-1)) f := by
      intro v6' hv6
      unfold m_toLong_b76 m_toLong_b105
      by_cases q : 4 ≤ i
      · rw [if_pos (show (4 : Int32) ≤ nI i from (tq_nI_le (N := 4) (by omega) (by omega)).2 q)]
        exact ⟨v4, by rw [hu, if_pos (by omega), if_pos q], rfl⟩
      · rw [if_neg (show ¬ (4 : Int32) ≤ nI i from fun w => q ((tq_nI_le (N := 4) (by omega) (by omega)).1 w)), c0, if_neg (tq_nI_ok (by omega) (by omega)), tq_nI_cl (by omega)]
        refine ⟨_, ?_, rfl⟩
        rw [if_neg q]
        have hl := hw i (by omega)
        have hlim := tq_i64_of_lim hl.1
        have hll := tq_lim_lt hw (i := i) (by omega)
        have hsp := tq_rv_split (f := f) (b := i) (i := 1) (3 - i)
        have e1 : tq_rv f i 1 = tq_lim (f i) := by
          show 0 + tq_lim (f (i + 0)) * 2 ^ (16 * 0) = _
          simp
        rw [show 1 + (3 - i) = 4 - i by omega, e1] at hsp
        have hv4 : tq_u64 v4 = tq_rv f (i + 1) (3 - i) := by
          rw [hu]
          split
          · have : i = 3 := by omega
            subst this; rfl
          · rw [show 4 - (i + 1) = 3 - i by omega]
        have hb : tq_rv f (i + 1) (3 - i) < 2 ^ (16 * (3 - i)) := tq_rv_lt (fun j hj => tq_lim_lt hw (by omega))
        have hb2 : 2 ^ (16 * (3 - i)) ≤ 2 ^ 48 := Nat.pow_le_pow_right (by omega) (by omega)
        rw [tq_u64_or, tq_u64_shl (k := 16) rfl (by omega), hv4, tq_u64_of_i hlim, Nat.mod_eq_of_lt (by omega), Nat.mul_comm, tq_or_add (by omega), hsp]
        show _ = tq_lim (f i) + 2 ^ 16 * _
        omega
    rw [m_toLong_b43, tq_nI_pred (by omega), if_neg (tq_nI_nn (by omega)), c0]
    have go : ∀ v6' : Int32, (v6' = 0 ∨ v6' = 1) → (v6' = 1 ↔ v6 = 1 ∧ (4 ≤ i → f i = 0)) → ∃ r, m_toLong_b76 (m_toLong_b43 nz x k) v2 v4 (nI i) v6' f = some (r, f) ∧ ((v6 = 1 ∧ (∀ j, 4 ≤ j → j < i + 1 → f j = 0)) → ∃ v : Int64, tq_u64 v = tq_rv f 0 4 ∧ r = if decide (tq_pat n x < 0) then -v else v) ∧ (¬ (v6 = 1 ∧ (∀ j, 4 ≤ j → j < i + 1 → f j = 0)) → r = v2) := by
      intro v6' hv6 hiff
      obtain ⟨v4', hv4', est⟩ := step v6' hv6
      obtain ⟨r, e, ha, hb⟩ := ih k v4' v6' (by omega) (by omega) hv6 hv4'
      have heq : (v6' = 1 ∧ (∀ j, 4 ≤ j → j < i → f j = 0)) ↔ (v6 = 1 ∧ (∀ j, 4 ≤ j → j < i + 1 → f j = 0)) := by
        constructor
        · rintro ⟨a, b⟩
          obtain ⟨c, d⟩ := hiff.1 a
          refine ⟨c, fun j j1 j2 => ?_⟩
          rcases Nat.lt_or_ge j i with z | z
          · exact b j j1 z
          · have : j = i := by omega
            subst this; exact d j1
        · rintro ⟨a, b⟩
          exact ⟨hiff.2 ⟨a, fun z => b i z (by omega)⟩, fun j j1 j2 => b j j1 (by omega)⟩
      exact ⟨r, by rw [est]; exact e, fun w => ha (heq.2 w), fun w => hb (fun z => w (heq.1 z))⟩
    by_cases q : v6 = 0
    · rw [if_pos q]
      exact go 0 (.inl rfl) ⟨fun w => absurd w (by decide), fun w => absurd (q.symm.trans w.1) (by decide)⟩
    · have v1 := hv.resolve_left q
      rw [if_neg q]
      by_cases i4 : i < 4
      · rw [if_pos (show nI i < (4 : Int32) from (tq_nI_lt (N := i) (i := 4) (by omega) (by omega)).2 i4)]
        exact go 1 (.inr rfl) ⟨fun _ => ⟨v1, fun w => by omega⟩, fun _ => rfl⟩
      · rw [if_neg (show ¬ nI i < (4 : Int32) from fun w => i4 ((tq_nI_lt (N := i) (i := 4) (by omega) (by omega)).1 w)), if_neg (tq_nI_ok (by omega) (by omega)), tq_nI_cl (by omega)]
        by_cases z : f i = 0
        · rw [if_neg (fun w => w z)]
          exact go 1 (.inr rfl) ⟨fun _ => ⟨v1, fun _ => z⟩, fun _ => rfl⟩
        · rw [if_pos z]
          exact go 0 (.inl rfl) ⟨fun w => absurd w (by decide), fun w => absurd (w.2 (by omega)) z⟩
