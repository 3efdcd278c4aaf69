theorem tq_sigA_rng {A : Nat} (hA : A ≠ 0) : 2 ^ 63 ≤ tq_sigA A ∧ tq_sigA A < 2 ^ 64 := by
  obtain ⟨h1, h2⟩ := tq_log2_bd hA
  unfold tq_sigA
  generalize Nat.log2 A = T at *
  split
  · rename_i h
    rw [Nat.le_div_iff_mul_le (Nat.two_pow_pos _), Nat.div_lt_iff_lt_mul (Nat.two_pow_pos _), ← Nat.pow_add, ← Nat.pow_add, show 63 + (T - 63) = T by omega, show 64 + (T - 63) = T + 1 by omega]
    exact ⟨h1, h2⟩
  · rename_i h
    have b1 := Nat.mul_le_mul_right (2 ^ (63 - T)) h1
    have b2 := Nat.mul_lt_mul_of_pos_right h2 (Nat.two_pow_pos (63 - T))
    rw [← Nat.pow_add, show T + (63 - T) = 63 by omega] at b1
    rw [← Nat.pow_add, show T + 1 + (63 - T) = 64 by omega] at b2
    exact ⟨b1, b2⟩
theorem tq_cmp_dy {E F A k1 k2 : Nat} (hF : 0 < F) (h : E * 2 ^ k1 = A * F * 2 ^ k2) (x : Nat) : (tq_cC E F false x ↔ x * 2 ^ k1 ≤ A * 2 ^ (k2 + 32)) ∧ (tq_cD E F false x ↔ x * 2 ^ k1 = A * 2 ^ (k2 + 32)) := by
  unfold tq_cC tq_cD
  rw [if_neg (by decide), if_neg (by decide)]
  have p := Nat.two_pow_pos k1
  have e1 : E * 2 ^ 32 * 2 ^ k1 = A * 2 ^ (k2 + 32) * F := by
    rw [Nat.mul_right_comm, h, Nat.pow_add]; ac_rfl
  have e2 : x * F * 2 ^ k1 = x * 2 ^ k1 * F := Nat.mul_right_comm _ _ _
  constructor
  · constructor
    · intro w
      have := Nat.mul_le_mul_right (2 ^ k1) w
      rw [e1, e2] at this
      exact Nat.le_of_mul_le_mul_right this hF
    · intro w
      have := Nat.mul_le_mul_right F w
      rw [← e1, ← e2] at this
      exact Nat.le_of_mul_le_mul_right this p
  · constructor
    · intro w
      have := congrArg (· * 2 ^ k1) w
      simp only [e1, e2] at this
      exact Nat.eq_of_mul_eq_mul_right hF this
    · intro w
      have := congrArg (· * F) w
      simp only [← e1, ← e2] at this
      exact Nat.eq_of_mul_eq_mul_right p this
/-- A * 2^e, with its leading bits -/
theorem tq_lead_dy {n : Nat} (hn : n = 8 ∨ n = 16 ∨ n = 32) {E F A k1 k2 : Nat} (hA : A ≠ 0) (hF : 0 < F) {e : Int} (hk : (k2 : Int) - k1 = e + 124) (h : E * 2 ^ k1 = A * F * 2 ^ k2) : tq_LeadX n (tq_cC E F false) (tq_cD E F false) (e + (Nat.log2 A : Nat)) (tq_sigA A) (tq_moA A) := by
  have hc := tq_cmp_dy hF h
  obtain ⟨g1, g2⟩ := tq_log2_bd hA
  have hs := fun c => tq_sigA_le (A := A) (c := c) rfl
  have hr := tq_sigA_rng hA
  generalize hT : Nat.log2 A = T at *
  refine ⟨fun q1 q2 => ⟨hr.1, hr.2, fun c x c1 c2 hx => ?_, ?_⟩, fun q => ?_, fun q => ?_⟩
  · rw [(hc x).1, (hc x).2, (hs c).1, (hs c).2]
    have p28 : 0 < 2 ^ 28 := by decide
    have pk := Nat.two_pow_pos (k2 + 32)
    have e3 : x * 2 ^ k1 * 2 ^ 28 = c * 2 ^ T * 2 ^ (k2 + 32) := by
      rw [Nat.mul_right_comm, hx, Nat.mul_assoc, Nat.mul_assoc, ← Nat.pow_add, ← Nat.pow_add]
      congr 2; omega
    have e4 : A * 2 ^ (k2 + 32) * 2 ^ 28 = A * 2 ^ 28 * 2 ^ (k2 + 32) := Nat.mul_right_comm _ _ _
    constructor
    · constructor
      · intro w
        have := Nat.mul_le_mul_right (2 ^ 28) w
        rw [e3, e4] at this
        exact Nat.le_of_mul_le_mul_right this pk
      · intro w
        have := Nat.mul_le_mul_right (2 ^ (k2 + 32)) w
        rw [← e3, ← e4] at this
        exact Nat.le_of_mul_le_mul_right this p28
    · constructor
      · intro w
        have := congrArg (· * 2 ^ 28) w
        simp only [e3, e4] at this
        exact Nat.eq_of_mul_eq_mul_right pk this
      · intro w
        have := congrArg (· * 2 ^ (k2 + 32)) w
        simp only [← e3, ← e4] at this
        exact Nat.eq_of_mul_eq_mul_right p28 this
  · rw [(hc _).1, ← Nat.pow_add]
    intro w
    have e5 : (e + (T : Int) + 157).toNat + k1 = T + 1 + (k2 + 32) := by omega
    rw [e5, Nat.pow_add] at w
    have := Nat.le_of_mul_le_mul_right w (Nat.two_pow_pos (k2 + 32))
    omega
  · rw [(hc _).1, ← Nat.pow_add]
    refine Nat.le_trans ?_ (Nat.mul_le_mul_right _ g1)
    rw [← Nat.pow_add]
    exact Nat.pow_le_pow_right (by omega) (by omega)
  · rw [(hc _).1, ← Nat.pow_add]
    intro w
    have := Nat.lt_of_le_of_lt w (Nat.mul_lt_mul_of_pos_right g2 (Nat.two_pow_pos (k2 + 32)))
    rw [← Nat.pow_add] at this
    have := (Nat.pow_lt_pow_iff_right (show 1 < 2 by omega)).1 this
    omega
theorem tq_rS_sig {n A : Nat} (hA : A ≠ 0) : tq_rS n A = tq_pp n (-(8 * (n : Int) - 16) + (Nat.log2 A : Nat)) (tq_sigA A) (tq_moA A) := by
  unfold tq_rS tq_sigA tq_moA
  rw [if_neg hA]
  congr 1; omega
theorem tq_rM_sig {n M : Nat} (hM : M ≠ 0) (h64 : M < 2 ^ 64) (e : Int) : tq_rM n M e false = tq_pp n (e + (Nat.log2 M : Nat)) (tq_sigA M) (tq_moA M) := by
  unfold tq_rM tq_sigA tq_moA
  rw [if_neg hM]
  have hl : Nat.log2 M < 64 := (Nat.log2_lt hM).2 h64
  by_cases h : 63 ≤ Nat.log2 M
  · have e63 : Nat.log2 M = 63 := by omega
    rw [if_pos h, e63, decide_eq_false (by simp [Nat.mod_one])]
    simp
  · rw [if_neg h, decide_eq_false (fun z => h z.1)]
/-- E / F is A * 2^(16 - 8 n): the reference answers as the class's tq_rS -/
theorem tq_ref_S {size : Int32} {n : Nat} (hz : tq_Sz size n) (mi : Int32) {f : Nat → Int32} (hw : tq_WL 200 f) {E F A k1 k2 : Nat} (hE : tq_rv f (40 * 0) 40 = E) (hF : tq_rv f (40 * 4) 40 = F) (hF0 : 0 < F) (hFb : F ≤ 2 ^ 390) (hk : (k2 : Int) - k1 = 140 - 8 * n) (h : E * 2 ^ k1 = A * F * 2 ^ k2) :
    ∃ r g, m_rounded 0 f mi size = some (r, g) ∧ tq_WL 200 g ∧ r.toInt = if mi = 0 then (tq_rS n A : Int) else -(tq_rS n A : Int) := by
  by_cases hA : A = 0
  · have hE0 : E = 0 := by
      rw [hA, Nat.zero_mul, Nat.zero_mul] at h
      exact (Nat.mul_eq_zero.1 h).resolve_right (Nat.ne_of_gt (Nat.two_pow_pos _))
    refine ⟨0, f, tq_ref_zero mi size hw (by rw [hE, hE0]), hw, ?_⟩
    have : tq_rS n A = 0 := by unfold tq_rS; rw [if_pos hA]
    rw [this]; split <;> rfl
  · have hE0 : E ≠ 0 := by
      intro w
      rw [w, Nat.zero_mul] at h
      have := Nat.mul_pos (Nat.mul_pos (Nat.pos_of_ne_zero hA) hF0) (Nat.two_pow_pos k2)
      omega
    rw [tq_rS_sig hA]
    exact tq_ref_round (.inl ⟨rfl, rfl⟩) hE0 (fun _ => hFb) (fun _ => hF0) hz mi hw hE hF (tq_lead_dy hz.2 hA hF0 (e := -(8 * (n : Int) - 16)) (by omega) h)
theorem tq_ref_M {size : Int32} {n : Nat} (hz : tq_Sz size n) (mi : Int32) {f : Nat → Int32} (hw : tq_WL 200 f) {E F A k1 k2 : Nat} {e : Int} (hE : tq_rv f (40 * 0) 40 = E) (hF : tq_rv f (40 * 4) 40 = F) (hF0 : 0 < F) (hFb : F ≤ 2 ^ 390) (h64 : A < 2 ^ 64) (hk : (k2 : Int) - k1 = e + 124) (h : E * 2 ^ k1 = A * F * 2 ^ k2) :
    ∃ r g, m_rounded 0 f mi size = some (r, g) ∧ tq_WL 200 g ∧ r.toInt = if mi = 0 then (tq_rM n A e false : Int) else -(tq_rM n A e false : Int) := by
  by_cases hA : A = 0
  · have hE0 : E = 0 := by
      rw [hA, Nat.zero_mul, Nat.zero_mul] at h
      exact (Nat.mul_eq_zero.1 h).resolve_right (Nat.ne_of_gt (Nat.two_pow_pos _))
    refine ⟨0, f, tq_ref_zero mi size hw (by rw [hE, hE0]), hw, ?_⟩
    have : tq_rM n A e false = 0 := by unfold tq_rM; rw [if_pos hA]
    rw [this]; split <;> rfl
  · have hE0 : E ≠ 0 := by
      intro w
      rw [w, Nat.zero_mul] at h
      have := Nat.mul_pos (Nat.mul_pos (Nat.pos_of_ne_zero hA) hF0) (Nat.two_pow_pos k2)
      omega
    rw [tq_rM_sig hA h64]
    exact tq_ref_round (.inl ⟨rfl, rfl⟩) hE0 (fun _ => hFb) (fun _ => hF0) hz mi hw hE hF (tq_lead_dy hz.2 hA hF0 hk h)
