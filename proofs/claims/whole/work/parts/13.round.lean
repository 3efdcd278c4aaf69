/-- V / 2^d to the nearest, of two the even one; mo: it lies above V by less than one -/
def tq_rnd (V d : Nat) (mo : Bool) : Nat := V / 2 ^ d + (if 2 ^ (d - 1) < V % 2 ^ d ∨ (V % 2 ^ d = 2 ^ (d - 1) ∧ (mo = true ∨ V / 2 ^ d % 2 = 1)) then 1 else 0)
theorem tq_ite_iff {a b : Prop} [Decidable a] [Decidable b] (h : a ↔ b) : (if a then 1 else 0 : Nat) = if b then 1 else 0 := by
  by_cases q : a
  · rw [if_pos q, if_pos (h.1 q)]
  · rw [if_neg q, if_neg (fun w => q (h.2 w))]
theorem tq_rnd_bit {W d b : Nat} (hd : 1 ≤ d) (hb : b ≤ 1) (mo : Bool) : tq_rnd (2 * W + b) (d + 1) mo = tq_rnd W d (mo || decide (b = 1)) := by
  unfold tq_rnd
  obtain ⟨k, rfl⟩ : ∃ k, d = k + 1 := ⟨d - 1, by omega⟩
  have e0 : k + 1 + 1 - 1 = k + 1 := by omega
  have e1 : k + 1 - 1 = k := by omega
  rw [e0, e1]
  have p := Nat.two_pow_pos k
  have e2 : 2 ^ (k + 1 + 1) = 2 * 2 ^ (k + 1) := by rw [Nat.pow_succ (n := 2) (m := k + 1), Nat.mul_comm]
  have e3 : 2 ^ (k + 1) = 2 * 2 ^ k := by rw [Nat.pow_succ, Nat.mul_comm]
  have q := Nat.two_pow_pos (k + 1)
  have hq : (2 * W + b) / 2 ^ (k + 1 + 1) = W / 2 ^ (k + 1) := by
    rw [e2, ← Nat.div_div_eq_div_mul]; congr 1; omega
  have hm : (2 * W + b) % 2 ^ (k + 1 + 1) = 2 * (W % 2 ^ (k + 1)) + b := by
    have h1 := Nat.div_add_mod (2 * W + b) (2 ^ (k + 1 + 1))
    rw [hq, e2] at h1
    have h2 := Nat.div_add_mod W (2 ^ (k + 1))
    rw [Nat.mul_assoc] at h1
    rw [e2]
    omega
  rw [hq, hm]
  generalize W / 2 ^ (k + 1) = Q at *
  generalize W % 2 ^ (k + 1) = w at *
  rw [e3]
  congr 1
  have hbb : (b = 0 ∨ b = 1) := by omega
  have e : (2 * 2 ^ k < 2 * w + b ∨ 2 * w + b = 2 * 2 ^ k ∧ (mo = true ∨ Q % 2 = 1)) ↔ (2 ^ k < w ∨ w = 2 ^ k ∧ ((mo || decide (b = 1)) = true ∨ Q % 2 = 1)) := by
    clear hq hm e2 e3 e0 e1
    generalize 2 ^ k = K at *
    rcases hbb with rfl | rfl <;> cases mo <;> simp <;> omega
  exact tq_ite_iff e
theorem tq_posPat_b200 {v : Int32} {u : Nat} (hv : v.toInt = u) (hu : u + 1 < 2 ^ 31) {t : Int32} {b : Prop} [Decidable b] (ht : t = if b then 1 else 0) : (f_positivePattern_b200 v t).toInt = ((u + (if b then 1 else 0) : Nat) : Int) := by
  unfold f_positivePattern_b200
  by_cases h : b
  · rw [if_pos h] at ht ⊢; subst ht
    rw [if_neg (by decide)]
    have c1 : ((1 : Int32)).toInt = 1 := rfl
    rw [tq_i32_add (by rw [hv, c1]; omega), hv, c1]; omega
  · rw [if_neg h] at ht ⊢; subst ht
    rw [if_pos rfl, hv]; omega
theorem tq_posPat_b175 {v : Int32} {u : Nat} (hv : v.toInt = u) (hu : u + 1 < 2 ^ 31) {half above : Int32} {h a : Bool} (hh : half = if h then 1 else 0) (ha : above = if a then 1 else 0) :
    (f_positivePattern_b175 v half above).toInt = ((u + (if h = true ∧ (a = true ∨ u % 2 = 1) then 1 else 0) : Nat) : Int) := by
  unfold f_positivePattern_b175
  have hu1 : ((v &&& 1) = 1) ↔ u % 2 = 1 := by
    have e : tq_u32 (v &&& 1) = u % 2 := by
      rw [tq_u32_and, tq_u32_of_i hv]; have : tq_u32 (1 : Int32) = 1 := rfl
      rw [this, Nat.and_one_is_mod]
    constructor
    · intro q; rw [q] at e; have : tq_u32 (1 : Int32) = 1 := rfl; omega
    · intro q; apply tq_u32_inj; rw [e, q]; rfl
  cases h
  · rw [if_neg (by decide)] at hh; subst hh
    rw [if_pos rfl]; exact tq_posPat_b200 hv hu (by rw [if_neg (by simp)])
  · rw [if_pos rfl] at hh; subst hh
    rw [if_neg (by decide)]
    cases a
    · rw [if_neg (by decide)] at ha; subst ha
      rw [if_neg (by decide)]
      by_cases q : (v &&& 1) = 1
      · rw [if_neg (by simpa using q)]
        exact tq_posPat_b200 hv hu (by rw [if_pos ⟨rfl, .inr (hu1.1 q)⟩])
      · rw [if_pos q]
        have nn : ¬ (true = true ∧ (false = true ∨ u % 2 = 1)) := by
          rintro ⟨_, w⟩
          rcases w with w | w
          · cases w
          · exact q (hu1.2 w)
        exact tq_posPat_b200 hv hu (by rw [if_neg nn])
    · rw [if_pos rfl] at ha; subst ha
      rw [if_pos (by decide)]
      exact tq_posPat_b200 hv hu (by rw [if_pos ⟨rfl, .inl rfl⟩])
theorem tq_posPat_b154 {v : Int32} {u : Nat} (hv : v.toInt = u) (hu : u + 1 < 2 ^ 31) {rest : Int64} {beh half : Int32} {h b : Bool} (hh : half = if h then 1 else 0) (hb : beh = if b then 1 else 0) :
    (f_positivePattern_b154 beh v rest half).toInt = ((u + (if h = true ∧ ((tq_u64 rest * 2 % 2 ^ 64 ≠ 0 ∨ b = true) ∨ u % 2 = 1) then 1 else 0) : Nat) : Int) := by
  unfold f_positivePattern_b154
  have hs := tq_u64_shl (x := rest) (y := 1) (k := 1) rfl (by omega)
  have z : tq_u64 (0 : Int64) = 0 := rfl
  have fin : ∀ (above : Int32) (a : Bool), (above = if a then 1 else 0) → (a = true ↔ (tq_u64 rest * 2 % 2 ^ 64 ≠ 0 ∨ b = true)) → (f_positivePattern_b175 v half above).toInt = ((u + (if h = true ∧ ((tq_u64 rest * 2 % 2 ^ 64 ≠ 0 ∨ b = true) ∨ u % 2 = 1) then 1 else 0) : Nat) : Int) := by
    intro above a ha hiff
    rw [tq_posPat_b175 hv hu hh ha]
    simp only [hiff]
  by_cases q : lg_cmp (rest <<< ((1 : Int32).toInt64 &&& 63)) 0 = 0
  · rw [if_neg (by simpa using q)]
    rw [tq_cmp_eq] at q
    have q2 : tq_u64 rest * 2 % 2 ^ 64 = 0 := by have := hs; rw [q, z] at this; omega
    cases b
    · rw [if_neg (by decide)] at hb; subst hb
      rw [if_pos rfl]; exact fin 0 false rfl (by simp [q2])
    · rw [if_pos rfl] at hb; subst hb
      rw [if_neg (by decide)]; exact fin 1 true rfl (by simp)
  · rw [if_pos q]
    rw [tq_cmp_eq] at q
    have q2 : tq_u64 rest * 2 % 2 ^ 64 ≠ 0 := fun e => q (tq_u64_inj (by rw [hs, z]; omega))
    exact fin 1 true rfl (by simp [q2])
theorem tq_div_mod_sh {W m a : Nat} (ha : a ≤ m) : W * 2 ^ a / 2 ^ m = W / 2 ^ (m - a) ∧ W * 2 ^ a % 2 ^ m = W % 2 ^ (m - a) * 2 ^ a := by
  have e : 2 ^ m = 2 ^ (m - a) * 2 ^ a := by rw [← Nat.pow_add, show m - a + a = m by omega]
  have p := Nat.two_pow_pos a
  rw [e]
  exact ⟨Nat.mul_div_mul_right _ _ p, Nat.mul_mod_mul_right _ _ _⟩
theorem tq_posPat_b106 {size : Int32} {n : Nat} (h : tq_Sz size n) {v7 v8 : Int32} {l run : Nat} (h7 : v7.toInt = l) (hl : l ≤ n - 1) (hl2 : 2 ≤ l) (h8 : v8.toInt = run) (hrun : run + 2 ≤ 2 ^ l) (tail : Int64) {beh : Int32} {b : Bool} (hb : beh = if b then 1 else 0) :
    (f_positivePattern_b106 size v7 v8 tail beh).toInt = tq_rnd (run * 2 ^ 64 + tq_u64 tail) (64 - (n - 1 - l)) b := by
  unfold f_positivePattern_b106
  rw [tq_nm_e]
  obtain ⟨h1, h2⟩ := h
  have c1 : ((1 : Int32)).toInt = 1 := rfl
  have c63 : ((63 : Int32)).toInt = 63 := rfl
  have en1 : (size - 1).toInt = ((n - 1 : Nat) : Int) := by rw [tq_i32_sub (by rw [h1, c1]; omega), h1, c1]; omega
  have er : ((size - 1) - v7).toInt = ((n - 1 - l : Nat) : Int) := by rw [tq_i32_sub (by rw [en1, h7]; omega), en1, h7]; omega
  generalize (size - 1) - v7 = room at *
  have hrm : n - 1 - l ≤ 29 := by omega
  have hn31 : n - 1 - l + l ≤ 31 := by omega
  generalize n - 1 - l = R at *
  have e63 : ((63 : Int32) - room).toInt = ((63 - R : Nat) : Int) := by rw [tq_i32_sub (by rw [c63, er]; omega), c63, er]; omega
  rw [tq_nm_e, tq_nm_e]
  have ht := tq_u64_lt tail
  have hb1 := tq_u64_ushr (x := tail) (y := 1) (k := 1) rfl (by omega)
  have hb2 := tq_u64_ushr (x := (tail.toUInt64 >>> ((1 : Int32).toInt64.toUInt64 &&& Int64.toUInt64 63)).toInt64) e63 (by omega)
  have e1 : 1 + (63 - R) = 64 - R := by omega
  rw [hb1, Nat.div_div_eq_div_mul, ← Nat.pow_add, e1] at hb2
  generalize ((tail.toUInt64 >>> ((1 : Int32).toInt64.toUInt64 &&& Int64.toUInt64 63)).toInt64.toUInt64 >>> (((63 : Int32) - room).toInt64.toUInt64 &&& Int64.toUInt64 63)).toInt64 = hi at *
  have hsr := tq_u32_shl (x := v8) er (by omega)
  rw [tq_u32_of_i h8] at hsr
  have pR := Nat.two_pow_pos R
  have hp32 : 2 ^ l * 2 ^ R ≤ 2 ^ 31 := by rw [← Nat.pow_add]; exact Nat.pow_le_pow_right (by omega) (by omega)
  have hrun2 : run * 2 ^ R + 2 * 2 ^ R ≤ 2 ^ l * 2 ^ R := by rw [← Nat.add_mul]; exact Nat.mul_le_mul_right _ hrun
  have hhi : tq_u64 tail / 2 ^ (64 - R) < 2 ^ R := by
    rw [Nat.div_lt_iff_lt_mul (Nat.two_pow_pos _), ← Nat.pow_add, show R + (64 - R) = 64 by omega]; exact ht
  have hR29 : 2 ^ R ≤ 2 ^ 29 := Nat.pow_le_pow_right (by omega) (by omega)
  have hu : tq_u32 ((v8 <<< (room &&& 31)) ||| hi.toInt32) = run * 2 ^ R + tq_u64 tail / 2 ^ (64 - R) := by
    rw [tq_u32_or, tq_u32_of_64, hsr, hb2, Nat.mod_eq_of_lt (by omega), Nat.mod_eq_of_lt (by omega), Nat.mul_comm run, tq_or_add hhi]
  have hq : (run * 2 ^ 64 + tq_u64 tail) / 2 ^ (64 - R) = run * 2 ^ R + tq_u64 tail / 2 ^ (64 - R) := by
    have e : 2 ^ 64 = 2 ^ R * 2 ^ (64 - R) := by rw [← Nat.pow_add, show R + (64 - R) = 64 by omega]
    rw [e, ← Nat.mul_assoc, Nat.add_comm, Nat.add_mul_div_right _ _ (Nat.two_pow_pos _), Nat.add_comm]
  have hm : (run * 2 ^ 64 + tq_u64 tail) % 2 ^ (64 - R) = tq_u64 tail % 2 ^ (64 - R) := by
    have e : 2 ^ 64 = 2 ^ R * 2 ^ (64 - R) := by rw [← Nat.pow_add, show R + (64 - R) = 64 by omega]
    rw [e, ← Nat.mul_assoc, Nat.add_comm, Nat.add_mul_mod_self_right]
  have hrest := tq_u64_shl (x := tail) er (by omega)
  rw [(tq_div_mod_sh (W := tq_u64 tail) (show R ≤ 64 by omega)).2] at hrest
  generalize hw : tq_u64 tail % 2 ^ (64 - R) = w at *
  have hwl : w < 2 ^ (64 - R) := by rw [← hw]; exact Nat.mod_lt _ (Nat.two_pow_pos _)
  generalize (v8 <<< (room &&& 31)) ||| hi.toInt32 = uu at *
  generalize tail <<< (room.toInt64 &&& 63) = rest at *
  have hub : run * 2 ^ R + tq_u64 tail / 2 ^ (64 - R) + 1 < 2 ^ 31 := by omega
  have hui := tq_i32_of_u hu (by omega)
  unfold tq_rnd
  rw [hq, hm]
  generalize run * 2 ^ R + tq_u64 tail / 2 ^ (64 - R) = u at *
  have hri := tq_i64_u rest
  have c0 : ((0 : Int64)).toInt = 0 := rfl
  have e64 : 2 ^ (63 - R) * 2 ^ R = 2 ^ 63 := by rw [← Nat.pow_add, show 63 - R + R = 63 by omega]
  have e65 : 2 ^ (64 - R) = 2 * 2 ^ (63 - R) := by rw [show 64 - R = 63 - R + 1 by omega, Nat.pow_succ, Nat.mul_comm]
  have e66 : 64 - R - 1 = 63 - R := by omega
  rw [e66]
  have cmpw : (2 ^ 63 ≤ tq_u64 rest) ↔ 2 ^ (63 - R) ≤ w := by
    rw [hrest, ← e64]
    exact ⟨fun q => Nat.le_of_mul_le_mul_right q pR, fun q => Nat.mul_le_mul_right _ q⟩
  have cmpe : (tq_u64 rest = 2 ^ 63) ↔ w = 2 ^ (63 - R) := by
    rw [hrest, ← e64]
    exact ⟨fun q => Nat.eq_of_mul_eq_mul_right pR q, fun q => by rw [q]⟩
  have hrl := tq_u64_lt rest
  by_cases hz : 0 ≤ lg_cmp rest 0
  · rw [if_pos hz]
    rw [tq_cmp_ge, c0] at hz
    have : ¬ 2 ^ 63 ≤ tq_u64 rest := by split at hri <;> omega
    rw [tq_posPat_b154 hui hub (h := false) (by rw [if_neg (by decide)]) hb, if_neg (by simp), if_neg (by omega)]
  · rw [if_neg hz]
    rw [tq_cmp_ge, c0] at hz
    have hge : 2 ^ 63 ≤ tq_u64 rest := by split at hri <;> omega
    rw [tq_posPat_b154 hui hub (h := true) (by rw [if_pos rfl]) hb]
    have hge2 := cmpw.1 hge
    have e : (true = true ∧ ((tq_u64 rest * 2 % 2 ^ 64 ≠ 0 ∨ b = true) ∨ u % 2 = 1)) ↔ (2 ^ (63 - R) < w ∨ w = 2 ^ (63 - R) ∧ (b = true ∨ u % 2 = 1)) := by
      have e1 : tq_u64 rest * 2 % 2 ^ 64 = 0 ↔ tq_u64 rest = 2 ^ 63 := by omega
      rw [Ne, e1, cmpe]
      constructor
      · rintro ⟨_, q⟩
        by_cases ww : w = 2 ^ (63 - R)
        · right; refine ⟨ww, ?_⟩; rcases q with (q | q) | q
          · exact absurd ww q
          · exact .inl q
          · exact .inr q
        · left; omega
      · rintro (q | ⟨q, q2⟩)
        · exact ⟨rfl, .inl (.inl (by omega))⟩
        · rcases q2 with q2 | q2
          · exact ⟨rfl, .inl (.inr q2)⟩
          · exact ⟨rfl, .inr q2⟩
    rw [tq_ite_iff e]

def tq_rl (r : Int) : Nat := if 0 ≤ r then r.toNat + 2 else (-r).toNat + 1
def tq_rn (r : Int) : Nat := if 0 ≤ r then 2 ^ (r.toNat + 2) - 2 else 1
def tq_ppV (r : Int) (e sig : Nat) : Nat := tq_rn r * 2 ^ 65 + e * 2 ^ 63 + (sig - 2 ^ 63)
/-- the pattern, of n bits, nearest to a positive number between 2^s and 2^(s + 1) with the leading bits sig -/
def tq_pp (n : Nat) (s : Int) (sig : Nat) (mo : Bool) : Nat :=
  if 4 * (n : Int) - 8 ≤ s then 2 ^ (n - 1) - 1 else if s < -(4 * (n : Int) - 8) then 1 else tq_rnd (tq_ppV (s / 4) (s % 4).toNat sig) (65 - (n - 1 - tq_rl (s / 4))) mo
theorem tq_posPat_b69 {size : Int32} {n : Nat} (h : tq_Sz size n) {v7 v8 scale : Int32} {l run : Nat} {s : Int} (hs : scale.toInt = s) (h7 : v7.toInt = l) (hl : l ≤ n - 1) (hl2 : 2 ≤ l) (h8 : v8.toInt = run) (hrun : run + 2 ≤ 2 ^ l) {sig : Int64} (hsig : 2 ^ 63 ≤ tq_u64 sig) {more : Int32} {mo : Bool} (hm : more = if mo then 1 else 0) :
    (f_positivePattern_b69 size scale sig more v7 v8).toInt = tq_rnd (run * 2 ^ 65 + (s % 4).toNat * 2 ^ 63 + (tq_u64 sig - 2 ^ 63)) (65 - (n - 1 - l)) mo := by
  unfold f_positivePattern_b69
  rw [tq_nm_e]
  have hsl := tq_u64_lt sig
  have h3 : (scale &&& 3).toInt = (((s % 4).toNat : Nat) : Int) := by
    apply tq_i32_of_u
    · rw [tq_u32_and]
      have : tq_u32 (3 : Int32) = 2 ^ 2 - 1 := rfl
      rw [this, Nat.and_two_pow_sub_one_eq_mod]
      have := tq_u32_i scale
      omega
    · omega
  have he : (s % 4).toNat < 4 := by omega
  generalize (s % 4).toNat = e at *
  have hx : tq_u64 ((scale &&& 3).toInt64) = e := tq_u64_of_i (by rw [tq_i64_of_32]; exact h3)
  have h62 := tq_u64_shl (x := (scale &&& 3).toInt64) (y := 62) (k := 62) rfl (by omega)
  rw [hx] at h62
  have hmask : tq_u64 (sig &&& 9223372036854775807) = tq_u64 sig - 2 ^ 63 := by
    rw [tq_u64_and]
    have : tq_u64 (9223372036854775807 : Int64) = 2 ^ 63 - 1 := rfl
    rw [this, Nat.and_two_pow_sub_one_eq_mod]; omega
  have h1 := tq_u64_ushr (x := sig &&& 9223372036854775807) (y := 1) (k := 1) rfl (by omega)
  rw [hmask] at h1
  have htail : tq_u64 ((((scale &&& (3 : Int32)).toInt64) <<< ((62 : Int32).toInt64 &&& 63)) ||| (((sig &&& (9223372036854775807 : Int64)).toUInt64 >>> ((1 : Int32).toInt64.toUInt64 &&& Int64.toUInt64 63)).toInt64)) = e * 2 ^ 62 + (tq_u64 sig - 2 ^ 63) / 2 := by
    rw [tq_u64_or, h62, h1, Nat.mod_eq_of_lt (by omega), Nat.mul_comm, tq_or_add (by omega)]
  generalize (((scale &&& (3 : Int32)).toInt64) <<< ((62 : Int32).toInt64 &&& 63)) ||| (((sig &&& (9223372036854775807 : Int64)).toUInt64 >>> ((1 : Int32).toInt64.toUInt64 &&& Int64.toUInt64 63)).toInt64) = tail at *
  have hodd : (sig &&& 1 = 0) ↔ tq_u64 sig % 2 = 0 := by
    have e : tq_u64 (sig &&& 1) = tq_u64 sig % 2 := by
      rw [tq_u64_and]; have : tq_u64 (1 : Int64) = 1 := rfl
      rw [this, Nat.and_one_is_mod]
    constructor
    · intro q; rw [q] at e; have : tq_u64 (0 : Int64) = 0 := rfl; omega
    · intro q; apply tq_u64_inj; rw [e, q]; rfl
  have hV : run * 2 ^ 65 + e * 2 ^ 63 + (tq_u64 sig - 2 ^ 63) = 2 * (run * 2 ^ 64 + tq_u64 tail) + tq_u64 sig % 2 := by
    rw [htail]; omega
  have hR : n - 1 - l ≤ 29 := by have := h.2; omega
  have ed : 65 - (n - 1 - l) = 64 - (n - 1 - l) + 1 := by omega
  rw [hV, ed, tq_rnd_bit (by omega) (by omega)]
  cases mo
  · rw [if_neg (by decide)] at hm; subst hm
    rw [if_neg (by decide)]
    by_cases q : lg_cmp (sig &&& 1) 0 = 0
    · rw [if_pos q]
      rw [tq_cmp_eq, hodd] at q
      have eb : (false || decide (tq_u64 sig % 2 = 1)) = false := by simp [q]
      rw [eb, tq_posPat_b106 h h7 hl hl2 h8 hrun tail (b := false) (by rw [if_neg (by decide)])]
    · rw [if_neg q]
      rw [tq_cmp_eq, hodd] at q
      have eb : (false || decide (tq_u64 sig % 2 = 1)) = true := by
        rw [Bool.false_or, decide_eq_true_iff]; omega
      rw [eb, tq_posPat_b106 h h7 hl hl2 h8 hrun tail (b := true) (by rw [if_pos rfl])]
  · rw [if_pos rfl] at hm; subst hm
    rw [if_pos (by decide)]
    rw [Bool.true_or, tq_posPat_b106 h h7 hl hl2 h8 hrun tail (b := true) (by rw [if_pos rfl])]
theorem tq_posPat_spec {size : Int32} {n : Nat} (h : tq_Sz size n) {scale : Int32} {s : Int} (hs : scale.toInt = s) {sig : Int64} (hsig : 2 ^ 63 ≤ tq_u64 sig) {more : Int32} {mo : Bool} (hm : more = if mo then 1 else 0) :
    (f_positivePattern size scale sig more).toInt = tq_pp n s (tq_u64 sig) mo := by
  unfold f_positivePattern
  rw [tq_nm_e]
  have c4 : ((4 : Int32)).toInt = 4 := rfl
  have c8 : ((8 : Int32)).toInt = 8 := rfl
  have c1 : ((1 : Int32)).toInt = 1 := rfl
  have c2 : ((2 : Int32)).toInt = 2 := rfl
  have c0 : ((0 : Int32)).toInt = 0 := rfl
  have hh := h
  obtain ⟨h1, h2⟩ := hh
  have e4 : ((4 : Int32) * size).toInt = 4 * n := by rw [tq_i32_mul (by rw [c4, h1]; omega), c4, h1]
  have eL : ((4 : Int32) * size - 8).toInt = 4 * n - 8 := by rw [tq_i32_sub (by rw [e4, c8]; omega), e4, c8]
  generalize (4 : Int32) * size - 8 = L at *
  have eN : (-L).toInt = -(4 * n - 8) := by rw [tq_i32_neg (by rw [eL]; omega), eL]
  unfold tq_pp
  by_cases q1 : scale < L
  · rw [if_pos q1]; rw [Int32.lt_iff_toInt_lt, hs, eL] at q1
    rw [if_neg (show ¬ (4 * (n : Int) - 8 ≤ s) by omega)]
    by_cases q2 : -L ≤ scale
    · rw [if_pos q2]; rw [Int32.le_iff_toInt_le, hs, eN] at q2
      rw [if_neg (show ¬ (s < -(4 * (n : Int) - 8)) by omega), tq_nm_e]
      have hr : (scale >>> ((2 : Int32) &&& 31)).toInt = s / 4 := by rw [tq_i32_shr (k := 2) rfl (by omega), hs]; rfl
      generalize scale >>> ((2 : Int32) &&& 31) = r at *
      unfold tq_ppV f_positivePattern_b52
      by_cases q3 : r < 0
      · rw [if_pos q3, if_pos q3]; rw [Int32.lt_iff_toInt_lt, hr, c0] at q3
        have el : ((1 : Int32) - r).toInt = ((tq_rl (s / 4) : Nat) : Int) := by
          unfold tq_rl; rw [if_neg (by omega), tq_i32_sub (by rw [c1, hr]; omega), c1, hr]; omega
        have er : tq_rn (s / 4) = 1 := by unfold tq_rn; rw [if_neg (by omega)]
        have el2 : tq_rl (s / 4) = (-(s / 4)).toNat + 1 := by unfold tq_rl; rw [if_neg (by omega)]
        rw [tq_posPat_b69 h hs el (by omega) (by omega) (run := 1) rfl ?_ hsig hm, er]
        have := Nat.pow_le_pow_right (n := 2) (by omega) (show 2 ≤ tq_rl (s / 4) by omega)
        omega
      · rw [if_neg q3, if_neg q3]; rw [Int32.lt_iff_toInt_lt, hr, c0] at q3
        have el : (r + 2).toInt = ((tq_rl (s / 4) : Nat) : Int) := by
          unfold tq_rl; rw [if_pos (by omega), tq_i32_add (by rw [c2, hr]; omega), c2, hr]; omega
        have el2 : tq_rl (s / 4) = (s / 4).toNat + 2 := by unfold tq_rl; rw [if_pos (by omega)]
        have er : tq_rn (s / 4) = 2 ^ tq_rl (s / 4) - 2 := by unfold tq_rn; rw [if_pos (by omega), el2]
        have hl31 : tq_rl (s / 4) ≤ 31 := by omega
        have hp := Nat.pow_le_pow_right (n := 2) (by omega) hl31
        have hp2 := Nat.pow_le_pow_right (n := 2) (by omega) (show 2 ≤ tq_rl (s / 4) by omega)
        have hsh := tq_u32_shl (x := 1) el (by omega)
        have u1 : tq_u32 (1 : Int32) = 1 := rfl
        rw [u1, Nat.one_mul, Nat.mod_eq_of_lt (by omega)] at hsh
        have hrun : (((1 : Int32) <<< ((r + 2) &&& 31)) - 2).toInt = ((tq_rn (s / 4) : Nat) : Int) := by
          rw [er]
          have hiu := tq_i32_u ((1 : Int32) <<< ((r + 2) &&& 31))
          rw [hsh] at hiu
          rcases Nat.lt_or_ge (2 ^ tq_rl (s / 4)) (2 ^ 31) with w | w
          · rw [if_pos w] at hiu
            rw [tq_i32_sub (by rw [hiu, c2]; omega), hiu, c2]; omega
          · have w2 : 2 ^ tq_rl (s / 4) = 2 ^ 31 := by omega
            rw [if_neg (by omega), w2] at hiu
            rw [Int32.toInt_sub, hiu, c2, w2]; decide
        rw [tq_posPat_b69 h hs el (by omega) (by omega) hrun (by rw [er]; omega) hsig hm]
    · rw [if_neg q2]; rw [Int32.le_iff_toInt_le, hs, eN] at q2
      rw [if_pos (by omega)]; rfl
  · rw [if_neg q1]; rw [Int32.lt_iff_toInt_lt, hs, eL] at q1
    rw [if_pos (by omega)]
    have e := tq_of_i32 h1
    rcases h2 with rfl | rfl | rfl <;> subst e <;> decide
theorem tq_signed_spec {size : Int32} {n : Nat} (h : tq_Sz size n) {neg scale : Int32} {s : Int} (hs : scale.toInt = s) {sig : Int64} (hsig : 2 ^ 63 ≤ tq_u64 sig) {more : Int32} {mo ng : Bool} (hm : more = if mo then 1 else 0) (hn : neg = if ng then 1 else 0) :
    (f_signedPattern size neg scale sig more).toInt = if ng then -(tq_pp n s (tq_u64 sig) mo : Int) else tq_pp n s (tq_u64 sig) mo := by
  unfold f_signedPattern
  rw [tq_nm_e]
  have hp := tq_posPat_spec h hs hsig hm
  cases ng
  · rw [if_neg (by decide)] at hn; subst hn
    rw [if_pos rfl, if_neg (by decide)]; exact hp
  · rw [if_pos rfl] at hn; subst hn
    rw [if_neg (by decide), if_pos rfl, tq_i32_neg (by rw [hp]; omega), hp]
/-- magnitude * 2^exponent (and more) -/
theorem tq_rounded_spec {size : Int32} {n : Nat} (h : tq_Sz size n) {neg ex : Int32} {e : Int} (he : ex.toInt = e) (hb : -2 ^ 30 ≤ e ∧ e < 2 ^ 30) {mg : Int64} {M T : Nat} (hM : tq_u64 mg = M) (hT : 2 ^ T ≤ M ∧ M < 2 ^ (T + 1)) {more : Int32} {mo ng : Bool} (hm : more = if mo then 1 else 0) (hn : neg = if ng then 1 else 0) :
    (f_rounded size neg mg ex more).toInt = if ng then -(tq_pp n (e + T) (M * 2 ^ (63 - T)) mo : Int) else tq_pp n (e + T) (M * 2 ^ (63 - T)) mo := by
  unfold f_rounded
  have nz : mg ≠ 0 := by
    intro q; rw [q] at hM; have : tq_u64 (0 : Int64) = 0 := rfl
    have := Nat.two_pow_pos T; omega
  rw [if_pos (by rw [tq_cmp_eq]; exact nz), tq_nm_e]
  obtain ⟨t, a1, a2, a3, a4⟩ := tq_lnlz_spec nz
  rw [hM] at a3 a4
  have tT : t = T := by
    have w1 : t < T + 1 := by
      rcases Nat.lt_or_ge t (T + 1) with q | q
      · exact q
      · have := Nat.pow_le_pow_right (n := 2) (by omega) q; omega
    have w2 : T < t + 1 := by
      rcases Nat.lt_or_ge T (t + 1) with q | q
      · exact q
      · have := Nat.pow_le_pow_right (n := 2) (by omega) q; omega
    omega
  subst tT
  have c63 : ((63 : Int32)).toInt = 63 := rfl
  have e1 : (ex + 63).toInt = e + 63 := by rw [tq_i32_add (by rw [he, c63]; omega), he, c63]
  have e2 : (ex + 63 - f_lnlz mg).toInt = e + t := by rw [tq_i32_sub (by rw [e1, a2]; omega), e1, a2]; omega
  have a2' : (f_lnlz mg).toInt = ((63 - t : Nat) : Int) := by rw [a2]; omega
  have hsh := tq_u64_shl (x := mg) a2' (by omega)
  rw [hM] at hsh
  have e3 : 2 ^ t * 2 ^ (63 - t) = 2 ^ 63 := by rw [← Nat.pow_add, show t + (63 - t) = 63 by omega]
  have e4 : 2 ^ (t + 1) * 2 ^ (63 - t) = 2 ^ 64 := by rw [← Nat.pow_add, show t + 1 + (63 - t) = 64 by omega]
  have b1 := Nat.mul_le_mul_right (2 ^ (63 - t)) a3
  have b2 := Nat.mul_lt_mul_of_pos_right a4 (Nat.two_pow_pos (63 - t))
  rw [e3] at b1; rw [e4] at b2
  rw [Nat.mod_eq_of_lt b2] at hsh
  rw [tq_signed_spec h e2 (by rw [hsh]; exact b1) hm hn, hsh]
theorem tq_rounded_zero (size neg ex more : Int32) : f_rounded size neg 0 ex more = 0 := by
  unfold f_rounded; rw [if_neg (by decide)]
