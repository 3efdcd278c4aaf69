def tq_dnL (f : Nat → Int32) (r far k : Nat) : Int32 := if 40 ≤ k + far then 0 else f (40 * r + (k + far))
def tq_dnH (f : Nat → Int32) (r far k : Nat) : Int32 := if 40 ≤ k + far + 1 then 0 else f (40 * r + (k + far + 1))
theorem tq_ixa (m k : Nat) : nI m + nI k = nI (m + k) := by unfold nI; rw [← Int32.ofNat_add]
theorem tq_lower_loop {r : Nat} (hr : r ≤ 4) {f0 : Nat → Int32} (hw0 : tq_WL 200 f0) {far b : Nat} (hfar : far < 40) (hb : b < 16) : ∀ n i (f : Nat → Int32), i ≤ 40 → 40 < n + i → tq_WL 200 f → tq_Fr r f0 f → (∀ k, i ≤ k → k < 40 → f (40 * r + k) = f0 (40 * r + k)) →
    (∀ k, k < i → f (40 * r + k) = (((tq_dnL f0 r far k >>> (nI b &&& 31)) ||| (tq_dnH f0 r far k <<< (((16 : Int32) - nI b) &&& 31))) &&& 65535)) →
    ∃ g, m_lower_b14 (nI r) n (nI far) (nI b) (nI i) f = some g ∧ tq_WL 200 g ∧ tq_Fr r f0 g ∧ (∀ k, k < 40 → g (40 * r + k) = (((tq_dnL f0 r far k >>> (nI b &&& 31)) ||| (tq_dnH f0 r far k <<< (((16 : Int32) - nI b) &&& 31))) &&& 65535)) := by
  intro n
  induction n with
  | zero => intro i f h1 h2 hw hf hk hs; omega
  | succ m ih =>
    intro i f h1 h2 hw hf hk hs
    unfold m_lower_b14
    show ∃ g, (if nI 40 ≤ nI i then some f else _) = some g ∧ _
    by_cases h : 40 ≤ i
    · rw [if_pos ((tq_nI_le (by omega) (by omega)).2 h)]
      exact ⟨f, rfl, hw, hf, fun k hk2 => hs k (by omega)⟩
    · rw [if_neg (fun q => h ((tq_nI_le (by omega) (by omega)).1 q)), tq_ix40, tq_ixa, tq_ixa]
      have last : ∀ hi : Int32, hi = tq_dnH f0 r far i → ∃ g, m_lower_b81 (nI r) (m_lower_b14 (nI r) m) (nI far) (nI b) (nI i) (tq_dnL f0 r far i) hi f = some g ∧ tq_WL 200 g ∧ tq_Fr r f0 g ∧ (∀ k, k < 40 → g (40 * r + k) = (((tq_dnL f0 r far k >>> (nI b &&& 31)) ||| (tq_dnH f0 r far k <<< (((16 : Int32) - nI b) &&& 31))) &&& 65535)) := by
        intro hi hhi
        subst hhi
        unfold m_lower_b81
        rw [tq_ix40, if_neg (tq_ixok hr (by omega)), tq_ixcl hr (by omega), tq_nI_add]
        apply ih (i + 1) _ (by omega) (by omega)
        · exact tq_WL_upd16 hw _
        · intro x hx; rw [tq_upI_ne (by omega)]; exact hf x hx
        · intro k h3 h4; rw [tq_upI_ne (by omega)]; exact hk k (by omega) h4
        · intro k h3
          rcases Nat.lt_or_ge k i with q | q
          · rw [tq_upI_ne (by omega)]; exact hs k q
          · have : k = i := by omega
            subst this; rw [tq_upI_at]
      have mid : ∀ lo : Int32, lo = tq_dnL f0 r far i → ∃ g, m_lower_b48 (nI r) (m_lower_b14 (nI r) m) (nI far) (nI b) (nI i) lo f = some g ∧ tq_WL 200 g ∧ tq_Fr r f0 g ∧ (∀ k, k < 40 → g (40 * r + k) = (((tq_dnL f0 r far k >>> (nI b &&& 31)) ||| (tq_dnH f0 r far k <<< (((16 : Int32) - nI b) &&& 31))) &&& 65535)) := by
        intro lo hlo
        subst hlo
        unfold m_lower_b48
        rw [tq_ix40, tq_ixa, tq_ixa, tq_nI_add, tq_nI_add]
        show ∃ g, (if nI 40 ≤ nI (i + far + 1) then _ else _) = some g ∧ _
        by_cases q : 40 ≤ i + far + 1
        · rw [if_pos ((tq_nI_le (by omega) (by omega)).2 q)]
          exact last 0 (by unfold tq_dnH; rw [if_pos q])
        · have e : 40 * r + i + far + 1 = 40 * r + (i + far + 1) := by omega
          rw [if_neg (fun w => q ((tq_nI_le (by omega) (by omega)).1 w)), e, if_neg (tq_ixok hr (by omega)), tq_ixcl hr (by omega)]
          exact last _ (by unfold tq_dnH; rw [if_neg q]; exact hk _ (by omega) (by omega))
      show ∃ g, (if nI 40 ≤ nI (i + far) then _ else _) = some g ∧ _
      by_cases q : 40 ≤ i + far
      · rw [if_pos ((tq_nI_le (by omega) (by omega)).2 q)]
        exact mid 0 (by unfold tq_dnL; rw [if_pos q])
      · have e : 40 * r + i + far = 40 * r + (i + far) := by omega
        rw [if_neg (fun w => q ((tq_nI_le (by omega) (by omega)).1 w)), e, if_neg (tq_ixok hr (by omega)), tq_ixcl hr (by omega)]
        exact mid _ (by unfold tq_dnL; rw [if_neg q]; exact hk _ (by omega) (by omega))
theorem tq_lower_spec {r : Nat} (hr : r ≤ 4) {f : Nat → Int32} (hw : tq_WL 200 f) {my : Int32} {k : Nat} (hk : my.toInt = k) (hk2 : k < 640) : ∃ g, m_lower f (nI r) my = some g ∧ tq_WL 200 g ∧ tq_Fr r f g ∧ tq_rv g (40 * r) 40 = tq_rv f (40 * r) 40 / 2 ^ k := by
  unfold m_lower
  rw [tq_nm_e, tq_nm_e, tq_of_i32 (tq_rem16 hk), tq_of_i32 (tq_div16 hk)]
  obtain ⟨g, e, w, fr, h⟩ := tq_lower_loop hr hw (far := k / 16) (b := k % 16) (by omega) (by omega) 41 0 f (by omega) (by omega) hw (fun _ _ => rfl) (fun _ _ _ => rfl) (fun j h3 => by omega)
  refine ⟨g, e, w, fr, ?_⟩
  have wl0 : ∀ j, j < 40 → tq_lim (f (40 * r + j)) < 65536 := fun j hj => tq_lim_lt hw (by omega)
  have wlg : ∀ j, j < 40 → tq_lim (g (40 * r + j)) < 65536 := fun j hj => tq_lim_lt w (by omega)
  have hl : tq_rv g (40 * r) 40 < 2 ^ 640 := tq_rv_lt (k := 40) wlg
  have hl0 : tq_rv f (40 * r) 40 < 2 ^ 640 := tq_rv_lt (k := 40) wl0
  apply tq_bits_ext hl (Nat.lt_of_le_of_lt (Nat.div_le_self _ _) hl0)
  intro j t hj ht
  have hH : 0 ≤ (tq_dnH f r (k / 16) j).toInt ∧ (tq_dnH f r (k / 16) j).toInt < 65536 := by
    unfold tq_dnH; split
    · decide
    · exact hw _ (by omega)
  have hL : 0 ≤ (tq_dnL f r (k / 16) j).toInt ∧ (tq_dnL f r (k / 16) j).toInt < 65536 := by
    unfold tq_dnL; split
    · decide
    · exact hw _ (by omega)
  rw [tq_rv_bit wlg hj ht, h j hj, tq_mix_dn hL hH (b := k % 16) (by omega) (tq_nI_i (by omega)) ht, ← Nat.shiftRight_eq_div_pow, Nat.testBit_shiftRight]
  have tb0 : ∀ p, (tq_lim 0).testBit p = false := fun p => by rw [tq_lim_0]; exact Nat.zero_testBit p
  have big : ∀ p, 640 ≤ p → (tq_rv f (40 * r) 40).testBit p = false := fun p hp => Nat.testBit_lt_two_pow (Nat.lt_of_lt_of_le hl0 (Nat.pow_le_pow_right (by omega) hp))
  split
  · rename_i hb
    unfold tq_dnL
    split
    · rw [tb0, big _ (by omega)]
    · have := tq_rv_bit wl0 (j := j + k / 16) (t := t + k % 16) (by omega) (by omega)
      rw [← this]; congr 1; omega
  · rename_i hb
    unfold tq_dnH
    split
    · rw [tb0, big _ (by omega)]
    · have := tq_rv_bit wl0 (j := j + k / 16 + 1) (t := t + k % 16 - 16) (by omega) (by omega)
      rw [← this]; congr 1; omega
theorem tq_bit_spec {r : Nat} (hr : r ≤ 4) {f : Nat → Int32} (hw : tq_WL 200 f) {kx : Int32} {k : Nat} (hk : kx.toInt = k) (hk2 : k < 640) : ∃ v, m_bit f (nI r) kx = some v ∧ v = if (tq_rv f (40 * r) 40).testBit k then 1 else 0 := by
  unfold m_bit
  rw [tq_of_i32 (tq_rem16 hk), tq_of_i32 (tq_div16 hk), tq_ix40, if_neg (tq_ixok hr (by omega)), tq_ixcl hr (by omega)]
  refine ⟨_, rfl, ?_⟩
  have wl0 : ∀ j, j < 40 → tq_lim (f (40 * r + j)) < 65536 := fun j hj => tq_lim_lt hw (by omega)
  have hb := tq_rv_bit wl0 (j := k / 16) (t := k % 16) (by omega) (by omega)
  rw [show 16 * (k / 16) + k % 16 = k by omega] at hb
  rw [hb]
  have hx := hw (40 * r + k / 16) (by omega)
  generalize f (40 * r + k / 16) = x at *
  have hX : x.toInt = ((tq_lim x : Nat) : Int) := by rw [tq_lim_i hx.1]
  have u2 : tq_u32 (x >>> (nI (k % 16) &&& 31)) = tq_lim x / 2 ^ (k % 16) := by
    apply tq_u32_of_i
    rw [tq_i32_shr (tq_nI_i (by omega)) (by omega), hX]; norm_cast
  have u3 : tq_u32 ((x >>> (nI (k % 16) &&& 31)) &&& 1) = tq_lim x / 2 ^ (k % 16) % 2 := by
    rw [tq_u32_and, u2]
    have : tq_u32 (1 : Int32) = 1 := rfl
    rw [this, Nat.and_one_is_mod]
  apply tq_u32_inj
  rw [u3, Nat.testBit_eq_decide_div_mod_eq]
  have o1 : tq_u32 (1 : Int32) = 1 := rfl
  have o0 : tq_u32 (0 : Int32) = 0 := rfl
  split
  · rename_i h; rw [o1]; simpa using h
  · rename_i h; rw [o0]; have : ¬ (tq_lim x / 2 ^ (k % 16) % 2 = 1) := by simpa using h
    omega
theorem tq_setLong_loop {r : Nat} (hr : r ≤ 4) (v : Int64) {f0 : Nat → Int32} : ∀ n i (f : Nat → Int32), i ≤ 4 → 4 < n + i → tq_WL 200 f → tq_Fr r f0 f → (∀ k, i ≤ k → k < 40 → f (40 * r + k) = 0) → (∀ k, k < i → tq_lim (f (40 * r + k)) = tq_u64 v / 2 ^ (16 * k) % 65536) →
    ∃ g, m_setLong_b8 (nI r) v n (nI i) f = some g ∧ tq_WL 200 g ∧ tq_Fr r f0 g ∧ (∀ k, k < 4 → tq_lim (g (40 * r + k)) = tq_u64 v / 2 ^ (16 * k) % 65536) ∧ (∀ k, 4 ≤ k → k < 40 → g (40 * r + k) = 0) := by
  intro n
  induction n with
  | zero => intro i f h1 h2 hw hf hk hs; omega
  | succ m ih =>
    intro i f h1 h2 hw hf hk hs
    unfold m_setLong_b8
    show ∃ g, (if nI 4 ≤ nI i then some f else _) = some g ∧ _
    by_cases h : 4 ≤ i
    · rw [if_pos ((tq_nI_le (by omega) (by omega)).2 h)]
      exact ⟨f, rfl, hw, hf, fun k hk2 => hs k (by omega), fun k h3 h4 => hk k (by omega) h4⟩
    · rw [if_neg (fun q => h ((tq_nI_le (by omega) (by omega)).1 q)), tq_ix40, if_neg (tq_ixok hr (by omega)), tq_ixcl hr (by omega), tq_nI_add]
      have e16 : (16 : Int32) * nI i = nI (16 * i) := by
        show nI 16 * nI i = _
        unfold nI; rw [← Int32.ofNat_mul]
      have hsh : (v >>> ((nI (16 * i)).toInt64 &&& 63)).toInt = v.toInt / 2 ^ (16 * i) := tq_i64_shr (tq_nI_i (by omega)) (by omega)
      have hlim : (((v >>> ((nI (16 * i)).toInt64 &&& 63)) &&& 65535).toInt32).toInt = ((tq_u64 v / 2 ^ (16 * i) % 65536 : Nat) : Int) := by
        have h1 : tq_u64 ((v >>> ((nI (16 * i)).toInt64 &&& 63)) &&& 65535) = tq_u64 (v >>> ((nI (16 * i)).toInt64 &&& 63)) % 2 ^ 16 := by
          rw [tq_u64_and]
          have : tq_u64 (65535 : Int64) = 2 ^ 16 - 1 := rfl
          rw [this, Nat.and_two_pow_sub_one_eq_mod]
        apply tq_i32_of_u
        · rw [tq_u32_of_64, h1]
          have h2 := tq_u64_i (v >>> ((nI (16 * i)).toInt64 &&& 63))
          rw [hsh] at h2
          have h3 := tq_u64_i v
          have h4 := tq_i64_rng v
          have : i = 0 ∨ i = 1 ∨ i = 2 ∨ i = 3 := by omega
          rcases this with rfl | rfl | rfl | rfl <;> simp only [Nat.mul_zero, Nat.reduceMul, Nat.reducePow, Int.reducePow] at * <;> omega
        · omega
      rw [e16]
      apply ih (i + 1) _ (by omega) (by omega)
      · exact tq_WL_upd hw (by rw [hlim]; omega)
      · intro x hx; rw [tq_upI_ne (by omega)]; exact hf x hx
      · intro k h3 h4; rw [tq_upI_ne (by omega)]; exact hk k (by omega) h4
      · intro k h3
        rcases Nat.lt_or_ge k i with q | q
        · rw [tq_upI_ne (by omega)]; exact hs k q
        · have : k = i := by omega
          subst this; rw [tq_upI_at]; exact tq_lim_of hlim
theorem tq_setLong_spec {r : Nat} (hr : r ≤ 4) {f : Nat → Int32} (hw : tq_WL 200 f) (v : Int64) : ∃ g, m_setLong f (nI r) v = some g ∧ tq_WL 200 g ∧ tq_Fr r f g ∧ tq_rv g (40 * r) 40 = tq_u64 v := by
  unfold m_setLong
  obtain ⟨f1, e1, w1, fr1, z1⟩ := tq_zero_spec hr hw
  rw [tq_bd_e e1]
  obtain ⟨g, e, w, fr, h1, h2⟩ := tq_setLong_loop hr v (f0 := f) 41 0 f1 (by omega) (by omega) w1 fr1 (fun k _ hk => z1 k hk) (fun k hk => by omega)
  refine ⟨g, e, w, fr, ?_⟩
  have s := tq_rv_split (f := g) (b := 40 * r) (i := 4) 36
  rw [show 4 + 36 = 40 from rfl, tq_rv_zero (k := 36) (fun j hj => by rw [Nat.add_assoc]; exact h2 _ (by omega) (by omega)), Nat.mul_zero, Nat.add_zero] at s
  have r4 : tq_rv g (40 * r) 4 = tq_lim (g (40 * r + 0)) * 2 ^ 0 + tq_lim (g (40 * r + 1)) * 2 ^ 16 + tq_lim (g (40 * r + 2)) * 2 ^ 32 + tq_lim (g (40 * r + 3)) * 2 ^ 48 := by
    show 0 + _ + _ + _ + _ = _
    rw [Nat.zero_add]
  rw [s, r4, h1 0 (by omega), h1 1 (by omega), h1 2 (by omega), h1 3 (by omega)]
  have hl := tq_u64_lt v
  omega
