theorem tq_rv_bit {f : Nat → Int32} {b k j t : Nat} (hl : ∀ j, j < k → tq_lim (f (b + j)) < 65536) (hj : j < k) (ht : t < 16) : (tq_rv f b k).testBit (16 * j + t) = (tq_lim (f (b + j))).testBit t := by
  have s1 := tq_rv_split (f := f) (b := b) (i := j) (k - j)
  have e1 : j + (k - j) = k := by omega
  rw [e1] at s1
  have l1 : tq_rv f b j < 2 ^ (16 * j) := tq_rv_lt (fun i hi => hl i (by omega))
  rw [s1, Nat.add_comm, Nat.testBit_two_pow_mul_add _ l1, if_neg (by omega), Nat.add_sub_cancel_left]
  have s2 := tq_rv_split (f := f) (b := b + j) (i := 1) (k - j - 1)
  have e2 : 1 + (k - j - 1) = k - j := by omega
  rw [e2] at s2
  have e3 : tq_rv f (b + j) 1 = tq_lim (f (b + j)) := by
    show 0 + tq_lim (f (b + j + 0)) * 2 ^ (16 * 0) = _
    simp
  have h16 := hl j hj
  rw [s2, e3, Nat.add_comm, Nat.testBit_two_pow_mul_add _ (by omega), if_pos (by omega)]
theorem tq_bits_ext {X Y : Nat} (hX : X < 2 ^ 640) (hY : Y < 2 ^ 640) (h : ∀ j t, j < 40 → t < 16 → X.testBit (16 * j + t) = Y.testBit (16 * j + t)) : X = Y := by
  apply Nat.eq_of_testBit_eq
  intro p
  rcases Nat.lt_or_ge p 640 with q | q
  · have := h (p / 16) (p % 16) (by omega) (by omega)
    rw [show 16 * (p / 16) + p % 16 = p by omega] at this
    exact this
  · rw [Nat.testBit_lt_two_pow (Nat.lt_of_lt_of_le hX (Nat.pow_le_pow_right (by omega) q)), Nat.testBit_lt_two_pow (Nat.lt_of_lt_of_le hY (Nat.pow_le_pow_right (by omega) q))]
theorem tq_div16 {x : Int32} {k : Nat} (h : x.toInt = k) : (x / 16).toInt = ((k / 16 : Nat) : Int) := by
  have := tq_i32_rng x
  have c16 : ((16 : Int32)).toInt = 16 := rfl
  rw [Int32.toInt_div, h, c16]
  have e : ((k : Int)).tdiv 16 = ((k / 16 : Nat) : Int) := by
    show ((k : Int)).tdiv ((16 : Nat) : Int) = _
    rw [Int.ofNat_tdiv]
  rw [e]; exact tq_bmod_of (by omega)
theorem tq_rem16 {x : Int32} {k : Nat} (h : x.toInt = k) : (x - x / 16 * 16).toInt = ((k % 16 : Nat) : Int) := by
  have := tq_i32_rng x
  have c16 : ((16 : Int32)).toInt = 16 := rfl
  have d := tq_div16 h
  have e : (x / 16 * 16).toInt = ((k / 16 * 16 : Nat) : Int) := by rw [tq_i32_mul (by rw [d, c16]; omega), d, c16]; omega
  rw [tq_i32_sub (by rw [h, e]; omega), h, e]; omega
/-- two limbs, moved up by b bits: the upper one's low bits and the lower one's high bits -/
theorem tq_mix_up {x y : Int32} (hx : 0 ≤ x.toInt ∧ x.toInt < 65536) (hy : 0 ≤ y.toInt ∧ y.toInt < 65536) {v : Int32} {b : Nat} (hb : b < 16) (hv : v.toInt = b) {t : Nat} (ht : t < 16) :
    (tq_lim (((x <<< (v &&& 31)) ||| (y >>> (((16 : Int32) - v) &&& 31))) &&& 65535)).testBit t = if b ≤ t then (tq_lim x).testBit (t - b) else (tq_lim y).testBit (16 + t - b) := by
  have c16 : ((16 : Int32)).toInt = 16 := rfl
  have e16 : ((16 : Int32) - v).toInt = ((16 - b : Nat) : Int) := by rw [tq_i32_sub (by rw [c16, hv]; omega), c16, hv]; omega
  have hX : x.toInt = ((tq_lim x : Nat) : Int) := by rw [tq_lim_i hx.1]
  have hY : y.toInt = ((tq_lim y : Nat) : Int) := by rw [tq_lim_i hy.1]
  have xl : tq_lim x < 65536 := by omega
  have yl : tq_lim y < 65536 := by omega
  have p15 : 2 ^ b ≤ 2 ^ 15 := Nat.pow_le_pow_right (by omega) (by omega)
  have hm : tq_lim x * 2 ^ b < 2 ^ 32 := by
    have := Nat.mul_le_mul (show tq_lim x ≤ 65535 by omega) p15; omega
  have u1 : tq_u32 (x <<< (v &&& 31)) = tq_lim x * 2 ^ b := by rw [tq_u32_shl hv (by omega), tq_u32_of_i hX, Nat.mod_eq_of_lt hm]
  have u2 : tq_u32 (y >>> (((16 : Int32) - v) &&& 31)) = tq_lim y / 2 ^ (16 - b) := by
    apply tq_u32_of_i
    rw [tq_i32_shr e16 (by omega), hY]; norm_cast
  have u3 : tq_u32 (((x <<< (v &&& 31)) ||| (y >>> (((16 : Int32) - v) &&& 31))) &&& 65535) = ((tq_lim x * 2 ^ b) ||| (tq_lim y / 2 ^ (16 - b))) % 2 ^ 16 := by
    rw [tq_u32_and, tq_u32_or, u1, u2]
    have : tq_u32 (65535 : Int32) = 2 ^ 16 - 1 := rfl
    rw [this, Nat.and_two_pow_sub_one_eq_mod]
  have u4 := tq_i32_of_u u3 (by omega)
  rw [tq_lim_of u4, Nat.testBit_mod_two_pow, Nat.testBit_or, ← Nat.shiftLeft_eq, ← Nat.shiftRight_eq_div_pow, Nat.testBit_shiftLeft, Nat.testBit_shiftRight]
  have d16 : decide (t < 16) = true := decide_eq_true ht
  rw [d16, Bool.true_and]
  split
  · rename_i h
    have z : (tq_lim y).testBit (16 - b + t) = false := Nat.testBit_lt_two_pow (Nat.lt_of_lt_of_le yl (show 65536 ≤ 2 ^ (16 - b + t) from Nat.pow_le_pow_right (n := 2) (by omega) (show 16 ≤ 16 - b + t by omega)))
    rw [z, Bool.or_false, decide_eq_true h, Bool.true_and]
  · rename_i h
    rw [decide_eq_false (by omega), Bool.false_and, Bool.false_or]; congr 1; omega
theorem tq_mix_dn {x y : Int32} (hx : 0 ≤ x.toInt ∧ x.toInt < 65536) (hy : 0 ≤ y.toInt ∧ y.toInt < 65536) {v : Int32} {b : Nat} (hb : b < 16) (hv : v.toInt = b) {t : Nat} (ht : t < 16) :
    (tq_lim (((x >>> (v &&& 31)) ||| (y <<< (((16 : Int32) - v) &&& 31))) &&& 65535)).testBit t = if t + b < 16 then (tq_lim x).testBit (t + b) else (tq_lim y).testBit (t + b - 16) := by
  have c16 : ((16 : Int32)).toInt = 16 := rfl
  have e16 : ((16 : Int32) - v).toInt = ((16 - b : Nat) : Int) := by rw [tq_i32_sub (by rw [c16, hv]; omega), c16, hv]; omega
  have hX : x.toInt = ((tq_lim x : Nat) : Int) := by rw [tq_lim_i hx.1]
  have hY : y.toInt = ((tq_lim y : Nat) : Int) := by rw [tq_lim_i hy.1]
  have xl : tq_lim x < 65536 := by omega
  have yl : tq_lim y < 65536 := by omega
  have p15 : 2 ^ (16 - b) ≤ 2 ^ 16 := Nat.pow_le_pow_right (by omega) (by omega)
  have hm : tq_lim y * 2 ^ (16 - b) < 2 ^ 32 := by
    have := Nat.mul_le_mul (show tq_lim y ≤ 65535 by omega) p15; omega
  have u1 : tq_u32 (y <<< (((16 : Int32) - v) &&& 31)) = tq_lim y * 2 ^ (16 - b) := by rw [tq_u32_shl e16 (by omega), tq_u32_of_i hY, Nat.mod_eq_of_lt hm]
  have u2 : tq_u32 (x >>> (v &&& 31)) = tq_lim x / 2 ^ b := by
    apply tq_u32_of_i
    rw [tq_i32_shr hv (by omega), hX]; norm_cast
  have u3 : tq_u32 (((x >>> (v &&& 31)) ||| (y <<< (((16 : Int32) - v) &&& 31))) &&& 65535) = ((tq_lim x / 2 ^ b) ||| (tq_lim y * 2 ^ (16 - b))) % 2 ^ 16 := by
    rw [tq_u32_and, tq_u32_or, u1, u2]
    have : tq_u32 (65535 : Int32) = 2 ^ 16 - 1 := rfl
    rw [this, Nat.and_two_pow_sub_one_eq_mod]
  have u4 := tq_i32_of_u u3 (by omega)
  rw [tq_lim_of u4, Nat.testBit_mod_two_pow, Nat.testBit_or, ← Nat.shiftLeft_eq, ← Nat.shiftRight_eq_div_pow, Nat.testBit_shiftLeft, Nat.testBit_shiftRight]
  have d16 : decide (t < 16) = true := decide_eq_true ht
  rw [d16, Bool.true_and]
  split
  · rename_i h
    rw [decide_eq_false (show ¬ (t ≥ 16 - b) by omega), Bool.false_and, Bool.or_false, Nat.add_comm b t]
  · rename_i h
    have z : (tq_lim x).testBit (b + t) = false := Nat.testBit_lt_two_pow (Nat.lt_of_lt_of_le xl (show 65536 ≤ 2 ^ (b + t) from Nat.pow_le_pow_right (n := 2) (by omega) (show 16 ≤ b + t by omega)))
    rw [z, Bool.false_or, decide_eq_true (show t ≥ 16 - b by omega), Bool.true_and]; congr 1; omega
def tq_upH (f : Nat → Int32) (r far k : Nat) : Int32 := if k < far then 0 else f (40 * r + (k - far))
def tq_upL (f : Nat → Int32) (r far k : Nat) : Int32 := if k < far + 1 then 0 else f (40 * r + (k - far - 1))
theorem tq_ixs {m k : Nat} (h : k ≤ m) (hm : m < 2 ^ 31) : nI m - nI k = nI (m - k) := by
  apply Int32.toInt.inj
  rw [tq_i32_sub (by rw [tq_nI_i hm, tq_nI_i (by omega)]; omega), tq_nI_i hm, tq_nI_i (by omega), tq_nI_i (by omega)]; omega
theorem tq_i32_lt0 {x : Int32} (h : x.toInt < 0) : x < 0 := Int32.lt_iff_toInt_lt.2 h
theorem tq_raise_loop {r : Nat} (hr : r ≤ 4) {f0 : Nat → Int32} (hw0 : tq_WL 200 f0) {far b : Nat} (hfar : far < 40) (hb : b < 16) : ∀ i n (f : Nat → Int32), i ≤ 40 → i < n → tq_WL 200 f → tq_Fr r f0 f → (∀ k, k < i → f (40 * r + k) = f0 (40 * r + k)) →
    (∀ k, i ≤ k → k < 40 → f (40 * r + k) = (((tq_upH f0 r far k <<< (nI b &&& 31)) ||| (tq_upL f0 r far k >>> (((16 : Int32) - nI b) &&& 31))) &&& 65535)) →
    ∃ g, m_raise_b15 (nI r) n (nI far) (nI b) (nI i + (-1)) f = some g ∧ tq_WL 200 g ∧ tq_Fr r f0 g ∧ (∀ k, k < 40 → g (40 * r + k) = (((tq_upH f0 r far k <<< (nI b &&& 31)) ||| (tq_upL f0 r far k >>> (((16 : Int32) - nI b) &&& 31))) &&& 65535)) := by
  intro i
  induction i with
  | zero =>
    intro n f h1 h2 hw hf hk hs
    obtain ⟨m, rfl⟩ : ∃ m, n = m + 1 := ⟨n - 1, by omega⟩
    unfold m_raise_b15
    refine ⟨f, by rw [if_pos (by decide)], hw, hf, fun k hk2 => hs k (by omega) hk2⟩
  | succ i ih =>
    intro n f h1 h2 hw hf hk hs
    obtain ⟨m, rfl⟩ : ∃ m, n = m + 1 := ⟨n - 1, by omega⟩
    unfold m_raise_b15
    rw [tq_nI_pred (by omega), if_neg (tq_nI_nn (by omega)), tq_ix40]
    have z : (0 : Int32) ≤ 0 := by decide
    have sub1 : (nI i - nI far).toInt = (i : Int) - far := by rw [tq_i32_sub (by rw [tq_nI_i (by omega), tq_nI_i (by omega)]; omega), tq_nI_i (by omega), tq_nI_i (by omega)]
    have c1 : ((1 : Int32)).toInt = 1 := rfl
    have c0 : ((0 : Int32)).toInt = 0 := rfl
    have sub2 : (nI i - nI far - 1).toInt = (i : Int) - far - 1 := by rw [tq_i32_sub (by rw [sub1, c1]; omega), sub1, c1]
    have last : ∀ lo : Int32, lo = tq_upL f0 r far i → ∃ g, m_raise_b76 (nI r) (m_raise_b15 (nI r) m) (nI far) (nI b) (nI i) (tq_upH f0 r far i) lo f = some g ∧ tq_WL 200 g ∧ tq_Fr r f0 g ∧ (∀ k, k < 40 → g (40 * r + k) = (((tq_upH f0 r far k <<< (nI b &&& 31)) ||| (tq_upL f0 r far k >>> (((16 : Int32) - nI b) &&& 31))) &&& 65535)) := by
      intro lo hlo
      subst hlo
      unfold m_raise_b76
      rw [tq_ix40, if_neg (tq_ixok hr (by omega)), tq_ixcl hr (by omega)]
      apply ih m _ (by omega) (by omega)
      · exact tq_WL_upd16 hw _
      · intro x hx; rw [tq_upI_ne (by omega)]; exact hf x hx
      · intro k hk2; rw [tq_upI_ne (by omega)]; exact hk k (by omega)
      · intro k h3 h4
        rcases Nat.eq_or_lt_of_le h3 with q | q
        · subst q; rw [tq_upI_at]
        · rw [tq_upI_ne (by omega)]; exact hs k (by omega) h4
    have mid : ∀ hi : Int32, hi = tq_upH f0 r far i → ∃ g, m_raise_b45 (nI r) (m_raise_b15 (nI r) m) (nI far) (nI b) (nI i) hi f = some g ∧ tq_WL 200 g ∧ tq_Fr r f0 g ∧ (∀ k, k < 40 → g (40 * r + k) = (((tq_upH f0 r far k <<< (nI b &&& 31)) ||| (tq_upL f0 r far k >>> (((16 : Int32) - nI b) &&& 31))) &&& 65535)) := by
      intro hi hhi
      subst hhi
      unfold m_raise_b45
      by_cases q : i < far + 1
      · rw [if_pos (tq_i32_lt0 (by rw [sub2]; omega))]
        exact last 0 (by unfold tq_upL; rw [if_pos q])
      · rw [if_neg (by rw [Int32.lt_iff_toInt_lt, sub2, c0]; omega)]
        have e : nI (40 * r + i) - nI far - 1 = nI (40 * r + (i - far - 1)) := by
          rw [tq_ixs (by omega) (by omega)]
          have : (1 : Int32) = nI 1 := rfl
          rw [this, tq_ixs (by omega) (by omega)]; congr 1; omega
        rw [tq_ix40, e, if_neg (tq_ixok hr (by omega)), tq_ixcl hr (by omega)]
        exact last _ (by unfold tq_upL; rw [if_neg q]; exact hk _ (by omega))
    by_cases q : i < far
    · rw [if_pos (tq_i32_lt0 (by rw [sub1]; omega))]
      exact mid 0 (by unfold tq_upH; rw [if_pos q])
    · rw [if_neg (by rw [Int32.lt_iff_toInt_lt, sub1, c0]; omega)]
      have e : nI (40 * r + i) - nI far = nI (40 * r + (i - far)) := by rw [tq_ixs (by omega) (by omega)]; congr 1; omega
      rw [e, if_neg (tq_ixok hr (by omega)), tq_ixcl hr (by omega)]
      exact mid _ (by unfold tq_upH; rw [if_neg q]; exact hk _ (by omega))
theorem tq_raise_spec {r : Nat} (hr : r ≤ 4) {f : Nat → Int32} (hw : tq_WL 200 f) {my : Int32} {k : Nat} (hk : my.toInt = k) (hk2 : k < 640) : ∃ g, m_raise f (nI r) my = some g ∧ tq_WL 200 g ∧ tq_Fr r f g ∧ tq_rv g (40 * r) 40 = tq_rv f (40 * r) 40 * 2 ^ k % 2 ^ 640 := by
  unfold m_raise
  rw [tq_nm_e, tq_nm_e, tq_of_i32 (tq_rem16 hk), tq_of_i32 (tq_div16 hk)]
  obtain ⟨g, e, w, fr, h⟩ := tq_raise_loop hr hw (far := k / 16) (b := k % 16) (by omega) (by omega) 40 41 f (by omega) (by omega) hw (fun _ _ => rfl) (fun _ _ => rfl) (fun j h3 h4 => by omega)
  refine ⟨g, e, w, fr, ?_⟩
  have wl0 : ∀ j, j < 40 → tq_lim (f (40 * r + j)) < 65536 := fun j hj => tq_lim_lt hw (by omega)
  have wlg : ∀ j, j < 40 → tq_lim (g (40 * r + j)) < 65536 := fun j hj => tq_lim_lt w (by omega)
  have hl : tq_rv g (40 * r) 40 < 2 ^ 640 := tq_rv_lt (k := 40) wlg
  apply tq_bits_ext hl (Nat.mod_lt _ (Nat.two_pow_pos _))
  intro j t hj ht
  have hH : 0 ≤ (tq_upH f r (k / 16) j).toInt ∧ (tq_upH f r (k / 16) j).toInt < 65536 := by
    unfold tq_upH; split
    · decide
    · exact hw _ (by omega)
  have hL : 0 ≤ (tq_upL f r (k / 16) j).toInt ∧ (tq_upL f r (k / 16) j).toInt < 65536 := by
    unfold tq_upL; split
    · decide
    · exact hw _ (by omega)
  rw [tq_rv_bit wlg hj ht, h j hj, tq_mix_up hH hL (b := k % 16) (by omega) (tq_nI_i (by omega)) ht, Nat.testBit_mod_two_pow, decide_eq_true (show 16 * j + t < 640 by omega), Bool.true_and, ← Nat.shiftLeft_eq, Nat.testBit_shiftLeft]
  have tb0 : ∀ p, (tq_lim 0).testBit p = false := fun p => by rw [tq_lim_0]; exact Nat.zero_testBit p
  by_cases q : k ≤ 16 * j + t
  · rw [decide_eq_true q, Bool.true_and]
    split
    · rename_i hb
      unfold tq_upH
      rw [if_neg (by omega)]
      have := tq_rv_bit wl0 (j := j - k / 16) (t := t - k % 16) (by omega) (by omega)
      rw [← this]; congr 1; omega
    · rename_i hb
      unfold tq_upL
      rw [if_neg (by omega)]
      have := tq_rv_bit wl0 (j := j - k / 16 - 1) (t := 16 + t - k % 16) (by omega) (by omega)
      rw [← this]; congr 1; omega
  · rw [decide_eq_false q, Bool.false_and]
    split
    · rename_i hb
      unfold tq_upH
      rw [if_pos (by omega)]; exact tb0 _
    · rename_i hb
      unfold tq_upL
      rw [if_pos (by omega)]; exact tb0 _
