/-- a limb's number -/
def tq_lim (x : Int32) : Nat := x.toInt.toNat
def tq_WL (N : Nat) (f : Nat → Int32) : Prop := ∀ i, i < N → 0 ≤ (f i).toInt ∧ (f i).toInt < 65536
/-- what k limbs from b on stand for -/
def tq_rv (f : Nat → Int32) (b : Nat) : Nat → Nat
  | 0 => 0
  | k + 1 => tq_rv f b k + tq_lim (f (b + k)) * 2 ^ (16 * k)
theorem tq_p16 (k : Nat) : 2 ^ (16 * (k + 1)) = 2 ^ 16 * 2 ^ (16 * k) := by rw [← Nat.pow_add]; congr 1; omega
theorem tq_lim_i {x : Int32} (h : 0 ≤ x.toInt) : (tq_lim x : Int) = x.toInt := by unfold tq_lim; omega
theorem tq_lim_of {x : Int32} {k : Nat} (h : x.toInt = k) : tq_lim x = k := by unfold tq_lim; omega
theorem tq_lim_lt {N : Nat} {f : Nat → Int32} (h : tq_WL N f) {i : Nat} (hi : i < N) : tq_lim (f i) < 65536 := by
  have := h i hi; unfold tq_lim; omega
theorem tq_lim_0 : tq_lim 0 = 0 := rfl
theorem tq_rv_lt {f : Nat → Int32} {b : Nat} : ∀ {k : Nat}, (∀ j, j < k → tq_lim (f (b + j)) < 65536) → tq_rv f b k < 2 ^ (16 * k)
  | 0, _ => by simp [tq_rv]
  | k + 1, h => by
    have h1 := tq_rv_lt (k := k) (fun j hj => h j (by omega))
    have h2 := h k (by omega)
    rw [tq_rv, tq_p16]
    have : tq_lim (f (b + k)) * 2 ^ (16 * k) ≤ (2 ^ 16 - 1) * 2 ^ (16 * k) := Nat.mul_le_mul_right _ (by omega)
    rw [Nat.sub_mul] at this
    have : 1 * 2 ^ (16 * k) ≤ 2 ^ 16 * 2 ^ (16 * k) := Nat.mul_le_mul_right _ (by decide)
    omega
theorem tq_rv_congr {f g : Nat → Int32} {b c : Nat} : ∀ {k : Nat}, (∀ j, j < k → f (b + j) = g (c + j)) → tq_rv f b k = tq_rv g c k
  | 0, _ => rfl
  | k + 1, h => by rw [tq_rv, tq_rv, tq_rv_congr (k := k) (fun j hj => h j (by omega)), h k (by omega)]
theorem tq_rv_zero {f : Nat → Int32} {b : Nat} : ∀ {k : Nat}, (∀ j, j < k → f (b + j) = 0) → tq_rv f b k = 0
  | 0, _ => rfl
  | k + 1, h => by rw [tq_rv, tq_rv_zero (k := k) (fun j hj => h j (by omega)), h k (by omega), tq_lim_0]; omega
theorem tq_rv_eq0 {f : Nat → Int32} {b N : Nat} (hw : tq_WL N f) : ∀ {k : Nat}, b + k ≤ N → tq_rv f b k = 0 → ∀ j, j < k → f (b + j) = 0
  | 0, _, _ => fun j hj => by omega
  | k + 1, hk, h => by
    rw [tq_rv] at h
    have p := Nat.two_pow_pos (16 * k)
    have h1 : tq_rv f b k = 0 := by omega
    have h2 : tq_lim (f (b + k)) = 0 := by
      rcases Nat.eq_zero_or_pos (tq_lim (f (b + k))) with q | q
      · exact q
      · have := Nat.mul_pos q p; omega
    intro j hj
    rcases Nat.lt_or_ge j k with q | q
    · exact tq_rv_eq0 hw (k := k) (by omega) h1 j q
    · have : j = k := by omega
      subst this
      have := hw (b + j) (by omega)
      apply Int32.toInt.inj
      unfold tq_lim at h2
      show _ = 0
      omega
theorem tq_rv_split {f : Nat → Int32} {b i : Nat} : ∀ m, tq_rv f b (i + m) = tq_rv f b i + 2 ^ (16 * i) * tq_rv f (b + i) m
  | 0 => by simp [tq_rv]
  | m + 1 => by
    show tq_rv f b (i + m) + tq_lim (f (b + (i + m))) * 2 ^ (16 * (i + m)) = _
    have e : tq_lim (f (b + (i + m))) * 2 ^ (16 * (i + m)) = 2 ^ (16 * i) * (tq_lim (f (b + i + m)) * 2 ^ (16 * m)) := by
      rw [Nat.mul_left_comm, ← Nat.pow_add, Nat.add_assoc b i m]; congr 2; omega
    rw [tq_rv_split m, e, tq_rv, Nat.mul_add, Nat.add_assoc]
theorem tq_upI_at (f : Nat → Int32) (i : Nat) (x : Int32) : upd f i x i = x := by unfold upd; rw [if_pos rfl]
theorem tq_upI_ne {f : Nat → Int32} {i j : Nat} {x : Int32} (h : j ≠ i) : upd f i x j = f j := by unfold upd; rw [if_neg h]
theorem tq_ix40 (r i : Nat) : (40 : Int32) * nI r + nI i = nI (40 * r + i) := by
  show nI 40 * nI r + nI i = _
  unfold nI; rw [← Int32.ofNat_mul, ← Int32.ofNat_add]
theorem tq_ixok {r i : Nat} (hr : r ≤ 4) (hi : i < 40) : ¬ (nI (40 * r + i) < 0 ∨ 200 ≤ (nI (40 * r + i)).toNatClampNeg) := tq_nI_ok (by omega) (by omega)
theorem tq_ixcl {r i : Nat} (hr : r ≤ 4) (hi : i < 40) : (nI (40 * r + i)).toNatClampNeg = 40 * r + i := tq_nI_cl (by omega)
theorem tq_and16 (x : Int32) : (x &&& 65535).toInt = x.toInt % 65536 := by
  have h1 : tq_u32 (x &&& 65535) = tq_u32 x % 2 ^ 16 := by
    rw [tq_u32_and]
    have : tq_u32 (65535 : Int32) = 2 ^ 16 - 1 := rfl
    rw [this, Nat.and_two_pow_sub_one_eq_mod]
  have h2 := tq_i32_of_u h1 (by omega)
  have h3 := tq_u32_i x
  omega
theorem tq_sar16 (x : Int32) : (x >>> ((16 : Int32) &&& 31)).toInt = x.toInt / 65536 := by
  rw [tq_i32_shr (k := 16) rfl (by omega)]; rfl
theorem tq_WL_upd {N : Nat} {f : Nat → Int32} (h : tq_WL N f) {k : Nat} {x : Int32} (hx : 0 ≤ x.toInt ∧ x.toInt < 65536) : tq_WL N (upd f k x) := by
  intro i hi
  by_cases q : i = k
  · subst q; rw [tq_upI_at]; exact hx
  · rw [tq_upI_ne q]; exact h i hi
theorem tq_WL_upd16 {N : Nat} {f : Nat → Int32} (h : tq_WL N f) {k : Nat} (x : Int32) : tq_WL N (upd f k (x &&& 65535)) :=
  tq_WL_upd h (by rw [tq_and16]; omega)
/-- nothing but row r may differ -/
def tq_Fr (r : Nat) (f g : Nat → Int32) : Prop := ∀ x, x / 40 ≠ r → g x = f x
theorem tq_Fr_rv {r : Nat} {f g : Nat → Int32} (h : tq_Fr r f g) {q : Nat} (hq : q ≠ r) : tq_rv g (40 * q) 40 = tq_rv f (40 * q) 40 := by
  exact tq_rv_congr (fun j hj => h _ (by omega))

theorem tq_zero_loop {r : Nat} (hr : r ≤ 4) : ∀ n i (f : Nat → Int32), i ≤ 40 → 40 < n + i →
    ∃ g, m_zero_b2 (nI r) n (nI i) f = some g ∧ (∀ j, i ≤ j → j < 40 → g (40 * r + j) = 0) ∧ (∀ x, (x < 40 * r + i ∨ 40 * r + 40 ≤ x) → g x = f x)
  | 0, i, f, h1, h2 => by omega
  | n + 1, i, f, h1, h2 => by
    unfold m_zero_b2
    show ∃ g, (if nI 40 ≤ nI i then some f else _) = some g ∧ _
    by_cases h : 40 ≤ i
    · rw [if_pos ((tq_nI_le (by omega) (by omega)).2 h)]
      exact ⟨f, rfl, fun j a b => by omega, fun _ _ => rfl⟩
    · rw [if_neg (fun q => h ((tq_nI_le (by omega) (by omega)).1 q)), tq_ix40, if_neg (tq_ixok hr (by omega)), tq_ixcl hr (by omega), tq_nI_add]
      obtain ⟨g, e, a, b⟩ := tq_zero_loop hr n (i + 1) (upd f (40 * r + i) 0) (by omega) (by omega)
      refine ⟨g, e, fun j h3 h4 => ?_, fun x h3 => ?_⟩
      · rcases Nat.eq_or_lt_of_le h3 with q | q
        · subst q; rw [b _ (by omega), tq_upI_at]
        · exact a j (by omega) h4
      · rw [b x (by omega), tq_upI_ne (by omega)]
theorem tq_zero_spec {r : Nat} (hr : r ≤ 4) {f : Nat → Int32} (hw : tq_WL 200 f) : ∃ g, m_zero f (nI r) = some g ∧ tq_WL 200 g ∧ tq_Fr r f g ∧ (∀ j, j < 40 → g (40 * r + j) = 0) := by
  obtain ⟨g, e, a, b⟩ := tq_zero_loop hr 41 0 f (by omega) (by omega)
  refine ⟨g, e, fun i hi => ?_, fun x hx => b x (by omega), fun j hj => a j (by omega) hj⟩
  by_cases q : i / 40 = r
  · have : i = 40 * r + (i - 40 * r) := by omega
    rw [this, a (i - 40 * r) (by omega) (by omega)]; decide
  · rw [b i (by omega)]; exact hw i hi
theorem tq_zero_rv {r : Nat} {g : Nat → Int32} (h : ∀ j, j < 40 → g (40 * r + j) = 0) : tq_rv g (40 * r) 40 = 0 := tq_rv_zero h
theorem tq_move_loop {a b : Nat} (ha : a ≤ 4) (hb : b ≤ 4) (hab : a ≠ b) (f0 : Nat → Int32) : ∀ n i (f : Nat → Int32), i ≤ 40 → 40 < n + i → tq_WL 200 f → tq_Fr b f0 f → (∀ j, j < i → f (40 * b + j) = f0 (40 * a + j)) →
    ∃ g, m_move_b2 (nI a) (nI b) n (nI i) f = some g ∧ tq_WL 200 g ∧ tq_Fr b f0 g ∧ (∀ j, j < 40 → g (40 * b + j) = f0 (40 * a + j))
  | 0, i, f, h1, h2, hw, hf, hs => by omega
  | n + 1, i, f, h1, h2, hw, hf, hs => by
    unfold m_move_b2
    show ∃ g, (if nI 40 ≤ nI i then some f else _) = some g ∧ _
    by_cases h : 40 ≤ i
    · rw [if_pos ((tq_nI_le (by omega) (by omega)).2 h)]
      exact ⟨f, rfl, hw, hf, fun j hj => hs j (by omega)⟩
    · rw [if_neg (fun q => h ((tq_nI_le (by omega) (by omega)).1 q)), tq_ix40, tq_ix40, if_neg (tq_ixok ha (by omega)), if_neg (tq_ixok hb (by omega)), tq_ixcl ha (by omega), tq_ixcl hb (by omega), tq_nI_add]
      apply tq_move_loop ha hb hab f0 n (i + 1) _ (by omega) (by omega)
      · exact tq_WL_upd hw (hw _ (by omega))
      · intro x hx; rw [tq_upI_ne (by omega)]; exact hf x hx
      · intro j hj
        rcases Nat.lt_or_ge j i with q | q
        · rw [tq_upI_ne (by omega)]; exact hs j q
        · have : j = i := by omega
          subst this; rw [tq_upI_at]; exact hf _ (by omega)
theorem tq_move_spec {a b : Nat} (ha : a ≤ 4) (hb : b ≤ 4) (hab : a ≠ b) {f : Nat → Int32} (hw : tq_WL 200 f) : ∃ g, m_move f (nI a) (nI b) = some g ∧ tq_WL 200 g ∧ tq_Fr b f g ∧ tq_rv g (40 * b) 40 = tq_rv f (40 * a) 40 := by
  obtain ⟨g, e, w, fr, h⟩ := tq_move_loop ha hb hab f 41 0 f (by omega) (by omega) hw (fun _ _ => rfl) (fun j hj => by omega)
  exact ⟨g, e, w, fr, tq_rv_congr h⟩
theorem tq_order_loop {a b : Nat} (ha : a ≤ 4) (hb : b ≤ 4) {f : Nat → Int32} (hw : tq_WL 200 f) : ∀ i n, i ≤ 40 → i < n → (∀ j, i ≤ j → j < 40 → f (40 * a + j) = f (40 * b + j)) →
    ∃ r, m_order_b3 f (nI a) (nI b) n (nI i + (-1)) = some r ∧ ((tq_rv f (40 * a) i < tq_rv f (40 * b) i ∧ r = -1) ∨ (tq_rv f (40 * a) i = tq_rv f (40 * b) i ∧ r = 0) ∨ (tq_rv f (40 * b) i < tq_rv f (40 * a) i ∧ r = 1))
  | 0, n, h1, h2, hs => by
    obtain ⟨m, rfl⟩ : ∃ m, n = m + 1 := ⟨n - 1, by omega⟩
    unfold m_order_b3
    exact ⟨0, by rw [if_pos (by decide)], .inr (.inl ⟨rfl, rfl⟩)⟩
  | i + 1, n, h1, h2, hs => by
    obtain ⟨m, rfl⟩ : ∃ m, n = m + 1 := ⟨n - 1, by omega⟩
    unfold m_order_b3
    rw [tq_nI_pred (by omega), if_neg (tq_nI_nn (by omega)), tq_ix40, tq_ix40, if_neg (tq_ixok ha (by omega)), tq_nm_e, if_neg (tq_ixok hb (by omega)), tq_nm_e, tq_ixcl ha (by omega), tq_ixcl hb (by omega)]
    have la := hw (40 * a + i) (by omega)
    have lb := hw (40 * b + i) (by omega)
    have lt : ∀ c, c ≤ 4 → tq_rv f (40 * c) i < 2 ^ (16 * i) := fun c hc => tq_rv_lt (fun j hj => tq_lim_lt hw (by omega))
    have lta := lt a ha
    have ltb := lt b hb
    rw [tq_rv, tq_rv]
    have p := Nat.two_pow_pos (16 * i)
    by_cases q : f (40 * a + i) = f (40 * b + i)
    · rw [if_pos q]
      obtain ⟨r, e, hr⟩ := tq_order_loop ha hb hw i m (by omega) (by omega) (fun j h3 h4 => by
        rcases Nat.eq_or_lt_of_le h3 with w | w
        · subst w; exact q
        · exact hs j (by omega) h4)
      refine ⟨r, e, ?_⟩
      rw [q]
      rcases hr with ⟨w1, w2⟩ | ⟨w1, w2⟩ | ⟨w1, w2⟩
      · exact .inl ⟨by omega, w2⟩
      · exact .inr (.inl ⟨by omega, w2⟩)
      · exact .inr (.inr ⟨by omega, w2⟩)
    · rw [if_neg q]
      have q2 : (f (40 * a + i)).toInt ≠ (f (40 * b + i)).toInt := fun w => q (Int32.toInt.inj w)
      by_cases w : f (40 * b + i) ≤ f (40 * a + i)
      · rw [if_pos w]; rw [Int32.le_iff_toInt_le] at w
        refine ⟨1, rfl, .inr (.inr ⟨?_, rfl⟩)⟩
        have : (tq_lim (f (40 * b + i)) + 1) * 2 ^ (16 * i) ≤ tq_lim (f (40 * a + i)) * 2 ^ (16 * i) := Nat.mul_le_mul_right _ (by unfold tq_lim; omega)
        rw [Nat.add_mul] at this; omega
      · rw [if_neg w]; rw [Int32.le_iff_toInt_le] at w
        refine ⟨-1, rfl, .inl ⟨?_, rfl⟩⟩
        have : (tq_lim (f (40 * a + i)) + 1) * 2 ^ (16 * i) ≤ tq_lim (f (40 * b + i)) * 2 ^ (16 * i) := Nat.mul_le_mul_right _ (by unfold tq_lim; omega)
        rw [Nat.add_mul] at this; omega
theorem tq_order_spec {a b : Nat} (ha : a ≤ 4) (hb : b ≤ 4) {f : Nat → Int32} (hw : tq_WL 200 f) :
    ∃ r, m_order f (nI a) (nI b) = some r ∧ ((tq_rv f (40 * a) 40 < tq_rv f (40 * b) 40 ∧ r = -1) ∨ (tq_rv f (40 * a) 40 = tq_rv f (40 * b) 40 ∧ r = 0) ∨ (tq_rv f (40 * b) 40 < tq_rv f (40 * a) 40 ∧ r = 1)) := by
  have := tq_order_loop ha hb hw 40 41 (by omega) (by omega) (fun j h3 h4 => by omega)
  exact this
theorem tq_isZero_loop {a : Nat} (ha : a ≤ 4) (f : Nat → Int32) : ∀ n i (v : Int32), i ≤ 40 → 40 < n + i → (v = 0 ∨ v = 1) → (v = 1 ↔ ∀ j, j < i → f (40 * a + j) = 0) →
    ∃ r, m_isZero_b4 f (nI a) n v (nI i) = some r ∧ (r = 0 ∨ r = 1) ∧ (r = 1 ↔ ∀ j, j < 40 → f (40 * a + j) = 0)
  | 0, i, v, h1, h2, hv, hs => by omega
  | n + 1, i, v, h1, h2, hv, hs => by
    unfold m_isZero_b4 m_isZero_b33
    show ∃ r, (if nI 40 ≤ nI i then some v else _) = some r ∧ _
    by_cases h : 40 ≤ i
    · have : i = 40 := by omega
      subst this
      rw [if_pos ((tq_nI_le (by omega) (by omega)).2 h)]
      exact ⟨v, rfl, hv, hs⟩
    · rw [if_neg (fun q => h ((tq_nI_le (by omega) (by omega)).1 q)), tq_ix40, if_neg (tq_ixok ha (by omega)), tq_ixcl ha (by omega), tq_nI_add]
      by_cases q : v = 0
      · rw [if_pos q]
        apply tq_isZero_loop ha f n (i + 1) 0 (by omega) (by omega) (.inl rfl)
        constructor
        · intro w; exact absurd w (by decide)
        · intro w
          have := hs.2 (fun j hj => w j (by omega))
          rw [this] at q; exact absurd q (by decide)
      · rw [if_neg q]
        have v1 : v = 1 := hv.resolve_left q
        by_cases w : f (40 * a + i) = 0
        · rw [if_neg (fun z => z w)]
          apply tq_isZero_loop ha f n (i + 1) 1 (by omega) (by omega) (.inr rfl)
          constructor
          · intro _ j hj
            rcases Nat.lt_or_ge j i with z | z
            · exact hs.1 v1 j z
            · have : j = i := by omega
              subst this; exact w
          · intro _; rfl
        · rw [if_pos w]
          apply tq_isZero_loop ha f n (i + 1) 0 (by omega) (by omega) (.inl rfl)
          constructor
          · intro z; exact absurd z (by decide)
          · intro z; exact absurd (z i (by omega)) w
theorem tq_isZero_spec {a : Nat} (ha : a ≤ 4) {f : Nat → Int32} (hw : tq_WL 200 f) : ∃ r, m_isZero f (nI a) = some r ∧ ((tq_rv f (40 * a) 40 = 0 ∧ r = 1) ∨ (tq_rv f (40 * a) 40 ≠ 0 ∧ r = 0)) := by
  obtain ⟨r, e, h1, h2⟩ := tq_isZero_loop ha f 41 0 1 (by omega) (by omega) (.inr rfl) ⟨fun _ j hj => by omega, fun _ => rfl⟩
  refine ⟨r, e, ?_⟩
  by_cases q : tq_rv f (40 * a) 40 = 0
  · exact .inl ⟨q, h2.2 (tq_rv_eq0 hw (by omega) q)⟩
  · right
    refine ⟨q, h1.resolve_right (fun w => q (tq_rv_zero (h2.1 w)))⟩
theorem tq_plus_loop {a b : Nat} (ha : a ≤ 4) (hb : b ≤ 4) (hab : a ≠ b) {f0 : Nat → Int32} (hw0 : tq_WL 200 f0) : ∀ n i (c : Int32) (f : Nat → Int32), i ≤ 40 → 40 < n + i → (c = 0 ∨ c = 1) → tq_WL 200 f → tq_Fr a f0 f → (∀ j, i ≤ j → j < 40 → f (40 * a + j) = f0 (40 * a + j)) →
    tq_rv f (40 * a) i + tq_lim c * 2 ^ (16 * i) = tq_rv f0 (40 * a) i + tq_rv f0 (40 * b) i →
    ∃ g c', m_plus_b5 (nI a) (nI b) n c (nI i) f = some g ∧ tq_WL 200 g ∧ tq_Fr a f0 g ∧ tq_rv g (40 * a) 40 + c' * 2 ^ 640 = tq_rv f0 (40 * a) 40 + tq_rv f0 (40 * b) 40
  | 0, i, c, f, h1, h2, hc, hw, hf, hk, hs => by omega
  | n + 1, i, c, f, h1, h2, hc, hw, hf, hk, hs => by
    unfold m_plus_b5
    show ∃ g c', (if nI 40 ≤ nI i then some f else _) = some g ∧ _
    by_cases h : 40 ≤ i
    · have : i = 40 := by omega
      subst this
      rw [if_pos ((tq_nI_le (by omega) (by omega)).2 h)]
      exact ⟨f, tq_lim c, rfl, hw, hf, hs⟩
    · rw [if_neg (fun q => h ((tq_nI_le (by omega) (by omega)).1 q)), tq_ix40, tq_ix40, if_neg (tq_ixok ha (by omega)), if_neg (tq_ixok hb (by omega)), tq_nm_e, if_neg (tq_ixok ha (by omega)), tq_nm_e, tq_ixcl ha (by omega), tq_ixcl hb (by omega), tq_nI_add]
      have eb : f (40 * b + i) = f0 (40 * b + i) := hf _ (by omega)
      have ea : f (40 * a + i) = f0 (40 * a + i) := hk i (Nat.le_refl _) (by omega)
      rw [ea, eb]
      have la := hw0 (40 * a + i) (by omega)
      have lb := hw0 (40 * b + i) (by omega)
      have lc : 0 ≤ c.toInt ∧ c.toInt ≤ 1 := by rcases hc with rfl | rfl <;> decide
      have e1 : (f0 (40 * a + i) + f0 (40 * b + i)).toInt = (f0 (40 * a + i)).toInt + (f0 (40 * b + i)).toInt := tq_i32_add (by omega)
      have e2 : (f0 (40 * a + i) + f0 (40 * b + i) + c).toInt = (f0 (40 * a + i)).toInt + (f0 (40 * b + i)).toInt + c.toInt := by rw [tq_i32_add (by rw [e1]; omega), e1]
      generalize f0 (40 * a + i) + f0 (40 * b + i) + c = s at *
      have e3 := tq_sar16 s
      have e4 := tq_and16 s
      generalize hcn : s >>> ((16 : Int32) &&& 31) = c' at *
      apply tq_plus_loop ha hb hab hw0 n (i + 1) c' _ (by omega) (by omega)
      · have : c'.toInt = 0 ∨ c'.toInt = 1 := by omega
        rcases this with w | w
        · left; exact Int32.toInt.inj w
        · right; exact Int32.toInt.inj w
      · exact tq_WL_upd16 hw s
      · intro x hx; rw [tq_upI_ne (by omega)]; exact hf x hx
      · intro j h3 h4; rw [tq_upI_ne (by omega)]; exact hk j (by omega) h4
      · rw [tq_rv, tq_rv, tq_rv, tq_upI_at, tq_p16, tq_rv_congr (g := f) (c := 40 * a) (fun j hj => by rw [tq_upI_ne (by omega)])]
        have key : tq_lim (s &&& 65535) + tq_lim c' * 2 ^ 16 = tq_lim (f0 (40 * a + i)) + tq_lim (f0 (40 * b + i)) + tq_lim c := by unfold tq_lim; omega
        have := congrArg (· * 2 ^ (16 * i)) key
        simp only [Nat.add_mul, Nat.mul_assoc] at this
        omega
theorem tq_plus_spec {a b : Nat} (ha : a ≤ 4) (hb : b ≤ 4) (hab : a ≠ b) {f : Nat → Int32} (hw : tq_WL 200 f) : ∃ g, m_plus f (nI a) (nI b) = some g ∧ tq_WL 200 g ∧ tq_Fr a f g ∧ tq_rv g (40 * a) 40 = (tq_rv f (40 * a) 40 + tq_rv f (40 * b) 40) % 2 ^ 640 := by
  obtain ⟨g, c', e, w, fr, h⟩ := tq_plus_loop ha hb hab hw 41 0 0 f (by omega) (by omega) (.inl rfl) hw (fun _ _ => rfl) (fun _ _ _ => rfl) (by simp [tq_rv, tq_lim_0])
  refine ⟨g, e, w, fr, ?_⟩
  have hl : tq_rv g (40 * a) 40 < 2 ^ (16 * 40) := tq_rv_lt (fun j hj => tq_lim_lt w (by omega))
  rw [← h, Nat.add_mul_mod_self_right, Nat.mod_eq_of_lt hl]
theorem tq_apart_loop {a b t : Nat} (ha : a ≤ 4) (hb : b ≤ 4) (ht : t ≤ 4) {f0 : Nat → Int32} (hw0 : tq_WL 200 f0) : ∀ n i (c : Int32) (f : Nat → Int32), i ≤ 40 → 40 < n + i → (c = 0 ∨ c = 1) → tq_WL 200 f → tq_Fr t f0 f → (∀ j, i ≤ j → j < 40 → f (40 * t + j) = f0 (40 * t + j)) →
    tq_rv f (40 * t) i + tq_rv f0 (40 * b) i = tq_rv f0 (40 * a) i + tq_lim c * 2 ^ (16 * i) →
    ∃ g c', m_apart_b6 (nI a) (nI b) (nI t) n c (nI i) f = some g ∧ tq_WL 200 g ∧ tq_Fr t f0 g ∧ tq_rv g (40 * t) 40 + tq_rv f0 (40 * b) 40 = tq_rv f0 (40 * a) 40 + c' * 2 ^ 640
  | 0, i, c, f, h1, h2, hc, hw, hf, hk, hs => by omega
  | n + 1, i, c, f, h1, h2, hc, hw, hf, hk, hs => by
    unfold m_apart_b6 m_apart_b70
    show ∃ g c', (if nI 40 ≤ nI i then some f else _) = some g ∧ _
    by_cases h : 40 ≤ i
    · have : i = 40 := by omega
      subst this
      rw [if_pos ((tq_nI_le (by omega) (by omega)).2 h)]
      exact ⟨f, tq_lim c, rfl, hw, hf, hs⟩
    · rw [if_neg (fun q => h ((tq_nI_le (by omega) (by omega)).1 q)), tq_ix40, tq_ix40, tq_ix40, if_neg (tq_ixok ha (by omega)), if_neg (tq_ixok hb (by omega)), tq_nm_e, if_neg (tq_ixok ht (by omega)), tq_ixcl ha (by omega), tq_ixcl hb (by omega), tq_ixcl ht (by omega), tq_nI_add]
      have same : ∀ c, c ≤ 4 → f (40 * c + i) = f0 (40 * c + i) := fun c hc => by
        by_cases q : c = t
        · subst q; exact hk i (Nat.le_refl _) (by omega)
        · exact hf _ (by omega)
      rw [same a ha, same b hb]
      have la := hw0 (40 * a + i) (by omega)
      have lb := hw0 (40 * b + i) (by omega)
      have lc : 0 ≤ c.toInt ∧ c.toInt ≤ 1 := by rcases hc with rfl | rfl <;> decide
      have e1 : (f0 (40 * a + i) - f0 (40 * b + i)).toInt = (f0 (40 * a + i)).toInt - (f0 (40 * b + i)).toInt := tq_i32_sub (by omega)
      have e2 : (f0 (40 * a + i) - f0 (40 * b + i) - c).toInt = (f0 (40 * a + i)).toInt - (f0 (40 * b + i)).toInt - c.toInt := by rw [tq_i32_sub (by rw [e1]; omega), e1]
      generalize f0 (40 * a + i) - f0 (40 * b + i) - c = s at *
      have e4 := tq_and16 s
      have c0 : ((0 : Int32)).toInt = 0 := rfl
      have fin : ∀ c' : Int32, (c' = 0 ∨ c' = 1) → tq_lim (s &&& 65535) + tq_lim (f0 (40 * b + i)) + tq_lim c = tq_lim (f0 (40 * a + i)) + tq_lim c' * 2 ^ 16 →
          ∃ g c'', m_apart_b6 (nI a) (nI b) (nI t) n c' (nI (i + 1)) (upd f (40 * t + i) (s &&& 65535)) = some g ∧ tq_WL 200 g ∧ tq_Fr t f0 g ∧ tq_rv g (40 * t) 40 + tq_rv f0 (40 * b) 40 = tq_rv f0 (40 * a) 40 + c'' * 2 ^ 640 := by
        intro c' hc' key
        apply tq_apart_loop ha hb ht hw0 n (i + 1) c' _ (by omega) (by omega) hc'
        · exact tq_WL_upd16 hw s
        · intro x hx; rw [tq_upI_ne (by omega)]; exact hf x hx
        · intro j h3 h4; rw [tq_upI_ne (by omega)]; exact hk j (by omega) h4
        · rw [tq_rv, tq_rv, tq_rv, tq_upI_at, tq_p16, tq_rv_congr (g := f) (c := 40 * t) (fun j hj => by rw [tq_upI_ne (by omega)])]
          have := congrArg (· * 2 ^ (16 * i)) key
          simp only [Nat.add_mul, Nat.mul_assoc] at this
          omega
      by_cases q : 0 ≤ s
      · rw [if_pos q]; rw [Int32.le_iff_toInt_le, c0] at q
        exact fin 0 (.inl rfl) (by rw [tq_lim_0]; unfold tq_lim; omega)
      · rw [if_neg q]; rw [Int32.le_iff_toInt_le, c0] at q
        have l1 : tq_lim 1 = 1 := rfl
        exact fin 1 (.inr rfl) (by rw [l1]; unfold tq_lim; omega)
theorem tq_apart_spec {a b t : Nat} (ha : a ≤ 4) (hb : b ≤ 4) (ht : t ≤ 4) {f : Nat → Int32} (hw : tq_WL 200 f) (hle : tq_rv f (40 * b) 40 ≤ tq_rv f (40 * a) 40) : ∃ g, m_apart f (nI a) (nI b) (nI t) = some g ∧ tq_WL 200 g ∧ tq_Fr t f g ∧ tq_rv g (40 * t) 40 = tq_rv f (40 * a) 40 - tq_rv f (40 * b) 40 := by
  obtain ⟨g, c', e, w, fr, h⟩ := tq_apart_loop ha hb ht hw 41 0 0 f (by omega) (by omega) (.inl rfl) hw (fun _ _ => rfl) (fun _ _ _ => rfl) (by simp [tq_rv, tq_lim_0])
  refine ⟨g, e, w, fr, ?_⟩
  have hl : tq_rv g (40 * t) 40 < 2 ^ (16 * 40) := tq_rv_lt (fun j hj => tq_lim_lt w (by omega))
  have hl2 : 2 ^ (16 * 40) = 2 ^ 640 := rfl
  rw [hl2] at hl
  generalize 2 ^ 640 = X at *
  rcases Nat.eq_zero_or_pos c' with q | q
  · subst q; omega
  · have := Nat.mul_le_mul_right X q; omega
