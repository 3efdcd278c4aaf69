theorem tq_ix32 (r i : Nat) : (32 : Int32) * nI r + nI i = nI (32 * r + i) := by
  show nI 32 * nI r + nI i = _
  unfold nI; rw [← Int32.ofNat_mul, ← Int32.ofNat_add]
theorem tq_ixok3 {r i : Nat} (hr : r ≤ 1) (hi : i < 32) : ¬ (nI (32 * r + i) < 0 ∨ 64 ≤ (nI (32 * r + i)).toNatClampNeg) := tq_nI_ok (by omega) (by omega)
theorem tq_ixcl3 {r i : Nat} (hr : r ≤ 1) (hi : i < 32) : (nI (32 * r + i)).toNatClampNeg = 32 * r + i := tq_nI_cl (by omega)
/-- nothing but sum r may differ -/
def tq_Gr (r : Nat) (f g : Nat → Int32) : Prop := ∀ x, x / 32 ≠ r → g x = f x
theorem tq_Gr_rv {r n : Nat} {f g : Nat → Int32} (hn : n ≤ 32) (h : tq_Gr r f g) {q : Nat} (hq : q ≠ r) : tq_rv g (32 * q) n = tq_rv f (32 * q) n := tq_rv_congr (fun j hj => h _ (by omega))
theorem tq_nz_eq {nz : Int32} {n : Nat} (h : tq_Sz nz n) : nz = nI n := tq_of_i32 h.1
theorem tq_lost_loop {q n : Nat} (hq : q ≤ 1) (hn : n ≤ 32) (h1n : 1 ≤ n) (f : Nat → Int32) : ∀ fu i (v : Int32), i ≤ n - 1 → n - 1 < fu + i → (v = 0 ∨ v = 1) →
    ∃ r, m_lost_b29 (nI n) f (nI q) fu v (nI i) = some r ∧ (r = 0 ∨ r = 1) ∧ (r = 1 ↔ v = 1 ∧ ∀ j, i ≤ j → j < n - 1 → f (32 * q + j) = 0) := by
  intro fu
  induction fu with
  | zero => intro i v a b c; omega
  | succ fu ih =>
    intro i v h1 h2 hv
    unfold m_lost_b29 m_lost_b62
    rw [tq_nI_sub h1n (by omega)]
    by_cases h : n - 1 ≤ i
    · rw [if_pos ((tq_nI_le (by omega) (by omega)).2 h)]
      exact ⟨v, rfl, hv, ⟨fun w => ⟨w, fun j a b => by omega⟩, fun w => w.1⟩⟩
    · rw [if_neg (fun w => h ((tq_nI_le (by omega) (by omega)).1 w)), tq_ix32, if_neg (tq_ixok3 hq (by omega)), tq_ixcl3 hq (by omega), tq_nI_add]
      by_cases z : v = 0
      · rw [if_pos z]
        obtain ⟨r, e, r1, r2⟩ := ih (i + 1) 0 (by omega) (by omega) (.inl rfl)
        refine ⟨r, e, r1, ⟨fun w => absurd (r2.1 w).1 (by decide), fun w => absurd (z.symm.trans w.1) (by decide)⟩⟩
      · rw [if_neg z]
        have v1 := hv.resolve_left z
        by_cases t : f (32 * q + i) = 0
        · rw [if_neg (fun w => w t)]
          obtain ⟨r, e, r1, r2⟩ := ih (i + 1) 1 (by omega) (by omega) (.inr rfl)
          refine ⟨r, e, r1, ⟨fun w => ⟨v1, fun j a b => ?_⟩, fun w => r2.2 ⟨rfl, fun j a b => w.2 j (by omega) b⟩⟩⟩
          rcases Nat.eq_or_lt_of_le a with y | y
          · subst y; exact t
          · exact (r2.1 w).2 j (by omega) b
        · rw [if_pos t]
          obtain ⟨r, e, r1, r2⟩ := ih (i + 1) 0 (by omega) (by omega) (.inl rfl)
          exact ⟨r, e, r1, ⟨fun w => absurd (r2.1 w).1 (by decide), fun w => absurd (w.2 i (Nat.le_refl _) (by omega)) t⟩⟩
theorem tq_rv_last {f : Nat → Int32} {b n : Nat} (h1n : 1 ≤ n) : tq_rv f b n = tq_rv f b (n - 1) + tq_lim (f (b + (n - 1))) * 2 ^ (16 * (n - 1)) := by
  obtain ⟨k, rfl⟩ : ∃ k, n = k + 1 := ⟨n - 1, by omega⟩
  rfl
theorem tq_p15 {n : Nat} (h1n : 1 ≤ n) : 2 ^ (16 * n - 1) = 32768 * 2 ^ (16 * (n - 1)) := by
  have h := Nat.pow_add 2 15 (16 * (n - 1))
  rw [show 15 + 16 * (n - 1) = 16 * n - 1 by omega] at h; exact h
theorem tq_mlost_spec {nz : Int32} {n : Nat} (h : tq_Sz nz n) {q : Nat} (hq : q ≤ 1) {f : Nat → Int32} (hw : tq_WL 64 f) : ∃ r, m_lost nz f (nI q) = some r ∧ ((tq_rv f (32 * q) n = 2 ^ (16 * n - 1) ∧ r = 1) ∨ (tq_rv f (32 * q) n ≠ 2 ^ (16 * n - 1) ∧ r = 0)) := by
  have hn := h.2
  unfold m_lost m_lost_b26
  rw [tq_nz_eq h]
  have e1 : (32 : Int32) * nI q + nI n - 1 = nI (32 * q + (n - 1)) := by
    rw [tq_ix32]
    have : (1 : Int32) = nI 1 := rfl
    rw [this, tq_ixs (by omega) (by omega)]; congr 1; omega
  rw [e1, if_neg (tq_ixok3 hq (by omega)), tq_ixcl3 hq (by omega)]
  have hl := hw (32 * q + (n - 1)) (by omega)
  have htop : (f (32 * q + (n - 1)) = 32768) ↔ tq_lim (f (32 * q + (n - 1))) = 32768 := by
    constructor
    · intro w; rw [w]; rfl
    · intro w; apply Int32.toInt.inj
      have := tq_lim_i hl.1
      show _ = (32768 : Int)
      omega
  have hlast := tq_rv_last (f := f) (b := 32 * q) (n := n) (by omega)
  have hp := tq_p15 (n := n) (by omega)
  have hlow : tq_rv f (32 * q) (n - 1) < 2 ^ (16 * (n - 1)) := tq_rv_lt (fun j hj => tq_lim_lt hw (by omega))
  have key : (f (32 * q + (n - 1)) = 32768 ∧ ∀ j, 0 ≤ j → j < n - 1 → f (32 * q + j) = 0) ↔ tq_rv f (32 * q) n = 2 ^ (16 * n - 1) := by
    rw [hlast, hp, htop]
    constructor
    · rintro ⟨a, b⟩
      rw [a, tq_rv_zero (fun j hj => b j (by omega) hj), Nat.zero_add]
    · intro w
      have pz := Nat.two_pow_pos (16 * (n - 1))
      have a : tq_lim (f (32 * q + (n - 1))) = 32768 := by
        have := congrArg (· / 2 ^ (16 * (n - 1))) w
        simp only [Nat.add_mul_div_right _ _ pz, Nat.mul_div_cancel _ pz, Nat.div_eq_of_lt hlow] at this
        omega
      refine ⟨a, fun j _ hj => ?_⟩
      have hz : tq_rv f (32 * q) (n - 1) = 0 := by rw [a] at w; omega
      exact tq_rv_eq0 hw (k := n - 1) (by omega) hz j hj
  have fin : ∀ v : Int32, (v = 0 ∨ v = 1) → (v = 1 ↔ f (32 * q + (n - 1)) = 32768) → ∃ r, m_lost_b29 (nI n) f (nI q) 41 v 0 = some r ∧ ((tq_rv f (32 * q) n = 2 ^ (16 * n - 1) ∧ r = 1) ∨ (tq_rv f (32 * q) n ≠ 2 ^ (16 * n - 1) ∧ r = 0)) := by
    intro v hv hiff
    obtain ⟨r, e, r1, r2⟩ := tq_lost_loop (n := n) hq (by omega) (by omega) f 41 0 v (by omega) (by omega) hv
    refine ⟨r, e, ?_⟩
    rw [hiff, key] at r2
    rcases r1 with z | z
    · right; exact ⟨fun w => by rw [r2.2 w] at z; exact absurd z (by decide), z⟩
    · left; exact ⟨r2.1 z, z⟩
  by_cases t : f (32 * q + (n - 1)) = 32768
  · rw [if_neg (fun w => w t)]; exact fin 1 (.inr rfl) ⟨fun _ => t, fun _ => rfl⟩
  · rw [if_pos t]; exact fin 0 (.inl rfl) ⟨fun w => absurd w (by decide), fun w => absurd w t⟩
theorem tq_lose_loop {q n : Nat} (hq : q ≤ 1) (hn : n ≤ 32) (h1n : 1 ≤ n) (f0 : Nat → Int32) : ∀ fu i (f : Nat → Int32), i ≤ n → n < fu + i → tq_WL 64 f → tq_Gr q f0 f → (∀ j, j < i → f (32 * q + j) = if j = n - 1 then 32768 else 0) →
    ∃ g, m_lose_b2 (nI n) (nI q) fu (nI i) f = some g ∧ tq_WL 64 g ∧ tq_Gr q f0 g ∧ (∀ j, j < n → g (32 * q + j) = if j = n - 1 then 32768 else 0) := by
  intro fu
  induction fu with
  | zero => intro i f a b c; omega
  | succ fu ih =>
    intro i f h1 h2 hw hg hs
    unfold m_lose_b2 m_lose_b36
    rw [tq_nI_sub h1n (by omega)]
    by_cases h : n ≤ i
    · rw [if_pos ((tq_nI_le (by omega) (by omega)).2 h)]
      exact ⟨f, rfl, hw, hg, fun j hj => hs j (by omega)⟩
    · have g3 := tq_ixok3 (i := i) hq (by omega)
      rw [if_neg (fun w => h ((tq_nI_le (by omega) (by omega)).1 w)), tq_ix32]
      simp only [if_neg g3]
      rw [tq_ixcl3 hq (by omega), tq_nI_add]
      have go : ∀ t : Int32, (t = if i = n - 1 then 32768 else 0) → ∃ g, m_lose_b2 (nI n) (nI q) fu (nI (i + 1)) (upd f (32 * q + i) t) = some g ∧ tq_WL 64 g ∧ tq_Gr q f0 g ∧ (∀ j, j < n → g (32 * q + j) = if j = n - 1 then 32768 else 0) := by
        intro t ht
        apply ih (i + 1) _ (by omega) (by omega)
        · apply tq_WL_upd hw; rw [ht]; split <;> decide
        · intro x hx; rw [tq_upI_ne (by omega)]; exact hg x hx
        · intro j hj
          rcases Nat.lt_or_ge j i with z | z
          · rw [tq_upI_ne (by omega)]; exact hs j z
          · have : j = i := by omega
            subst this; rw [tq_upI_at, ht]
      by_cases e : i = n - 1
      · rw [if_neg (fun w => w (by rw [e]))]
        exact go 32768 (by rw [if_pos e])
      · have : ¬ nI i = nI (n - 1) := fun w => e (by
          have := congrArg Int32.toInt w
          rw [tq_nI_i (by omega), tq_nI_i (by omega)] at this; omega)
        rw [if_pos this]
        exact go 0 (by rw [if_neg e])
theorem tq_mlose_spec {nz : Int32} {n : Nat} (h : tq_Sz nz n) {q : Nat} (hq : q ≤ 1) {f : Nat → Int32} (hw : tq_WL 64 f) : ∃ g, m_lose nz f (nI q) = some g ∧ tq_WL 64 g ∧ tq_Gr q f g ∧ tq_rv g (32 * q) n = 2 ^ (16 * n - 1) := by
  have hn := h.2
  unfold m_lose
  rw [tq_nz_eq h]
  obtain ⟨g, e, w, fr, hs⟩ := tq_lose_loop hq (n := n) (by omega) (by omega) f 41 0 f (by omega) (by omega) hw (fun _ _ => rfl) (fun j hj => by omega)
  refine ⟨g, e, w, fr, ?_⟩
  rw [tq_rv_last (by omega), tq_rv_zero (fun j hj => by rw [hs j (by omega), if_neg (by omega)]), hs (n - 1) (by omega), if_pos rfl, tq_p15 (by omega), Nat.zero_add]; rfl
theorem tq_clear_loop {q n : Nat} (hq : q ≤ 1) (hn : n ≤ 32) (f0 : Nat → Int32) : ∀ fu i (f : Nat → Int32), i ≤ n → n < fu + i → tq_WL 64 f → tq_Gr q f0 f → (∀ j, j < i → f (32 * q + j) = 0) →
    ∃ g, m_clear_b11 (nI n) (nI q) fu (nI i) f = some (1, g) ∧ tq_WL 64 g ∧ tq_Gr q f0 g ∧ (∀ j, j < n → g (32 * q + j) = 0) := by
  intro fu
  induction fu with
  | zero => intro i f a b c; omega
  | succ fu ih =>
    intro i f h1 h2 hw hg hs
    unfold m_clear_b11
    by_cases h : n ≤ i
    · rw [if_pos ((tq_nI_le (by omega) (by omega)).2 h)]
      exact ⟨f, rfl, hw, hg, fun j hj => hs j (by omega)⟩
    · rw [if_neg (fun w => h ((tq_nI_le (by omega) (by omega)).1 w)), tq_ix32, if_neg (tq_ixok3 hq (by omega)), tq_ixcl3 hq (by omega), tq_nI_add]
      apply ih (i + 1) _ (by omega) (by omega)
      · exact tq_WL_upd hw (by decide)
      · intro x hx; rw [tq_upI_ne (by omega)]; exact hg x hx
      · intro j hj
        rcases Nat.lt_or_ge j i with z | z
        · rw [tq_upI_ne (by omega)]; exact hs j z
        · have : j = i := by omega
          subst this; rw [tq_upI_at]
theorem tq_pour_loop {q r n : Nat} (hq : q ≤ 1) (hr : r ≤ 4) (hn : n ≤ 32) {lf : Nat → Int32} (hl : tq_WL 200 lf) (mi : Int32) {f0 : Nat → Int32} (hw0 : tq_WL 64 f0) : ∀ fu i (c : Int32) (f : Nat → Int32), i ≤ n → n < fu + i → (-1 ≤ c.toInt ∧ c.toInt ≤ 1) → tq_WL 64 f → tq_Gr q f0 f → (∀ j, i ≤ j → j < n → f (32 * q + j) = f0 (32 * q + j)) →
    ((tq_rv f (32 * q) i : Nat) : Int) + c.toInt * ((2 ^ (16 * i) : Nat) : Int) = (tq_rv f0 (32 * q) i : Nat) + (if mi = 0 then (tq_rv lf (40 * r) i : Int) else -(tq_rv lf (40 * r) i : Int)) →
    ∃ g c', m_pour_b6 (nI n) lf (nI q) (nI r) mi fu c (nI i) f = some g ∧ tq_WL 64 g ∧ tq_Gr q f0 g ∧ ((tq_rv g (32 * q) n : Nat) : Int) + c' * ((2 ^ (16 * n) : Nat) : Int) = (tq_rv f0 (32 * q) n : Nat) + (if mi = 0 then (tq_rv lf (40 * r) n : Int) else -(tq_rv lf (40 * r) n : Int)) := by
  intro fu
  induction fu with
  | zero => intro i c f a b; omega
  | succ fu ih =>
    intro i c f h1 h2 hc hw hg hk hs
    unfold m_pour_b6 m_pour_b59
    by_cases h : n ≤ i
    · have : i = n := by omega
      subst this
      rw [if_pos ((tq_nI_le (by omega) (by omega)).2 h)]
      exact ⟨f, c.toInt, rfl, hw, hg, hs⟩
    · have g3 := tq_ixok3 (i := i) hq (by omega)
      have g4 := tq_ixok (i := i) hr (by omega)
      rw [if_neg (fun w => h ((tq_nI_le (by omega) (by omega)).1 w)), tq_ix32, tq_ix40]
      simp only [if_neg g3, if_neg g4, tq_nm_e]
      rw [tq_ixcl3 hq (by omega), tq_ixcl hr (by omega), tq_nI_add]
      have ea : f (32 * q + i) = f0 (32 * q + i) := hk i (Nat.le_refl _) (by omega)
      rw [ea]
      have la := hw0 (32 * q + i) (by omega)
      have lb := hl (40 * r + i) (by omega)
      have go : ∀ t : Int32, t.toInt = (if mi = 0 then (tq_lim (lf (40 * r + i)) : Int) else -(tq_lim (lf (40 * r + i)) : Int)) → ∃ g c', m_pour_b6 (nI n) lf (nI q) (nI r) mi fu ((f0 (32 * q + i) + t + c) >>> ((16 : Int32) &&& 31)) (nI (i + 1)) (upd f (32 * q + i) ((f0 (32 * q + i) + t + c) &&& 65535)) = some g ∧ tq_WL 64 g ∧ tq_Gr q f0 g ∧ ((tq_rv g (32 * q) n : Nat) : Int) + c' * ((2 ^ (16 * n) : Nat) : Int) = (tq_rv f0 (32 * q) n : Nat) + (if mi = 0 then (tq_rv lf (40 * r) n : Int) else -(tq_rv lf (40 * r) n : Int)) := by
        intro t ht
        have lim1 := tq_lim_i la.1
        have lim2 := tq_lim_i lb.1
        have tb : -65536 < t.toInt ∧ t.toInt < 65536 := by rw [ht]; split <;> omega
        have e1 : (f0 (32 * q + i) + t).toInt = (f0 (32 * q + i)).toInt + t.toInt := tq_i32_add (by omega)
        have e2 : (f0 (32 * q + i) + t + c).toInt = (f0 (32 * q + i)).toInt + t.toInt + c.toInt := by rw [tq_i32_add (by rw [e1]; omega), e1]
        generalize f0 (32 * q + i) + t + c = s at *
        have e3 := tq_sar16 s
        have e4 := tq_and16 s
        have e5 := tq_lim_i (x := s &&& 65535) (by rw [e4]; omega)
        generalize s >>> ((16 : Int32) &&& 31) = c2 at *
        apply ih (i + 1) c2 _ (by omega) (by omega) (by omega)
        · exact tq_WL_upd16 hw s
        · intro x hx; rw [tq_upI_ne (by omega)]; exact hg x hx
        · intro j h3 h4; rw [tq_upI_ne (by omega)]; exact hk j (by omega) h4
        · have r1 : ∀ (h : Nat → Int32) (z k : Nat), tq_rv h z (k + 1) = tq_rv h z k + tq_lim (h (z + k)) * 2 ^ (16 * k) := fun _ _ _ => rfl
          rw [r1, r1, r1, tq_upI_at, tq_p16, tq_rv_congr (g := f) (c := 32 * q) (fun j hj => by rw [tq_upI_ne (by omega)])]
          have key : (tq_lim (s &&& 65535) : Int) + c2.toInt * 65536 = (tq_lim (f0 (32 * q + i)) : Int) + t.toInt + c.toInt := by omega
          have k2 := congrArg (· * ((2 ^ (16 * i) : Nat) : Int)) key
          simp only [Int.add_mul, Int.mul_assoc] at k2
          rw [ht] at k2
          have cst : ((2 ^ 16 * 2 ^ (16 * i) : Nat) : Int) = 65536 * ((2 ^ (16 * i) : Nat) : Int) := by rw [Int.natCast_mul]; rfl
          rw [cst, Int.natCast_add, Int.natCast_add, Int.natCast_mul, Int.natCast_mul]
          by_cases m0 : mi = 0
          · rw [if_pos m0] at hs k2 ⊢
            rw [Int.natCast_add, Int.natCast_mul]
            omega
          · rw [if_neg m0] at hs k2 ⊢
            rw [Int.natCast_add, Int.natCast_mul, Int.neg_add]
            rw [Int.neg_mul] at k2
            omega
      by_cases m0 : mi = 0
      · rw [if_pos m0]
        exact go _ (by rw [if_pos m0]; exact (tq_lim_i lb.1).symm)
      · rw [if_neg m0]
        exact go _ (by rw [if_neg m0, tq_i32_neg (by omega), tq_lim_i lb.1])
theorem tq_mpour_spec {nz : Int32} {n : Nat} (h : tq_Sz nz n) {q r : Nat} (hq : q ≤ 1) (hr : r ≤ 4) {lf f : Nat → Int32} (hl : tq_WL 200 lf) (hw : tq_WL 64 f) (mi : Int32) {V : Nat} (hV : tq_rv lf (40 * r) n = V) :
    ∃ g, m_pour nz lf f (nI q) (nI r) mi = some g ∧ tq_WL 64 g ∧ tq_Gr q f g ∧ tq_rv g (32 * q) n = (if mi = 0 then (tq_rv f (32 * q) n + V) % 2 ^ (16 * n) else (tq_rv f (32 * q) n + (2 ^ (16 * n) - V)) % 2 ^ (16 * n)) := by
  have hn := h.2
  unfold m_pour
  rw [tq_nz_eq h]
  obtain ⟨g, c', e, w, fr, hs⟩ := tq_pour_loop hq hr (n := n) (by omega) hl mi hw 41 0 0 f (by omega) (by omega) (by decide) hw (fun _ _ => rfl) (fun _ _ _ => rfl) (by simp [tq_rv])
  refine ⟨g, e, w, fr, ?_⟩
  rw [hV] at hs
  have hg : tq_rv g (32 * q) n < 2 ^ (16 * n) := tq_rv_lt (fun j hj => tq_lim_lt w (by omega))
  have hV2 : V < 2 ^ (16 * n) := by rw [← hV]; exact tq_rv_lt (fun j hj => tq_lim_lt hl (by omega))
  generalize 2 ^ (16 * n) = X at *
  have gm : ((tq_rv g (32 * q) n : Nat) : Int) = ((tq_rv g (32 * q) n : Nat) : Int) % (X : Int) := (Int.emod_eq_of_lt (by omega) (by omega)).symm
  by_cases m0 : mi = 0
  · rw [if_pos m0] at hs ⊢
    have : ((tq_rv g (32 * q) n : Nat) : Int) = (((tq_rv f (32 * q) n + V) % X : Nat) : Int) := by
      rw [gm, Int.natCast_emod, Int.natCast_add, ← hs, Int.add_mul_emod_self_right]
    omega
  · rw [if_neg m0] at hs ⊢
    have : ((tq_rv g (32 * q) n : Nat) : Int) = (((tq_rv f (32 * q) n + (X - V)) % X : Nat) : Int) := by
      have e1 : ((tq_rv f (32 * q) n + (X - V) : Nat) : Int) = ((tq_rv g (32 * q) n : Nat) : Int) + (c' + 1) * (X : Int) := by rw [Int.add_mul, Int.one_mul]; omega
      rw [gm, Int.natCast_emod, e1, Int.add_mul_emod_self_right]
    omega
