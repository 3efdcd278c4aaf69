theorem tq_draw_loop {q r n : Nat} (hq : q ≤ 1) (hr : r ≤ 4) (hn : n ≤ 32) {sf : Nat → Int32} (hs : tq_WL 64 sf) {l0 : Nat → Int32} : ∀ fu i (f : Nat → Int32), i ≤ n → n < fu + i → tq_WL 200 f → tq_Fr r l0 f → (∀ j, j < i → f (40 * r + j) = sf (32 * q + j)) → (∀ j, i ≤ j → j < 40 → f (40 * r + j) = 0) →
    ∃ g, m_draw_b7 (nI n) sf (nI q) (nI r) fu (nI i) f = some g ∧ tq_WL 200 g ∧ tq_Fr r l0 g ∧ (∀ j, j < n → g (40 * r + j) = sf (32 * q + j)) ∧ (∀ j, n ≤ j → j < 40 → g (40 * r + j) = 0) := by
  intro fu
  induction fu with
  | zero => intro i f a b; omega
  | succ fu ih =>
    intro i f h1 h2 hw hf ha hb
    unfold m_draw_b7
    by_cases h : n ≤ i
    · have : i = n := by omega
      subst this
      rw [if_pos ((tq_nI_le (by omega) (by omega)).2 h)]
      exact ⟨f, rfl, hw, hf, ha, hb⟩
    · have g3 := tq_ixok3 (i := i) hq (by omega)
      have g4 := tq_ixok (i := i) hr (by omega)
      rw [if_neg (fun w => h ((tq_nI_le (by omega) (by omega)).1 w)), tq_ix32, tq_ix40]
      simp only [if_neg g3, if_neg g4]
      rw [tq_ixcl3 hq (by omega), tq_ixcl hr (by omega), tq_nI_add]
      apply ih (i + 1) _ (by omega) (by omega)
      · exact tq_WL_upd hw (hs _ (by omega))
      · intro x hx; rw [tq_upI_ne (by omega)]; exact hf x hx
      · intro j hj
        rcases Nat.lt_or_ge j i with z | z
        · rw [tq_upI_ne (by omega)]; exact ha j z
        · have : j = i := by omega
          subst this; rw [tq_upI_at]
      · intro j h3 h4; rw [tq_upI_ne (by omega)]; exact hb j (by omega) h4
theorem tq_mdraw_spec {nz : Int32} {n : Nat} (h : tq_Sz nz n) {q r : Nat} (hq : q ≤ 1) (hr : r ≤ 4) {lf sf : Nat → Int32} (hl : tq_WL 200 lf) (hs : tq_WL 64 sf) : ∃ g, m_draw nz lf sf (nI q) (nI r) = some g ∧ tq_WL 200 g ∧ tq_Fr r lf g ∧ tq_rv g (40 * r) n = tq_rv sf (32 * q) n ∧ tq_rv g (40 * r) 40 = tq_rv sf (32 * q) n := by
  have hn := h.2
  unfold m_draw
  rw [tq_nz_eq h]
  obtain ⟨f1, e1, w1, fr1, z1⟩ := tq_zero_spec hr hl
  rw [tq_bd_e e1]
  obtain ⟨g, e, w, fr, a, b⟩ := tq_draw_loop hq hr (n := n) (by omega) hs (l0 := lf) 41 0 f1 (by omega) (by omega) w1 fr1 (fun j hj => by omega) (fun j _ hj => z1 j hj)
  have e1 : tq_rv g (40 * r) n = tq_rv sf (32 * q) n := tq_rv_congr a
  refine ⟨g, e, w, fr, e1, ?_⟩
  have s := tq_rv_split (f := g) (b := 40 * r) (i := n) (40 - n)
  rw [show n + (40 - n) = 40 by omega, tq_rv_zero (k := 40 - n) (fun j hj => by rw [Nat.add_assoc]; exact b _ (by omega) (by omega)), Nat.mul_zero, Nat.add_zero] at s
  rw [s, e1]
theorem tq_mnegate_spec {nz : Int32} {n : Nat} (h : tq_Sz nz n) {q : Nat} (hq : q ≤ 1) {lf sf : Nat → Int32} (hl : tq_WL 200 lf) (hs : tq_WL 64 sf) : ∃ l g, m_negate nz lf sf (nI q) = some (1, l, g) ∧ tq_WL 200 l ∧ tq_WL 64 g ∧ tq_Gr q sf g ∧ tq_rv g (32 * q) n = tq_negS n (tq_rv sf (32 * q) n) ∧ tq_Fr 0 lf l := by
  have hn := h.2
  unfold m_negate
  have hq' : nI q = 0 ∨ nI q = 1 := by
    have : q = 0 ∨ q = 1 := by omega
    rcases this with rfl | rfl
    · exact .inl rfl
    · exact .inr rfl
  have hsum : m_isSum (nI q) = 1 := by rcases hq' with z | z <;> rw [z] <;> decide
  rw [hsum, if_pos (by decide)]
  obtain ⟨l1, e1, w1, fr1, d1, d2⟩ := tq_mdraw_spec h hq (r := 0) (by omega) hl hs
  have e1' : m_draw nz lf sf (nI q) 0 = some l1 := e1
  obtain ⟨g2, e2, w2, fr2, h2⟩ := tq_mpour_spec h hq (r := 0) (by omega) w1 hs 1 d1
  have e2' : m_pour nz l1 sf (nI q) 0 1 = some g2 := e2
  obtain ⟨g3, e3, w3, fr3, h3⟩ := tq_mpour_spec h hq (r := 0) (by omega) w1 w2 1 d1
  have e3' : m_pour nz l1 g2 (nI q) 0 1 = some g3 := e3
  rw [tq_bd_e e1', tq_bd_e e2', tq_bd_e e3']
  refine ⟨l1, g3, rfl, w1, w3, fun x hx => by rw [fr3 x hx]; exact fr2 x hx, ?_, fr1⟩
  have hlt : tq_rv sf (32 * q) n < 2 ^ (16 * n) := tq_rv_lt (fun j hj => tq_lim_lt hs (by omega))
  rw [if_neg (by decide)] at h2 h3
  rw [h3, h2]
  unfold tq_negS
  generalize tq_rv sf (32 * q) n = V at *
  generalize 2 ^ (16 * n) = X at *
  rw [show V + (X - V) = X by omega, Nat.mod_self, Nat.zero_add]
theorem tq_negS_negS {n V : Nat} (h : V < 2 ^ (16 * n)) : tq_negS n (tq_negS n V) = V := by
  unfold tq_negS
  generalize 2 ^ (16 * n) = X at *
  rcases Nat.eq_zero_or_pos V with z | z
  · subst z; rw [Nat.sub_zero, Nat.mod_self, Nat.sub_zero, Nat.mod_self]
  · rw [Nat.mod_eq_of_lt (show X - V < X by omega), show X - (X - V) = V by omega, Nat.mod_eq_of_lt h]
theorem tq_qcase {q : Int32} (h : q = 0 ∨ q = 1) : ∃ k, k ≤ 1 ∧ q = nI k ∧ (k = 0 ↔ q = 0) ∧ (k = 1 ↔ q = 1) := by
  rcases h with rfl | rfl
  · exact ⟨0, by omega, rfl, ⟨fun _ => rfl, fun _ => rfl⟩, ⟨fun w => by omega, fun w => absurd w (by decide)⟩⟩
  · exact ⟨1, by omega, rfl, ⟨fun w => by omega, fun w => absurd w (by decide)⟩, ⟨fun _ => rfl, fun _ => rfl⟩⟩
theorem tq_msum1 {q : Int32} (h : q = 0 ∨ q = 1) : m_isSum q = 1 := by rcases h with rfl | rfl <;> decide
theorem tq_msum0 {q : Int32} (h : ¬ (q = 0 ∨ q = 1)) : m_isSum q = 0 := tq_isN (fun z => h (.inl z)) (fun z => h (.inr z))
theorem tq_mclear_spec {nz : Int32} {n : Nat} (h : tq_Sz nz n) {sf : Nat → Int32} (hs : tq_WL 64 sf) (q : Int32) : ∃ g, m_clear nz sf q = some (f_isSum q, g) ∧ tq_WL 64 g ∧ tq_rv g (32 * 0) n = (if q = 0 then 0 else tq_rv sf (32 * 0) n) ∧ tq_rv g (32 * 1) n = (if q = 1 then 0 else tq_rv sf (32 * 1) n) := by
  have hn := h.2
  unfold m_clear
  have hfs : f_isSum q = m_isSum q := rfl
  rw [hfs]
  by_cases hq : q = 0 ∨ q = 1
  · rw [tq_msum1 hq, if_pos (by decide)]
    obtain ⟨k, k1, rfl, k2, k3⟩ := tq_qcase hq
    rw [tq_nz_eq h]
    obtain ⟨g, e, w, fr, z⟩ := tq_clear_loop k1 (n := n) (by omega) sf 41 0 sf (by omega) (by omega) hs (fun _ _ => rfl) (fun j hj => by omega)
    have e' : m_clear_b11 (nI n) (nI k) 41 0 sf = some (1, g) := e
    refine ⟨g, e', w, ?_, ?_⟩
    · by_cases t : k = 0
      · rw [if_pos (k2.1 t)]; subst t; exact tq_rv_zero z
      · rw [if_neg (fun y => t (k2.2 y)), tq_Gr_rv (by omega) fr (fun y => t y.symm)]
    · by_cases t : k = 1
      · rw [if_pos (k3.1 t)]; subst t; exact tq_rv_zero z
      · rw [if_neg (fun y => t (k3.2 y)), tq_Gr_rv (by omega) fr (fun y => t y.symm)]
  · rw [tq_msum0 hq, if_neg (by decide)]
    exact ⟨sf, rfl, hs, by rw [if_neg (fun z => hq (.inl z))], by rw [if_neg (fun z => hq (.inr z))]⟩
theorem tq_rowq {nz : Int32} {n k : Nat} (hn : n ≤ 32) (hk : k ≤ 1) {sf g : Nat → Int32} (fr : tq_Gr k sf g) {V : Nat} (hV : tq_rv g (32 * k) n = V) : tq_rv g (32 * 0) n = (if k = 0 then V else tq_rv sf (32 * 0) n) ∧ tq_rv g (32 * 1) n = (if k = 1 then V else tq_rv sf (32 * 1) n) := by
  constructor
  · by_cases t : k = 0
    · rw [if_pos t]; subst t; exact hV
    · rw [if_neg t, tq_Gr_rv hn fr (fun y => t y.symm)]
  · by_cases t : k = 1
    · rw [if_pos t]; subst t; exact hV
    · rw [if_neg t, tq_Gr_rv hn fr (fun y => t y.symm)]
theorem tq_mnegate_q {nz : Int32} {n : Nat} (h : tq_Sz nz n) {lf sf : Nat → Int32} (hl : tq_WL 200 lf) (hs : tq_WL 64 sf) (q : Int32) : ∃ l g, m_negate nz lf sf q = some (f_isSum q, l, g) ∧ tq_WL 200 l ∧ tq_WL 64 g ∧ tq_rv g (32 * 0) n = (if q = 0 then tq_negS n (tq_rv sf (32 * 0) n) else tq_rv sf (32 * 0) n) ∧ tq_rv g (32 * 1) n = (if q = 1 then tq_negS n (tq_rv sf (32 * 1) n) else tq_rv sf (32 * 1) n) := by
  have hn := h.2
  have hfs : f_isSum q = m_isSum q := rfl
  by_cases hq : q = 0 ∨ q = 1
  · rw [hfs, tq_msum1 hq]
    rcases hq with rfl | rfl
    · obtain ⟨l, g, e, w1, w2, fr, hv, _⟩ := tq_mnegate_spec h (q := 0) (by omega) hl hs
      obtain ⟨r1, r2⟩ := tq_rowq (nz := nz) (by omega) (by omega) fr hv
      have z0 : nI 0 = 0 := rfl
      rw [z0] at e
      rw [if_pos rfl] at r1
      rw [if_neg (show ¬ (0 : Nat) = 1 by decide)] at r2
      rw [if_pos (show (0 : Int32) = 0 from rfl), if_neg (show ¬ (0 : Int32) = 1 by decide)]
      exact ⟨l, g, e, w1, w2, r1, r2⟩
    · obtain ⟨l, g, e, w1, w2, fr, hv, _⟩ := tq_mnegate_spec h (q := 1) (by omega) hl hs
      obtain ⟨r1, r2⟩ := tq_rowq (nz := nz) (by omega) (by omega) fr hv
      have z0 : nI 1 = 1 := rfl
      rw [z0] at e
      rw [if_neg (show ¬ (1 : Nat) = 0 by decide)] at r1
      rw [if_pos rfl] at r2
      rw [if_neg (show ¬ (1 : Int32) = 0 by decide), if_pos (show (1 : Int32) = 1 from rfl)]
      exact ⟨l, g, e, w1, w2, r1, r2⟩
  · unfold m_negate
    rw [hfs, tq_msum0 hq, if_neg (by decide)]
    exact ⟨lf, sf, rfl, hl, hs, by rw [if_neg (fun z => hq (.inl z))], by rw [if_neg (fun z => hq (.inr z))]⟩
theorem tq_mmerge1 {nz : Int32} {n : Nat} (h : tq_Sz nz n) {lf sf : Nat → Int32} (hl : tq_WL 200 lf) (hs : tq_WL 64 sf) {k k' : Nat} (hk : k ≤ 1) (hk' : k' = 1 - k) (hsub : (1 : Int32) - nI k = nI k') : ∃ l g, m_merge nz lf sf (nI k) = some (1, l, g) ∧ tq_WL 200 l ∧ tq_WL 64 g ∧ tq_Gr k sf g ∧ tq_rv g (32 * k) n = tq_incS n (tq_rv sf (32 * k) n) (tq_rv sf (32 * k') n) := by
  have hn := h.2
  unfold m_merge
  have hsum : m_isSum (nI k) = 1 := by
    have : k = 0 ∨ k = 1 := by omega
    rcases this with rfl | rfl <;> decide
  rw [hsum, if_pos (by decide), hsub]
  obtain ⟨r1, e1, h1⟩ := tq_mlost_spec h (q := k') (by omega) hs
  rw [tq_bd_e e1]
  have rest : ∀ f : Nat → Int32, tq_WL 64 f → tq_Gr k sf f → (tq_rv f (32 * k) n = tq_rv sf (32 * k) n ∧ tq_rv sf (32 * k') n ≠ 2 ^ (16 * n - 1) ∨ tq_rv f (32 * k) n = 2 ^ (16 * n - 1) ∧ tq_rv sf (32 * k') n = 2 ^ (16 * n - 1)) → ∃ l g, m_merge_b24 nz (nI k) lf f = some (1, l, g) ∧ tq_WL 200 l ∧ tq_WL 64 g ∧ tq_Gr k sf g ∧ tq_rv g (32 * k) n = tq_incS n (tq_rv sf (32 * k) n) (tq_rv sf (32 * k') n) := by
    intro f wf frf hcase
    unfold m_merge_b24
    obtain ⟨r2, e2, h2⟩ := tq_mlost_spec h hk wf
    rw [tq_bd_e e2]
    rcases h2 with ⟨a, b⟩ | ⟨a, b⟩
    · rw [if_neg (by rw [b]; decide)]
      refine ⟨lf, f, rfl, hl, wf, frf, ?_⟩
      unfold tq_incS
      rcases hcase with ⟨c1, c2⟩ | ⟨c1, c2⟩
      · rw [if_pos (.inl (by rw [← c1]; exact a)), a]
      · rw [if_pos (.inr c2), a]
    · rw [if_pos b]
      rcases hcase with ⟨c1, c2⟩ | ⟨c1, c2⟩
      · obtain ⟨l1, e3, w3, fr3, d1, d2⟩ := tq_mdraw_spec h (q := k') (by omega) (r := 0) (by omega) hl wf
        have e3' : m_draw nz lf f (1 - nI k) 0 = some l1 := by rw [hsub]; exact e3
        obtain ⟨g4, e4, w4, fr4, h4⟩ := tq_mpour_spec h hk (r := 0) (by omega) w3 wf 0 d1
        have e4' : m_pour nz l1 f (nI k) 0 0 = some g4 := e4
        rw [tq_bd_e e3', tq_bd_e e4']
        refine ⟨l1, g4, rfl, w3, w4, fun x hx => by rw [fr4 x hx]; exact frf x hx, ?_⟩
        rw [h4, if_pos rfl, c1, tq_Gr_rv (by omega) frf (q := k') (by omega)]
        unfold tq_incS
        rw [if_neg (by rintro (z | z); exact a (by rw [c1]; exact z); exact c2 z)]
      · exact absurd c1 a
  rcases h1 with ⟨a, b⟩ | ⟨a, b⟩
  · rw [if_neg (by rw [b]; decide)]
    obtain ⟨g, e2, w2, fr2, h2⟩ := tq_mlose_spec h hk hs
    rw [tq_bd_e e2]
    exact rest g w2 fr2 (.inr ⟨h2, a⟩)
  · rw [if_pos b]
    exact rest sf hs (fun _ _ => rfl) (.inl ⟨rfl, a⟩)
theorem tq_mmerge_q {nz : Int32} {n : Nat} (h : tq_Sz nz n) {lf sf : Nat → Int32} (hl : tq_WL 200 lf) (hs : tq_WL 64 sf) (q : Int32) : ∃ l g, m_merge nz lf sf q = some (f_isSum q, l, g) ∧ tq_WL 200 l ∧ tq_WL 64 g ∧ tq_rv g (32 * 0) n = (if q = 0 then tq_incS n (tq_rv sf (32 * 0) n) (tq_rv sf (32 * 1) n) else tq_rv sf (32 * 0) n) ∧ tq_rv g (32 * 1) n = (if q = 1 then tq_incS n (tq_rv sf (32 * 1) n) (tq_rv sf (32 * 0) n) else tq_rv sf (32 * 1) n) := by
  have hn := h.2
  have hfs : f_isSum q = m_isSum q := rfl
  by_cases hq : q = 0 ∨ q = 1
  · rw [hfs, tq_msum1 hq]
    rcases hq with rfl | rfl
    · obtain ⟨l, g, e, w1, w2, fr, hv⟩ := tq_mmerge1 h hl hs (k := 0) (k' := 1) (by omega) (by omega) (by decide)
      obtain ⟨r1, r2⟩ := tq_rowq (nz := nz) (by omega) (by omega) fr hv
      have z0 : nI 0 = 0 := rfl
      rw [z0] at e
      rw [if_pos rfl] at r1
      rw [if_neg (show ¬ (0 : Nat) = 1 by decide)] at r2
      rw [if_pos (show (0 : Int32) = 0 from rfl), if_neg (show ¬ (0 : Int32) = 1 by decide)]
      exact ⟨l, g, e, w1, w2, r1, r2⟩
    · obtain ⟨l, g, e, w1, w2, fr, hv⟩ := tq_mmerge1 h hl hs (k := 1) (k' := 0) (by omega) (by omega) (by decide)
      obtain ⟨r1, r2⟩ := tq_rowq (nz := nz) (by omega) (by omega) fr hv
      have z0 : nI 1 = 1 := rfl
      rw [z0] at e
      rw [if_neg (show ¬ (1 : Nat) = 0 by decide)] at r1
      rw [if_pos rfl] at r2
      rw [if_neg (show ¬ (1 : Int32) = 0 by decide), if_pos (show (1 : Int32) = 1 from rfl)]
      exact ⟨l, g, e, w1, w2, r1, r2⟩
  · unfold m_merge
    rw [hfs, tq_msum0 hq, if_neg (by decide)]
    exact ⟨lf, sf, rfl, hl, hs, by rw [if_neg (fun z => hq (.inl z))], by rw [if_neg (fun z => hq (.inr z))]⟩
