/-! PURE PART 20: which -/
theorem exp_eq {t k : Nat} (ht : t < 16) (hk : k < 8) (w : Int32) (μ : Mm) : ∃ r, fX6_expected w (nI k) (nI t) = some r ∧ fX8_reasonBy (nI t) w (nI k) μ = some r := by
  by_cases h13 : t < 13
  · have hlt : nI t < (13 : Int32) := (nI_ltI (b := 13) (by omega) (by decide)).mpr h13
    have g0 : ∀ t, t < 13 → ∀ k, k < 8 → (fX8_takeFrom (nI t) (nI k)).isSome = true := by decide +kernel
    have g1 : ∀ t, t < 13 → ∀ k, k < 8 → (br1 (nI t) (nI k)).isSome = true ∧ (br2 (nI t) (nI k)).isSome = true := by decide +kernel
    unfold fX6_expected fX8_reasonBy fX6_expected_b21 fX8_reasonBy_b42
    rw [if_pos hlt, fit_get t h13 k hk, fit_put1 t h13 k hk, fit_put2 t h13 k hk, m_bring1, m_bring2]
    obtain ⟨a, ea⟩ := Option.isSome_iff_exists.mp (g0 t h13 k hk)
    obtain ⟨b, eb⟩ := Option.isSome_iff_exists.mp (g1 t h13 k hk).1
    obtain ⟨c, ec⟩ := Option.isSome_iff_exists.mp (g1 t h13 k hk).2
    rw [ea, eb, ec]
    by_cases w0 : w = 0
    · simp only [if_pos w0]; exact ⟨a, rfl, rfl⟩
    · simp only [if_neg w0]
      by_cases w1 : w = 1
      · simp only [if_pos w1]; exact ⟨b, rfl, rfl⟩
      · simp only [if_neg w1]; exact ⟨c, rfl, rfl⟩
  · have hlt : ¬ nI t < (13 : Int32) := fun z => h13 ((nI_ltI (b := 13) (by omega) (by decide)).mp z)
    have g : ∀ t, t < 16 → ¬ t < 13 → ∀ k, k < 8 → fX4_getFit (nI t) (nI k) = some (if nI t = 15 then 5 else 3) ∧ fX4_putFit (nI t) 1 (nI k) = some (if nI t = 15 then 5 else 3) ∧ fX4_putFit (nI t) 2 (nI k) = some (if nI t = 15 then 5 else 3) := by decide +kernel
    obtain ⟨a, b, c⟩ := g t ht h13 k hk
    refine ⟨if nI t = 15 then 5 else 3, ?_, ?_⟩
    · unfold fX6_expected fX6_expected_b21
      rw [a, b, c]
      by_cases w0 : w = 0
      · rw [if_pos w0]; rfl
      · rw [if_neg w0]
        by_cases w1 : w = 1
        · rw [if_pos w1]; rfl
        · rw [if_neg w1]; rfl
    · unfold fX8_reasonBy
      rw [if_neg hlt]
      by_cases z : nI t = 15
      · rw [if_pos z, if_pos z]
      · rw [if_neg z, if_neg z]
theorem wh_0 {μm : Mm} {n0 : Nat} (hn0 : n0 ≤ 6) (m31 : μm.1 0 31 = nI n0) (k4 : Int32 → Int32 → Option Int32) (v1 v2 : Int32) : ∀ n i, i ≤ n0 → n0 - i < n → fX8_which_b15 μm k4 n v1 v2 0 (nI i) = k4 (v1 ||| 0) (v2 + 1) := by
  intro n
  induction n with
  | zero => intro i hi hn; omega
  | succ n ih =>
    intro i hi hn
    unfold fX8_which_b15
    rw [m31, if_pos rfl, if_pos rfl]
    by_cases h : i = n0
    · subst h
      rw [if_pos (Int32.le_refl _)]
      rfl
    · rw [if_neg (show ¬ nI n0 ≤ nI i from nI_ge (by omega) (by omega))]
      unfold fX8_which_b61 fX8_which_b62
      rw [nI_1]
      exact ih (i + 1) (by omega) (by omega)
theorem wh_1 {μx μm : Mm} {n0 t : Nat} (hn0 : n0 ≤ 6) (ht : t < 16) (x53 : μx.1 5 3 = nI n0) (m31 : μm.1 0 31 = nI n0) (hj : ∀ j, j < n0 → μx.1 22 j = μm.1 21 j ∧ μx.1 23 j = μm.1 22 j ∧ μx.1 24 j = μm.1 23 j ∧ ∃ k, k < 8 ∧ μm.1 22 j = nI k) (k4 : Int32 → Int32 → Option Int32) (v1 : Int32) : ∀ n i, i ≤ n0 → n0 - i < n → ∃ b : Int32, fX6_allow_b2 μx n (nI t) (nI i) = some b ∧ fX8_which_b15 μm k4 n v1 (nI t) 1 (nI i) = k4 (v1 ||| (if b = 0 then 0 else jshl 1 (nI t))) (nI t + 1) := by
  intro n
  induction n with
  | zero => intro i hi hn; omega
  | succ n ih =>
    intro i hi hn
    unfold fX6_allow_b2 fX8_which_b15
    rw [x53, m31, if_neg one_ne, if_neg one_ne]
    by_cases h : i = n0
    · subst h
      refine ⟨1, by rw [if_pos (Int32.le_refl _)], ?_⟩
      rw [if_pos (Int32.le_refl _), if_neg one_ne]
      rfl
    · have hlt : i < n0 := by omega
      have hng : ¬ nI n0 ≤ nI i := nI_ge hlt (by omega)
      have ib : inb (nI i) 6 = true := inb_nI (by omega) (by decide)
      obtain ⟨a1, a2, a3, k, hk, a4⟩ := hj i hlt
      obtain ⟨r, e1, e2⟩ := exp_eq ht hk (μm.1 21 i) μm
      have ci : (nI i).toNatClampNeg = i := cl (by omega)
      simp only [if_neg hng, ib, if_true, ci, a1, a2, a3, a4, e1, e2, Option.bind_some]
      unfold fX8_which_b61 fX8_which_b62
      rw [nI_1]
      by_cases z : r = μm.1 23 i
      · rw [if_pos z, if_pos z]
        exact ih (i + 1) (by omega) (by omega)
      · rw [if_neg z, if_neg z]
        refine ⟨0, rfl, ?_⟩
        rw [if_pos rfl]
        exact wh_0 hn0 m31 k4 v1 (nI t) n (i + 1) (by omega) (by omega)
theorem wh {μx μm : Mm} (hV : RVw μx μm) : ∀ n t v, t ≤ 16 → 16 - t < n → ∃ r, fX7_which_b4 μx n v (nI t) = some r ∧ fX8_which_b4 μm n v (nI t) = some r := by
  obtain ⟨n0, hn0, x53, m31, hj⟩ := hV
  intro n
  induction n with
  | zero => intro t v ht hn; omega
  | succ n ih =>
    intro t v ht hn
    unfold fX7_which_b4 fX8_which_b4
    by_cases h : t = 16
    · subst h
      exact ⟨v, by rw [if_pos (show (15 : Int32) < nI 16 by decide)], by rw [if_pos (show (15 : Int32) < nI 16 by decide)]⟩
    · have hng : ¬ (15 : Int32) < nI t := fun z => by
        have := (nI_ltI (a := 15) (by decide) (by omega)).mp z
        omega
      obtain ⟨b, e1, e2⟩ := wh_1 (t := t) hn0 (by omega) x53 m31 hj (fX8_which_b4 μm n) v 100 0 (by omega) (by omega)
      have e1' : fX6_allow (nI t) μx = some b := e1
      have e2' : fX8_which_b15 μm (fX8_which_b4 μm n) 100 v (nI t) 1 0 = _ := e2
      rw [if_neg hng, if_neg hng, e1', e2']
      simp only [Option.bind_some]
      unfold fX7_which_b27
      rw [nI_1]
      by_cases z : b = 0
      · rw [if_pos z, if_pos z, Int32.or_zero]
        exact ih (t + 1) _ (by omega) (by omega)
      · rw [if_neg z, if_neg z]
        exact ih (t + 1) _ (by omega) (by omega)
theorem st_which : St_which Rel := by
  intro μx μm h
  obtain ⟨r, a1, a2⟩ := wh h.2.1 100 0 0 (by decide) (by decide)
  exact ⟨r, a1, a2, h⟩
