/-! PURE PART 22: least, the loops -/
theorem bf {b : Bool} (h : ¬ b = true) : b = false := by cases b with
  | true => exact absurd rfl h
  | false => rfl
theorem m_has (p : Int32) (i : Nat) : fX8_has p (nI i) = some (bz (sel p i = true)) := by
  unfold fX8_has sel
  by_cases h : (jshr p (nI i)) &&& (1 : Int32) = 1
  · rw [if_pos h, bz_t (decide_eq_true h)]
  · rw [if_neg h, bz_f (fun z => h (of_decide_eq_true z))]
theorem m_hPl {μ : Mm} {i : Nat} (hi : i < 10) : fX8_holdsPlain (nI i) μ = some (bz (0 ≤ μ.1 2 i ∧ μ.1 2 i ≤ 7)) := by
  unfold fX8_holdsPlain
  rw [if_pos (inb10 hi), cl (by omega), m_isPlain]
  simp only [Option.bind_some]
  by_cases h : 0 ≤ μ.1 2 i ∧ μ.1 2 i ≤ 7
  · rw [bz_t h]; rfl
  · rw [bz_f h]; rfl
theorem l_m1 {μ : Mm} (p : Int32) : ∀ n i, i ≤ 10 → 10 - i < n → fX8_least_b19 μ n p (bz (lP (μ.1 2) p i = true)) (nI i) = if lP (μ.1 2) p 10 = true then fX8_least_b71 μ 100 p (-9) 7 else some (-3) := by
  intro n
  induction n with
  | zero => intro i hi hn; omega
  | succ n ih =>
    intro i hi hn
    unfold fX8_least_b19
    by_cases h10 : i = 10
    · subst h10
      rw [if_pos (show (10 : Int32) ≤ nI 10 by decide)]
      by_cases z : lP (μ.1 2) p 10 = true
      · rw [bz_t z, if_neg one_ne, if_pos z]
      · rw [bz_f z, if_pos rfl, if_neg z]
    · have hlt : i < 10 := by omega
      have hng : ¬ (10 : Int32) ≤ nI i := nI_ge (b := 10) hlt (by decide)
      have ih' := ih (i + 1) (by omega) (by omega)
      have hs : lP (μ.1 2) p (i + 1) = (lP (μ.1 2) p i && (!sel p i || decide (0 ≤ μ.1 2 i ∧ μ.1 2 i ≤ 7))) := rfl
      rw [if_neg hng, m_has, m_hPl hlt]
      unfold fX8_least_b45 fX8_least_b49 fX8_least_b50
      rw [nI_1]
      simp only [Option.bind_some]
      by_cases z : lP (μ.1 2) p i = true
      · rw [bz_t z, if_neg one_ne]
        by_cases s : sel p i = true
        · rw [bz_t s, if_neg one_ne]
          by_cases y : 0 ≤ μ.1 2 i ∧ μ.1 2 i ≤ 7
          · rw [bz_t y, if_neg one_ne]
            rw [bz_t (by rw [hs, z, s, decide_eq_true y]; rfl)] at ih'
            exact ih'
          · rw [bz_f y, if_pos rfl]
            rw [bz_f (by rw [hs, z, s, decide_eq_false y]; decide)] at ih'
            exact ih'
        · rw [bz_f s, if_pos rfl]
          rw [bz_t (by rw [hs, z, bf s]; rfl)] at ih'
          exact ih'
      · rw [bz_f z, if_pos rfl]
        rw [bz_f (by rw [hs, bf z]; simp)] at ih'
        exact ih'
theorem l_m2 {μ : Mm} {p : Int32} (hP : lP (μ.1 2) p 10 = true) (k71 : Int32 → Int32 → Int32 → Option Int32) (v3 : Int32) {v : Nat} (hv : v < 8) : ∀ n i, i ≤ 10 → 10 - i < n → fX8_least_b82 μ k71 n p v3 (nI v) (bz (lA (μ.1 2) p (nI v) i = true)) (nI i) = k71 p (if lA (μ.1 2) p (nI v) 10 = true then nI v else v3) (nI v + -1) := by
  intro n
  induction n with
  | zero => intro i hi hn; omega
  | succ n ih =>
    intro i hi hn
    unfold fX8_least_b82
    by_cases h10 : i = 10
    · subst h10
      rw [if_pos (show (10 : Int32) ≤ nI 10 by decide)]
      unfold fX8_least_b142
      by_cases z : lA (μ.1 2) p (nI v) 10 = true
      · rw [bz_t z, if_neg one_ne, if_pos z]
      · rw [bz_f z, if_pos rfl, if_neg z]
    · have hlt : i < 10 := by omega
      have hng : ¬ (10 : Int32) ≤ nI i := nI_ge (b := 10) hlt (by decide)
      have ih' := ih (i + 1) (by omega) (by omega)
      have hs : lA (μ.1 2) p (nI v) (i + 1) = (lA (μ.1 2) p (nI v) i && (!sel p i || decide (fX8_widens (μ.1 2 i) (nI v) = some 1))) := rfl
      rw [if_neg hng, m_has, if_pos (inb10 hlt), cl (by omega)]
      unfold fX8_least_b122 fX8_least_b118 fX8_least_b123
      rw [nI_1]
      simp only [Option.bind_some]
      by_cases z : lA (μ.1 2) p (nI v) i = true
      · rw [bz_t z, if_neg one_ne]
        by_cases s : sel p i = true
        · rw [bz_t s, if_neg one_ne]
          rcases prim_cases (μ.1 2 i) with y | ⟨t, ht, et⟩
          · exact absurd (lP_at hP i hlt s) y
          · rcases wid_01 t ht v hv with w | w
            · rw [et, w]
              simp only [Option.bind_some, if_true]
              rw [bz_f (by rw [hs, z, s, et, w]; decide)] at ih'
              exact ih'
            · rw [et, w]
              simp only [Option.bind_some, one_ne, if_false]
              rw [bz_t (by rw [hs, z, s, et, w]; decide)] at ih'
              exact ih'
        · rw [bz_f s, if_pos rfl]
          rw [bz_t (by rw [hs, z, bf s]; rfl)] at ih'
          exact ih'
      · rw [bz_f z, if_pos rfl]
        rw [bz_f (by rw [hs, bf z]; simp)] at ih'
        exact ih'
theorem l_m3 {μ : Mm} {p : Int32} (hP : lP (μ.1 2) p 10 = true) : ∀ v n d, v < 8 → v + 1 < n → fX8_least_b71 μ n p d (nI v) = some (lo (fun k => lA (μ.1 2) p (nI k) 10) d v) := by
  intro v
  induction v with
  | zero =>
    intro n d hv hn
    obtain ⟨m, rfl⟩ : ∃ m, n = m + 1 + 1 := ⟨n - 2, by omega⟩
    have e := l_m2 hP (fX8_least_b71 μ (m + 1)) d hv 100 0 (by decide) (by decide)
    have e' : fX8_least_b82 μ (fX8_least_b71 μ (m + 1)) 100 p d (nI 0) 1 0 = _ := e
    unfold fX8_least_b71
    rw [if_neg (by decide), e', show nI 0 + -1 = (-1 : Int32) by decide]
    unfold fX8_least_b71
    rw [if_pos (by decide)]
    rfl
  | succ v ih =>
    intro n d hv hn
    obtain ⟨m, rfl⟩ : ∃ m, n = m + 1 := ⟨n - 1, by omega⟩
    have e := l_m2 hP (fX8_least_b71 μ m) d hv 100 0 (by decide) (by decide)
    have e' : fX8_least_b82 μ (fX8_least_b71 μ m) 100 p d (nI (v + 1)) 1 0 = _ := e
    have g : ∀ v, v < 8 → ¬ nI v < 0 := by decide +kernel
    have g2 : ∀ v, v < 7 → nI (v + 1) + -1 = nI v := by decide +kernel
    unfold fX8_least_b71
    rw [if_neg (g _ hv), e', g2 v (by omega), ih m _ (by omega) (by omega)]
    rfl
theorem l_x {μx μm : Mm} {mc : Nat} (hC : RCo μx μm mc) (p : Int32) : ∀ n i, i ≤ 10 → 10 - i < n → lP (μm.1 2) p i = true → fX7_least_b21 μx n p (lM (μm.1 2) p i) (nI i) = if lP (μm.1 2) p 10 = true then fX2_leastOf (lM (μm.1 2) p 10) else some (-3) := by
  intro n
  induction n with
  | zero => intro i hi hn; omega
  | succ n ih =>
    intro i hi hn hp
    unfold fX7_least_b21
    by_cases h10 : i = 10
    · subst h10
      rw [if_pos (show (10 : Int32) ≤ nI 10 by decide), if_pos hp]
      cases fX2_leastOf (lM (μm.1 2) p 10) <;> rfl
    · have hlt : i < 10 := by omega
      have hng : ¬ (10 : Int32) ≤ nI i := nI_ge (b := 10) hlt (by decide)
      have hs : lP (μm.1 2) p (i + 1) = (lP (μm.1 2) p i && (!sel p i || decide (0 ≤ μm.1 2 i ∧ μm.1 2 i ≤ 7))) := rfl
      obtain ⟨r, t, hr, ht, e1, e2, e3, -⟩ := slotR hC hlt
      rw [if_neg hng, x_thingIn hlt hr e1 e2]
      simp only [Option.bind_some]
      unfold fX7_least_b61
      rw [nI_1, x_isPrim]
      simp only [Option.bind_some]
      by_cases s : sel p i = true
      · have sd : (jshr p (nI i)) &&& (1 : Int32) = 1 := of_decide_eq_true s
        have hM : lM (μm.1 2) p (i + 1) = lM (μm.1 2) p i &&& (fX2_targets (μm.1 2 i)).getD 0 := by show (if sel p i = true then _ else _) = _; rw [if_pos s]
        rw [if_pos sd]
        by_cases y : 0 ≤ nI t ∧ nI t ≤ 7
        · rw [bz_t y, if_neg one_ne]
          have hp' : lP (μm.1 2) p (i + 1) = true := by rw [hs, hp, s, e3, decide_eq_true y]; rfl
          rcases prim_cases (nI t) with z | ⟨t', ht', et⟩
          · exact absurd y z
          · obtain ⟨g, eg⟩ := Option.isSome_iff_exists.mp (l_fin2 255 (by simp) t' ht').1
            have ih' := ih (i + 1) (by omega) (by omega) hp'
            rw [hM, e3, et, eg] at ih'
            rw [et, eg]
            exact ih'
        · rw [bz_f y, if_pos rfl]
          have hp' : lP (μm.1 2) p (i + 1) = false := by rw [hs, hp, s, e3, decide_eq_false y]; rfl
          rw [if_neg (by rw [lP_false hp' 10 (by omega)]; decide)]
      · have sd : ¬ (jshr p (nI i)) &&& (1 : Int32) = 1 := fun z => s (decide_eq_true z)
        have hM : lM (μm.1 2) p (i + 1) = lM (μm.1 2) p i := by show (if sel p i = true then _ else _) = _; rw [if_neg s]
        rw [if_neg sd]
        have ih' := ih (i + 1) (by omega) (by omega) (by rw [hs, hp, bf s]; rfl)
        rw [hM] at ih'
        exact ih'
