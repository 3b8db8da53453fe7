/-! NEW ROWS, 1: a free row on both sides (the first rows pasted from the kit's laws) -/
theorem fb_holes : ∀ (m n : Nat) (f : Nat → Nat), (∀ i, i < n → f i < m) → (∀ i j, i < j → j < n → f i ≠ f j) → n ≤ m := by
  intro m
  induction m with
  | zero =>
    intro n f h1 _
    rcases Nat.eq_zero_or_pos n with h | h
    · omega
    · exact absurd (h1 0 h) (Nat.not_lt_zero _)
  | succ m ih =>
    intro n f h1 h2
    by_cases hx : ∃ i, i < n ∧ f i = m
    · obtain ⟨a, ha, hfa⟩ := hx
      have hg := ih (n - 1) (fun i => if i < a then f i else f (i + 1)) (by
        intro i hi
        by_cases q : i < a
        · simp only [if_pos q]
          have b1 := h1 i (by omega)
          have b2 := h2 i a q ha
          omega
        · simp only [if_neg q]
          have b1 := h1 (i + 1) (by omega)
          have b2 := h2 a (i + 1) (by omega) (by omega)
          omega) (by
        intro i j hij hj
        by_cases q : i < a
        · by_cases r : j < a
          · simp only [if_pos q, if_pos r]
            exact h2 i j hij (by omega)
          · simp only [if_pos q, if_neg r]
            exact h2 i (j + 1) (by omega) (by omega)
        · have r : ¬ j < a := by omega
          simp only [if_neg q, if_neg r]
          exact h2 (i + 1) (j + 1) (by omega) (by omega))
      omega
    · have hg := ih n f (fun i hi => by
        have b1 := h1 i hi
        have b2 : f i ≠ m := fun e => hx ⟨i, hi, e⟩
        omega) h2
      omega
/-- two of them in one place -/
theorem pigeon {α : Type} {m n : Nat} (g v : Nat → α) (hv : ∀ i j, i < n → j < n → v i = v j → i = j) (h : ∀ i, i < n → ∃ s, s < m ∧ g s = v i) : n ≤ m := by
  have h' : ∀ i, ∃ s, i < n → s < m ∧ g s = v i := by
    intro i
    by_cases z : i < n
    · obtain ⟨s, hs⟩ := h i z
      exact ⟨s, fun _ => hs⟩
    · exact ⟨0, fun y => absurd y z⟩
  obtain ⟨f, hf⟩ := Classical.axiomOfChoice h'
  refine fb_holes m n f (fun i hi => (hf i hi).1) (fun i j hij hj e => ?_)
  have e1 := (hf i (by omega)).2
  have e2 := (hf j hj).2
  have e3 : f i = f j := e
  rw [e3, e2] at e1
  have := hv j i hj (by omega) e1
  omega
theorem x_fs {μ : Mm} {v : Int32} : ∀ m f i, i + m = 10 → m < f → (∃ b, b < 10 ∧ fX7_firstSlotOf_b2 μ f v (nI i) = some (nI b) ∧ μ.1 6 b = v) ∨ (fX7_firstSlotOf_b2 μ f v (nI i) = some (nI 10) ∧ ∀ a, i ≤ a → a < 10 → μ.1 6 a ≠ v) := by
  intro m
  induction m with
  | zero =>
    intro f i he hf
    obtain ⟨f, rfl⟩ : ∃ g, f = g + 1 := ⟨f - 1, by omega⟩
    have : i = 10 := by omega
    subst this
    right
    refine ⟨?_, fun a h1 h2 => by omega⟩
    unfold fX7_firstSlotOf_b2
    rw [if_pos (by decide)]
  | succ m ih =>
    intro f i he hf
    obtain ⟨f, rfl⟩ : ∃ g, f = g + 1 := ⟨f - 1, by omega⟩
    unfold fX7_firstSlotOf_b2
    rw [if_neg (show ¬ (10 : Int32) ≤ nI i from nI_ge (b := 10) (by omega) (by decide)), if_pos (inb10 (by omega)), cl (by omega), nI_1]
    by_cases z : μ.1 6 i = v
    · rw [if_pos z]
      exact Or.inl ⟨i, by omega, rfl, z⟩
    · rw [if_neg z]
      rcases ih f (i + 1) (by omega) (by omega) with y | ⟨y1, y2⟩
      · exact Or.inl y
      · refine Or.inr ⟨y1, fun a h1 h2 => ?_⟩
        by_cases w : a = i
        · rw [w]; exact z
        · exact y2 a (by omega) h2
theorem x_inS (μ : Mm) (v : Int32) : (fX7_isInSlots v μ = some 1 ∧ ∃ a, a < 10 ∧ μ.1 6 a = v) ∨ (fX7_isInSlots v μ = some 0 ∧ ∀ a, a < 10 → μ.1 6 a ≠ v) := by
  unfold fX7_isInSlots fX7_firstSlotOf
  rcases x_fs (μ := μ) (v := v) 10 100 0 (by decide) (by decide) with ⟨b, hb, y1, y2⟩ | ⟨y1, y2⟩
  · left
    have y1' : fX7_firstSlotOf_b2 μ 100 v 0 = some (nI b) := y1
    refine ⟨?_, b, hb, y2⟩
    rw [bd y1', if_neg (show ¬ (10 : Int32) ≤ nI b from nI_ge (b := 10) (by omega) (by decide))]
  · right
    have y1' : fX7_firstSlotOf_b2 μ 100 v 0 = some (nI 10) := y1
    refine ⟨?_, fun a ha => y2 a (by omega) ha⟩
    rw [bd y1', if_pos (by decide)]
theorem bf_lp : ∀ nx, nx < 14 → ∀ j, j < 14 → fX0_before (nI (lpos nx j)) = some (nI (lpos nx (j + 1))) := by decide +kernel
theorem x_hs {μ : Mm} {v : Int32} {nx kp : Nat} (hnx : nx < 14) (hkp : kp ≤ 14) (h7 : μ.1 3 7 = nI kp) : ∀ m f j, j + m = kp → m < f → (fX0_holds_b7 μ f v (nI (lpos nx j)) (nI j) = some 1 ∧ ∃ i, 1 ≤ i ∧ i ≤ kp ∧ μ.1 17 (lpos nx i) = v) ∨ (fX0_holds_b7 μ f v (nI (lpos nx j)) (nI j) = some 0 ∧ ∀ i, j < i → i ≤ kp → μ.1 17 (lpos nx i) ≠ v) := by
  intro m
  induction m with
  | zero =>
    intro f j he hf
    obtain ⟨f, rfl⟩ : ∃ g, f = g + 1 := ⟨f - 1, by omega⟩
    right
    refine ⟨?_, fun i h1 h2 => by omega⟩
    unfold fX0_holds_b7
    rw [h7, if_pos (nI_le (by omega) (by omega))]
  | succ m ih =>
    intro f j he hf
    obtain ⟨f, rfl⟩ : ∃ g, f = g + 1 := ⟨f - 1, by omega⟩
    have hl := lpos_lt nx (j + 1)
    unfold fX0_holds_b7
    rw [h7, if_neg (nI_ge (by omega) (by omega)), bd (bf_lp nx hnx j (by omega)), if_pos (inb_nI hl (by decide)), cl (by omega), nI_1]
    by_cases z : μ.1 17 (lpos nx (j + 1)) = v
    · rw [if_pos z]
      exact Or.inl ⟨rfl, j + 1, by omega, by omega, z⟩
    · rw [if_neg z]
      rcases ih f (j + 1) (by omega) (by omega) with y | ⟨y1, y2⟩
      · exact Or.inl y
      · refine Or.inr ⟨y1, fun i h1 h2 => ?_⟩
        by_cases w : i = j + 1
        · rw [w]; exact z
        · exact y2 i (by omega) h2
theorem x_lh {μ : Mm} (v : Int32) {nx kp : Nat} (hnx : nx < 14) (hkp : kp ≤ 14) (h6 : μ.1 3 6 = nI nx) (h7 : μ.1 3 7 = nI kp) : (fX0_holds v μ = some 1 ∧ ∃ i, 1 ≤ i ∧ i ≤ kp ∧ μ.1 17 (lpos nx i) = v) ∨ (fX0_holds v μ = some 0 ∧ ∀ i, 1 ≤ i → i ≤ kp → μ.1 17 (lpos nx i) ≠ v) := by
  have l0 : lpos nx 0 = nx := by unfold lpos; omega
  have := x_hs (v := v) hnx hkp h7 kp 100 0 (by omega) (by omega)
  rw [l0, ← h6] at this
  exact this
def Usd (μ : Mm) (nx kp v : Nat) : Prop := (∃ a, a < 10 ∧ μ.1 6 a = nI v) ∨ ∃ i, 1 ≤ i ∧ i ≤ kp ∧ μ.1 17 (lpos nx i) = nI v
theorem not_all {μ : Mm} {nx kp : Nat} (hkp : kp ≤ 14) (h : ∀ v, 1 ≤ v → v ≤ 25 → Usd μ nx kp v) : False := by
  have := pigeon (m := 24) (n := 25) (fun s => if s < 10 then μ.1 6 s else μ.1 17 (lpos nx (s - 9))) (fun i => nI (i + 1)) (fun i j hi hj e => by
    have := (nI_eq (by omega) (by omega)).mp e
    omega) (fun i hi => by
    rcases h (i + 1) (by omega) (by omega) with ⟨a, ha, e⟩ | ⟨j, h1, h2, e⟩
    · exact ⟨a, by omega, by simp only [if_pos ha]; exact e⟩
    · refine ⟨j + 9, by omega, ?_⟩
      simp only [if_neg (show ¬ j + 9 < 10 by omega), Nat.add_sub_cancel]
      exact e)
  omega
theorem x_fl {μ : Mm} {nx kp : Nat} (hnx : nx < 14) (hkp : kp ≤ 14) (h6 : μ.1 3 6 = nI nx) (h7 : μ.1 3 7 = nI kp) : ∀ m f v, v + m = 25 → m < f → 1 ≤ v → (∀ u, 1 ≤ u → u < v → Usd μ nx kp u) → ∃ w, 1 ≤ w ∧ w < 26 ∧ fX7_freeRow_b2 μ f (nI v) = some (nI w) ∧ ¬ Usd μ nx kp w := by
  intro m
  induction m with
  | zero =>
    intro f v he hf h1 hu
    obtain ⟨f, rfl⟩ : ∃ g, f = g + 1 := ⟨f - 1, by omega⟩
    have : v = 25 := by omega
    subst this
    refine ⟨25, by decide, by decide, ?_, fun z => not_all (μ := μ) (nx := nx) hkp (fun u u1 u2 => ?_)⟩
    · unfold fX7_freeRow_b2
      rw [if_pos (by decide)]
    · by_cases w : u = 25
      · rw [w]; exact z
      · exact hu u u1 (by omega)
  | succ m ih =>
    intro f v he hf h1 hu
    obtain ⟨f, rfl⟩ : ∃ g, f = g + 1 := ⟨f - 1, by omega⟩
    unfold fX7_freeRow_b2 fX7_freeRow_b27
    rw [if_neg (show ¬ (25 : Int32) ≤ nI v from nI_ge (b := 25) (by omega) (by decide)), nI_1]
    have go : Usd μ nx kp v → ∃ w, 1 ≤ w ∧ w < 26 ∧ fX7_freeRow_b2 μ f (nI (v + 1)) = some (nI w) ∧ ¬ Usd μ nx kp w := fun z => ih f (v + 1) (by omega) (by omega) (by omega) (fun u u1 u2 => by
      by_cases w : u = v
      · rw [w]; exact z
      · exact hu u u1 (by omega))
    rcases x_inS μ (nI v) with ⟨y1, y2⟩ | ⟨y1, y2⟩
    · rw [bd y1, if_neg one_ne]
      exact go (Or.inl y2)
    · rw [bd y1, if_pos rfl]
      rcases x_lh (nI v) hnx hkp h6 h7 with ⟨w1, w2⟩ | ⟨w1, w2⟩
      · rw [bd w1, if_neg one_ne]
        exact go (Or.inr w2)
      · rw [bd w1, if_pos rfl]
        refine ⟨v, h1, by omega, rfl, fun z => ?_⟩
        rcases z with ⟨a, ha, e⟩ | ⟨i, i1, i2, e⟩
        · exact y2 a ha e
        · exact w2 i i1 i2 e
theorem x_free {μ : Mm} {nx kp : Nat} (hnx : nx < 14) (hkp : kp ≤ 14) (h6 : μ.1 3 6 = nI nx) (h7 : μ.1 3 7 = nI kp) : ∃ r0, 1 ≤ r0 ∧ r0 < 26 ∧ fX7_freeRow μ = some (nI r0) ∧ (∀ a, a < 10 → μ.1 6 a ≠ nI r0) ∧ ∀ j, 1 ≤ j → j ≤ kp → μ.1 17 (lpos nx j) ≠ nI r0 := by
  obtain ⟨w, w1, w2, w3, w4⟩ := x_fl hnx hkp h6 h7 24 100 1 (by decide) (by decide) (by decide) (fun u u1 u2 => by omega)
  exact ⟨w, w1, w2, w3, fun a ha e => w4 (Or.inl ⟨a, ha, e⟩), fun j j1 j2 e => w4 (Or.inr ⟨j, j1, j2, e⟩)⟩
/-! the reference's free row -/
theorem Hb_ex {R : Nat → Int32} {x : Int32} : ∀ n, Hb R x n = true ↔ ∃ a, a < n ∧ R a = x := by
  intro n
  induction n with
  | zero => exact ⟨fun z => absurd z (by show ¬ false = true; decide), fun ⟨a, ha, _⟩ => by omega⟩
  | succ n ih =>
    have e : Hb R x (n + 1) = (Hb R x n || decide (R n = x)) := rfl
    rw [e, Bool.or_eq_true, ih, decide_eq_true_iff]
    constructor
    · rintro (⟨a, ha, h⟩ | h)
      · exact ⟨a, by omega, h⟩
      · exact ⟨n, by omega, h⟩
    · rintro ⟨a, ha, h⟩
      by_cases z : a = n
      · subst z; exact Or.inr h
      · exact Or.inl ⟨a, by omega, h⟩
theorem m_isH (μ : Mm) (x : Int32) : (fX8_isHeld x μ = some 1 ∧ ∃ a, a < 10 ∧ μ.1 3 a = x) ∨ (fX8_isHeld x μ = some 0 ∧ ∀ a, a < 10 → μ.1 3 a ≠ x) := by
  have h := m_held (μ := μ) (x := x) 100 0 (by decide) (by decide)
  have h' : fX8_isHeld x μ = some (bz (Hb (μ.1 3) x 10 = true)) := h
  rw [h']
  by_cases z : Hb (μ.1 3) x 10 = true
  · exact Or.inl ⟨by rw [bz_t z], (Hb_ex 10).mp z⟩
  · exact Or.inr ⟨by rw [bz_f z], fun a ha e => z ((Hb_ex 10).mpr ⟨a, ha, e⟩)⟩
theorem m_fl {μ : Mm} : ∀ k f c, k ≤ 11 → k < f → c < 11 → ((∀ a, a < 10 → μ.1 3 a ≠ nI c) ∨ ∀ j, k ≤ j → j < 11 → ∃ a, a < 10 ∧ μ.1 3 a = nI j) → ∃ q, q < 11 ∧ fX8_freeRow_b6 μ f (nI c) (nI k - 1) = some (nI q) ∧ ∀ a, a < 10 → μ.1 3 a ≠ nI q := by
  intro k
  induction k with
  | zero =>
    intro f c hk hf hc h
    obtain ⟨f, rfl⟩ : ∃ g, f = g + 1 := ⟨f - 1, by omega⟩
    refine ⟨c, hc, ?_, ?_⟩
    · unfold fX8_freeRow_b6
      rw [if_pos (by decide)]
    · rcases h with h | h
      · exact h
      · have := pigeon (m := 10) (n := 11) (μ.1 3) (fun i => nI i) (fun i j hi hj e => (nI_eq (by omega) (by omega)).mp e) (fun i hi => h i (by omega) hi)
        omega
  | succ k ih =>
    intro f c hk hf hc h
    obtain ⟨f, rfl⟩ : ∃ g, f = g + 1 := ⟨f - 1, by omega⟩
    have e1 : nI (k + 1) - 1 = nI k := nI_pred k
    have e2 : nI k + -1 = nI k - 1 := by rw [Int32.sub_eq_add_neg]
    unfold fX8_freeRow_b6 fX8_freeRow_b23
    rw [e1, if_neg (nI_pos (by omega)), e2]
    rcases m_isH μ (nI k) with ⟨y1, y2⟩ | ⟨y1, y2⟩
    · rw [bd y1, if_neg one_ne]
      refine ih f c (by omega) (by omega) hc ?_
      rcases h with h | h
      · exact Or.inl h
      · refine Or.inr (fun j h1 h2 => ?_)
        by_cases z : j = k
        · rw [z]; exact y2
        · exact h j (by omega) h2
    · rw [bd y1, if_pos rfl]
      exact ih f k (by omega) (by omega) (by omega) (Or.inl y2)
theorem m_free (μ : Mm) : ∃ q, q < 11 ∧ fX8_freeRow μ = some (nI q) ∧ ∀ a, a < 10 → μ.1 3 a ≠ nI q := by
  obtain ⟨q, h1, h2, h3⟩ := m_fl (μ := μ) 11 100 10 (by decide) (by decide) (by decide) (Or.inr (fun j h1 h2 => by omega))
  exact ⟨q, h1, h2, h3⟩
