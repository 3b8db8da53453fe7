/-! PURE PART 6: note() of the reference -/
theorem nI_mul (a b : Nat) : nI a * nI b = nI (a * b) := pk_mul a b
theorem ge_t {a b : Nat} (h : a ≤ b) (hb : b < 2 ^ 31) : nI a ≤ nI b := nI_le h hb
theorem note_1 {p : Nat} (hp : p < 14) : ∀ (n k : Nat) (μ : Mm), k ≤ 10 → 10 - k < n → μ.1 0 27 = nI p → ∃ μ', fX8_note_b2 n (nI k) μ = fX8_note_b56 100 0 μ' ∧ μ'.2 = μ.2 ∧ ∀ o j, μ'.1 o j = if o = 12 ∧ 10 * p + k ≤ j ∧ j < 10 * p + 10 then μ.1 2 (j - 10 * p) else if o = 13 ∧ 10 * p + k ≤ j ∧ j < 10 * p + 10 then μ.1 3 (j - 10 * p) else μ.1 o j := by
  intro n
  induction n with
  | zero => intro k μ hk hn _; omega
  | succ n ih =>
    intro k μ hk hn h27
    by_cases h10 : k = 10
    · subst h10
      refine ⟨μ, by unfold fX8_note_b2; rw [if_pos (show (10 : Int32) ≤ nI 10 by decide)], rfl, fun o j => ?_⟩
      rw [if_neg (by omega), if_neg (by omega)]
    · have hk10 : k < 10 := by omega
      have ib : inb (nI k) 10 = true := inb_nI hk10 (by decide)
      have ix : (10 : Int32) * nI p + nI k = nI (10 * p + k) := by rw [show (10 : Int32) = nI 10 from rfl, nI_mul, nI_add]
      have ib2 : inb (nI (10 * p + k)) 140 = true := inb_nI (by omega) (by decide)
      have c1 : (nI k).toNatClampNeg = k := nI_clamp (by omega)
      have c2 : (nI (10 * p + k)).toNatClampNeg = 10 * p + k := nI_clamp (by omega)
      obtain ⟨μ', h1, h2, h3⟩ := ih (k + 1) (wI (wI μ 12 (10 * p + k) (μ.1 2 k)) 13 (10 * p + k) (μ.1 3 k)) (by omega) (by omega) h27
      refine ⟨μ', ?_, h2, fun o j => ?_⟩
      · unfold fX8_note_b2
        rw [if_neg (show ¬ (10 : Int32) ≤ nI k from nI_ge (b := 10) hk10 (by decide))]
        simp only [wI_1, Nat.reduceEqDiff, false_and, if_false, h27, ib, ix, ib2, if_true, c1, c2, nI_1]
        exact h1
      · rw [h3 o j]
        simp only [wI_1, Nat.reduceEqDiff, false_and, if_false]
        by_cases o12 : o = 12
        · subst o12
          by_cases hj : j = 10 * p + k
          · subst hj
            simp
            intro h; omega
          · by_cases hj2 : 10 * p + (k + 1) ≤ j ∧ j < 10 * p + 10
            · rw [if_pos ⟨rfl, hj2⟩, if_pos ⟨rfl, by omega⟩]
            · rw [if_neg (fun z => hj2 z.2), if_neg (fun z => absurd z.1 (by decide)), if_neg (fun z => absurd z.1 (by decide)), if_neg (fun z => hj z.2), if_neg (fun z => hj2 ⟨by omega, z.2.2⟩), if_neg (fun z => absurd z.1 (by decide))]
        · rw [if_neg (fun z => o12 z.1), if_neg (fun z : o = 12 ∧ 10 * p + k ≤ j ∧ j < 10 * p + 10 => o12 z.1)]
          by_cases o13 : o = 13
          · subst o13
            by_cases hj : j = 10 * p + k
            · subst hj
              simp
              intro h; omega
            · by_cases hj2 : 10 * p + (k + 1) ≤ j ∧ j < 10 * p + 10
              · rw [if_pos ⟨rfl, hj2⟩, if_pos ⟨rfl, by omega⟩]
              · rw [if_neg (fun z => hj2 z.2), if_neg (fun z => hj z.2), if_neg (fun z => absurd z.1 (by decide)), if_neg (fun z => hj2 ⟨by omega, z.2.2⟩)]
          · rw [if_neg (fun z => o13 z.1), if_neg (fun z => o13 z.1), if_neg (fun z => o12 z.1), if_neg (fun z => o13 z.1)]
theorem note_2 {p : Nat} (hp : p < 14) : ∀ (n k : Nat) (μ : Mm), k ≤ 11 → 11 - k < n → μ.1 0 27 = nI p → ∃ μ', fX8_note_b56 n (nI k) μ = fX8_note_b110 100 0 μ' ∧ μ'.2 = μ.2 ∧ ∀ o j, μ'.1 o j = if o = 14 ∧ 11 * p + k ≤ j ∧ j < 11 * p + 11 then μ.1 4 (j - 11 * p) else if o = 15 ∧ 11 * p + k ≤ j ∧ j < 11 * p + 11 then μ.1 5 (j - 11 * p) else μ.1 o j := by
  intro n
  induction n with
  | zero => intro k μ hk hn _; omega
  | succ n ih =>
    intro k μ hk hn h27
    by_cases h10 : k = 11
    · subst h10
      refine ⟨μ, by unfold fX8_note_b56; rw [if_pos (show (11 : Int32) ≤ nI 11 by decide)], rfl, fun o j => ?_⟩
      rw [if_neg (by omega), if_neg (by omega)]
    · have hk10 : k < 11 := by omega
      have ib : inb (nI k) 11 = true := inb_nI hk10 (by decide)
      have ix : (11 : Int32) * nI p + nI k = nI (11 * p + k) := by rw [show (11 : Int32) = nI 11 from rfl, nI_mul, nI_add]
      have ib2 : inb (nI (11 * p + k)) 154 = true := inb_nI (by omega) (by decide)
      have c1 : (nI k).toNatClampNeg = k := nI_clamp (by omega)
      have c2 : (nI (11 * p + k)).toNatClampNeg = 11 * p + k := nI_clamp (by omega)
      obtain ⟨μ', h1, h2, h3⟩ := ih (k + 1) (wI (wI μ 14 (11 * p + k) (μ.1 4 k)) 15 (11 * p + k) (μ.1 5 k)) (by omega) (by omega) h27
      refine ⟨μ', ?_, h2, fun o j => ?_⟩
      · unfold fX8_note_b56
        rw [if_neg (show ¬ (11 : Int32) ≤ nI k from nI_ge (b := 11) hk10 (by decide))]
        simp only [wI_1, Nat.reduceEqDiff, false_and, if_false, h27, ib, ix, ib2, if_true, c1, c2, nI_1]
        exact h1
      · rw [h3 o j]
        simp only [wI_1, Nat.reduceEqDiff, false_and, if_false]
        by_cases o12 : o = 14
        · subst o12
          by_cases hj : j = 11 * p + k
          · subst hj
            simp
            intro h; omega
          · by_cases hj2 : 11 * p + (k + 1) ≤ j ∧ j < 11 * p + 11
            · rw [if_pos ⟨rfl, hj2⟩, if_pos ⟨rfl, by omega⟩]
            · rw [if_neg (fun z => hj2 z.2), if_neg (fun z => absurd z.1 (by decide)), if_neg (fun z => absurd z.1 (by decide)), if_neg (fun z => hj z.2), if_neg (fun z => hj2 ⟨by omega, z.2.2⟩), if_neg (fun z => absurd z.1 (by decide))]
        · rw [if_neg (fun z => o12 z.1), if_neg (fun z : o = 14 ∧ 11 * p + k ≤ j ∧ j < 11 * p + 11 => o12 z.1)]
          by_cases o13 : o = 15
          · subst o13
            by_cases hj : j = 11 * p + k
            · subst hj
              simp
              intro h; omega
            · by_cases hj2 : 11 * p + (k + 1) ≤ j ∧ j < 11 * p + 11
              · rw [if_pos ⟨rfl, hj2⟩, if_pos ⟨rfl, by omega⟩]
              · rw [if_neg (fun z => hj2 z.2), if_neg (fun z => hj z.2), if_neg (fun z => absurd z.1 (by decide)), if_neg (fun z => hj2 ⟨by omega, z.2.2⟩)]
          · rw [if_neg (fun z => o13 z.1), if_neg (fun z => o13 z.1), if_neg (fun z => o12 z.1), if_neg (fun z => o13 z.1)]
theorem note_3 {p : Nat} (hp : p < 14) : ∀ (n k : Nat) (μ : Mm), k ≤ 66 → 66 - k < n → μ.1 0 27 = nI p → ∃ μ', fX8_note_b110 n (nI k) μ = fX8_note_b184 100 0 μ' ∧ (∀ o j, μ'.2 o j = if o = 18 ∧ 66 * p + k ≤ j ∧ j < 66 * p + 66 then μ.2 8 (j - 66 * p) else μ.2 o j) ∧ ∀ o j, μ'.1 o j = if o = 16 ∧ 66 * p + k ≤ j ∧ j < 66 * p + 66 then μ.1 6 (j - 66 * p) else if o = 17 ∧ 66 * p + k ≤ j ∧ j < 66 * p + 66 then μ.1 7 (j - 66 * p) else μ.1 o j := by
  intro n
  induction n with
  | zero => intro k μ hk hn _; omega
  | succ n ih =>
    intro k μ hk hn h27
    by_cases h10 : k = 66
    · subst h10
      refine ⟨μ, by unfold fX8_note_b110; rw [if_pos (show (66 : Int32) ≤ nI 66 by decide)], fun o j => ?_, fun o j => ?_⟩
      · rw [if_neg (by omega)]
      · rw [if_neg (by omega), if_neg (by omega)]
    · have hk10 : k < 66 := by omega
      have ib : inb (nI k) 66 = true := inb_nI hk10 (by decide)
      have ix : (66 : Int32) * nI p + nI k = nI (66 * p + k) := by rw [show (66 : Int32) = nI 66 from rfl, nI_mul, nI_add]
      have ib2 : inb (nI (66 * p + k)) 924 = true := inb_nI (by omega) (by decide)
      have c1 : (nI k).toNatClampNeg = k := nI_clamp (by omega)
      have c2 : (nI (66 * p + k)).toNatClampNeg = 66 * p + k := nI_clamp (by omega)
      obtain ⟨μ', h1, h2, h3⟩ := ih (k + 1) (wL (wI (wI μ 16 (66 * p + k) (μ.1 6 k)) 17 (66 * p + k) (μ.1 7 k)) 18 (66 * p + k) (μ.2 8 k)) (by omega) (by omega) h27
      refine ⟨μ', ?_, fun o j => ?_, fun o j => ?_⟩
      · unfold fX8_note_b110
        rw [if_neg (show ¬ (66 : Int32) ≤ nI k from nI_ge (b := 66) hk10 (by decide))]
        simp only [wI_1, wI_2, Nat.reduceEqDiff, false_and, if_false, h27, ib, ix, ib2, if_true, c1, c2, nI_1]
        exact h1
      · rw [h2 o j]
        simp only [wL_2, wI_2, Nat.reduceEqDiff, false_and, if_false]
        by_cases o12 : o = 18
        · subst o12
          by_cases hj : j = 66 * p + k
          · subst hj
            simp
            intro h; omega
          · by_cases hj2 : 66 * p + (k + 1) ≤ j ∧ j < 66 * p + 66
            · rw [if_pos ⟨rfl, hj2⟩, if_pos ⟨rfl, by omega⟩]
            · rw [if_neg (fun z => hj2 z.2), if_neg (fun z => hj z.2), if_neg (fun z => hj2 ⟨by omega, z.2.2⟩)]
        · rw [if_neg (fun z => o12 z.1), if_neg (fun z => o12 z.1), if_neg (fun z => o12 z.1)]
      · rw [h3 o j]
        simp only [wL_1, wI_1, Nat.reduceEqDiff, false_and, if_false]
        by_cases o12 : o = 16
        · subst o12
          by_cases hj : j = 66 * p + k
          · subst hj
            simp
            intro h; omega
          · by_cases hj2 : 66 * p + (k + 1) ≤ j ∧ j < 66 * p + 66
            · rw [if_pos ⟨rfl, hj2⟩, if_pos ⟨rfl, by omega⟩]
            · rw [if_neg (fun z => hj2 z.2), if_neg (fun z => absurd z.1 (by decide)), if_neg (fun z => absurd z.1 (by decide)), if_neg (fun z => hj z.2), if_neg (fun z => hj2 ⟨by omega, z.2.2⟩), if_neg (fun z => absurd z.1 (by decide))]
        · rw [if_neg (fun z => o12 z.1), if_neg (fun z : o = 16 ∧ 66 * p + k ≤ j ∧ j < 66 * p + 66 => o12 z.1)]
          by_cases o13 : o = 17
          · subst o13
            by_cases hj : j = 66 * p + k
            · subst hj
              simp
              intro h; omega
            · by_cases hj2 : 66 * p + (k + 1) ≤ j ∧ j < 66 * p + 66
              · rw [if_pos ⟨rfl, hj2⟩, if_pos ⟨rfl, by omega⟩]
              · rw [if_neg (fun z => hj2 z.2), if_neg (fun z => hj z.2), if_neg (fun z => absurd z.1 (by decide)), if_neg (fun z => hj2 ⟨by omega, z.2.2⟩)]
          · rw [if_neg (fun z => o13 z.1), if_neg (fun z => o13 z.1), if_neg (fun z => o12 z.1), if_neg (fun z => o13 z.1)]
theorem note_4 {p : Nat} (hp : p < 14) : ∀ (n k : Nat) (μ : Mm), k ≤ 20 → 20 - k < n → μ.1 0 27 = nI p → ∃ μ' : Mm, fX8_note_b184 n (nI k) μ = fX8_note_b184 1 20 μ' ∧ μ'.2 = μ.2 ∧ ∀ o j, μ'.1 o j = if o = 19 ∧ 20 * p + k ≤ j ∧ j < 20 * p + 20 then μ.1 9 (j - 20 * p) else μ.1 o j := by
  intro n
  induction n with
  | zero => intro k μ hk hn _; omega
  | succ n ih =>
    intro k μ hk hn h27
    by_cases h10 : k = 20
    · subst h10
      refine ⟨μ, by unfold fX8_note_b184; rw [if_pos (show (20 : Int32) ≤ nI 20 by decide), if_pos (show (20 : Int32) ≤ 20 by decide)], rfl, fun o j => ?_⟩
      rw [if_neg (by omega)]
    · have hk10 : k < 20 := by omega
      have ib : inb (nI k) 20 = true := inb_nI hk10 (by decide)
      have ix : (20 : Int32) * nI p + nI k = nI (20 * p + k) := by rw [show (20 : Int32) = nI 20 from rfl, nI_mul, nI_add]
      have ib2 : inb (nI (20 * p + k)) 280 = true := inb_nI (by omega) (by decide)
      have c1 : (nI k).toNatClampNeg = k := nI_clamp (by omega)
      have c2 : (nI (20 * p + k)).toNatClampNeg = 20 * p + k := nI_clamp (by omega)
      obtain ⟨μ', h1, h2, h3⟩ := ih (k + 1) (wI μ 19 (20 * p + k) (μ.1 9 k)) (by omega) (by omega) h27
      refine ⟨μ', ?_, h2, fun o j => ?_⟩
      · rw [← h1]
        conv => lhs; unfold fX8_note_b184
        rw [if_neg (show ¬ (20 : Int32) ≤ nI k from nI_ge (b := 20) hk10 (by decide))]
        simp only [h27, ib, ix, ib2, if_true, c1, c2, nI_1]
      · rw [h3 o j]
        simp only [wI_1, Nat.reduceEqDiff, false_and, if_false]
        by_cases o12 : o = 19
        · subst o12
          by_cases hj : j = 20 * p + k
          · subst hj
            simp
            intro h; omega
          · by_cases hj2 : 20 * p + (k + 1) ≤ j ∧ j < 20 * p + 20
            · rw [if_pos ⟨rfl, hj2⟩, if_pos ⟨rfl, by omega⟩]
            · rw [if_neg (fun z => hj2 z.2), if_neg (fun z => hj z.2), if_neg (fun z => hj2 ⟨by omega, z.2.2⟩)]
        · rw [if_neg (fun z => o12 z.1), if_neg (fun z => o12 z.1), if_neg (fun z => o12 z.1)]
/-- note(): the core at position p, the number of marks, the place, the count; nothing else -/
theorem m_note {μ : Mm} {p kp mc : Nat} (hp : p < 14) (hk : kp ≤ 14) (h27 : μ.1 0 27 = nI p) (h26 : μ.1 0 26 = nI kp) (h11 : μ.1 0 11 = nI mc) : ∃ μ', fX8_note μ = some μ' ∧
    (∀ o j, μ'.2 o j = if o = 18 ∧ 66 * p ≤ j ∧ j < 66 * p + 66 then μ.2 8 (j - 66 * p) else μ.2 o j) ∧
    μ'.1 0 27 = nI ((p + 1) % 14) ∧ μ'.1 0 26 = nI (if kp < 14 then kp + 1 else 14) ∧ μ'.1 20 p = nI mc ∧ (∀ j, j ≠ p → μ'.1 20 j = μ.1 20 j) ∧
    (∀ k, k ≠ 26 → k ≠ 27 → μ'.1 0 k = μ.1 0 k) ∧
    ∀ o j, o ≠ 0 → o ≠ 20 → μ'.1 o j = if o = 12 ∧ 10 * p ≤ j ∧ j < 10 * p + 10 then μ.1 2 (j - 10 * p) else if o = 13 ∧ 10 * p ≤ j ∧ j < 10 * p + 10 then μ.1 3 (j - 10 * p) else if o = 14 ∧ 11 * p ≤ j ∧ j < 11 * p + 11 then μ.1 4 (j - 11 * p) else if o = 15 ∧ 11 * p ≤ j ∧ j < 11 * p + 11 then μ.1 5 (j - 11 * p) else if o = 16 ∧ 66 * p ≤ j ∧ j < 66 * p + 66 then μ.1 6 (j - 66 * p) else if o = 17 ∧ 66 * p ≤ j ∧ j < 66 * p + 66 then μ.1 7 (j - 66 * p) else if o = 19 ∧ 20 * p ≤ j ∧ j < 20 * p + 20 then μ.1 9 (j - 20 * p) else μ.1 o j := by
  obtain ⟨μ1, a1, a2, a3⟩ := note_1 hp 100 0 μ (by decide) (by decide) h27
  have b27 : μ1.1 0 27 = nI p := by rw [a3]; exact h27
  obtain ⟨μ2, c1, c2, c3⟩ := note_2 hp 100 0 μ1 (by decide) (by decide) b27
  have d27 : μ2.1 0 27 = nI p := by rw [c3]; exact b27
  obtain ⟨μ3, e1, e2, e3⟩ := note_3 hp 100 0 μ2 (by decide) (by decide) d27
  have f27 : μ3.1 0 27 = nI p := by rw [e3]; exact d27
  obtain ⟨μ4, g1, g2, g3⟩ := note_4 hp 100 0 μ3 (by decide) (by decide) f27
  have k27 : μ4.1 0 27 = nI p := by rw [g3]; exact f27
  have k0 : ∀ k, μ4.1 0 k = μ.1 0 k := fun k => by simp [g3, e3, c3, a3]
  have k26 : μ4.1 0 26 = nI kp := by rw [k0]; exact h26
  have k11 : μ4.1 0 11 = nI mc := by rw [k0]; exact h11
  have ib : inb (nI p) 14 = true := inb_nI hp (by decide)
  have c1' : (nI p).toNatClampNeg = p := nI_clamp (by omega)
  have hrem : jrem (nI p + 1) 14 = nI ((p + 1) % 14) := by rw [nI_1]; exact pk_rem (d := 14) (by omega) (by decide) (by decide)
  have hge : ((14 : Int32) ≤ nI kp) ↔ 14 ≤ kp := nI_leI (a := 14) (by decide) (by omega)
  refine ⟨wI (wI (wI μ4 20 p (nI mc)) 0 27 (nI ((p + 1) % 14))) 0 26 (nI (if kp < 14 then kp + 1 else 14)), ?_, ?_, rfl, rfl, by simp [wI_1], ?_, ?_, ?_⟩
  · show fX8_note_b2 100 (nI 0) μ = _
    rw [a1]
    show fX8_note_b56 100 (nI 0) μ1 = _
    rw [c1]
    show fX8_note_b110 100 (nI 0) μ2 = _
    rw [e1]
    show fX8_note_b184 100 (nI 0) μ3 = _
    rw [g1]
    unfold fX8_note_b184
    rw [if_pos (show (20 : Int32) ≤ 20 by decide)]
    simp only [wI_1, Nat.reduceEqDiff, false_and, and_false, if_false, k27, k26, k11, ib, if_true, c1', hrem, hge]
    by_cases h14 : kp < 14
    · rw [if_neg (by omega), if_pos h14, nI_1]
    · rw [if_pos (by omega), if_neg h14]; rfl
  · intro o j
    show μ4.2 o j = _
    rw [g2, e2 o j, c2, a2]
    simp
  · intro j hj
    rw [wI_1, if_neg (by omega), wI_1, if_neg (by omega), wI_1, if_neg (by omega)]
    simp [g3, e3, c3, a3]
  · intro k h1 h2
    rw [wI_1, if_neg (by omega), wI_1, if_neg (by omega), wI_1, if_neg (by omega), k0]
  · intro o j h0 h20
    rw [wI_1, if_neg (fun z => h0 z.1), wI_1, if_neg (fun z => h0 z.1), wI_1, if_neg (fun z => h20 z.1), g3 o j, e3 o j, c3 o j, a3 o j]
    by_cases o12 : o = 12
    · subst o12; simp
    by_cases o13 : o = 13
    · subst o13; simp
    by_cases o14 : o = 14
    · subst o14; simp [a3]
    by_cases o15 : o = 15
    · subst o15; simp [a3]
    by_cases o16 : o = 16
    · subst o16; simp [c3, a3]
    by_cases o17 : o = 17
    · subst o17; simp [c3, a3]
    by_cases o19 : o = 19
    · subst o19; simp [e3, c3, a3]
    · simp [o12, o13, o14, o15, o16, o17, o19]
