/-! PURE PART 14: the loops of the reference's undo -/
theorem undo_1 {p : Nat} (hp : p < 14) : ∀ (n k : Nat) (μ : Mm), k ≤ 10 → 10 - k < n → μ.1 0 27 = nI p → ∃ μ', fX8_undo_b38 n (nI k) μ = fX8_undo_b92 100 0 μ' ∧ μ'.2 = μ.2 ∧ ∀ o j, μ'.1 o j = if o = 2 ∧ k ≤ j ∧ j < 10 then μ.1 12 (10 * p + j) else if o = 3 ∧ k ≤ j ∧ j < 10 then μ.1 13 (10 * p + j) else μ.1 o j := by
  intro n
  induction n with
  | zero => intro k μ hk hn _; omega
  | succ n ih =>
    intro k μ hk hn h27
    by_cases h10 : k = 10
    · subst h10
      refine ⟨μ, by unfold fX8_undo_b38; rw [if_pos (show (10 : Int32) ≤ nI 10 by decide)], rfl, fun o j => ?_⟩
      rw [if_neg (by omega), if_neg (by omega)]
    · have hk10 : k < 10 := by omega
      have ib : inb (nI k) 10 = true := inb_nI hk10 (by decide)
      have ix : (10 : Int32) * nI p + nI k = nI (10 * p + k) := by rw [show (10 : Int32) = nI 10 from rfl, nI_mul, nI_add]
      have ib2 : inb (nI (10 * p + k)) 140 = true := inb_nI (by omega) (by decide)
      have c1 : (nI k).toNatClampNeg = k := nI_clamp (by omega)
      have c2 : (nI (10 * p + k)).toNatClampNeg = 10 * p + k := nI_clamp (by omega)
      obtain ⟨μ', h1, h2, h3⟩ := ih (k + 1) (wI (wI μ 2 k (μ.1 12 (10 * p + k))) 3 k (μ.1 13 (10 * p + k))) (by omega) (by omega) h27
      refine ⟨μ', ?_, h2, fun o j => ?_⟩
      · unfold fX8_undo_b38
        rw [if_neg (show ¬ (10 : Int32) ≤ nI k from nI_ge (b := 10) hk10 (by decide))]
        simp only [wI_1, wI_2, wL_1, Nat.reduceEqDiff, false_and, if_false, h27, ib, ix, ib2, if_true, c1, c2, nI_1]
        exact h1
      · rw [h3 o j]
        simp only [wI_1, wL_1, Nat.reduceEqDiff, false_and, if_false]
        by_cases o12 : o = 2
        · subst o12
          by_cases hj : j = k
          · subst hj
            rw [if_neg (by omega), if_neg (by omega), if_neg (by omega), if_pos ⟨rfl, rfl⟩, if_pos ⟨rfl, by omega⟩]
          · by_cases hj2 : k + 1 ≤ j ∧ j < 10
            · rw [if_pos ⟨rfl, hj2⟩, if_pos ⟨rfl, by omega⟩]
            · rw [if_neg (fun z => hj2 z.2), if_neg (by omega), if_neg (by omega), if_neg (fun z => hj z.2), if_neg (fun z => hj2 ⟨by omega, z.2.2⟩), if_neg (by omega)]
        · rw [if_neg (fun z => o12 z.1), if_neg (fun z : o = 2 ∧ k ≤ j ∧ j < 10 => o12 z.1)]
          by_cases o13 : o = 3
          · subst o13
            by_cases hj : j = k
            · subst hj
              rw [if_neg (by omega), if_pos ⟨rfl, rfl⟩, if_pos ⟨rfl, by omega⟩]
            · by_cases hj2 : k + 1 ≤ j ∧ j < 10
              · rw [if_pos ⟨rfl, hj2⟩, if_pos ⟨rfl, by omega⟩]
              · rw [if_neg (fun z => hj2 z.2), if_neg (fun z => hj z.2), if_neg (by omega), if_neg (fun z => hj2 ⟨by omega, z.2.2⟩)]
          · rw [if_neg (fun z => o13 z.1), if_neg (fun z => o13 z.1), if_neg (fun z => o12 z.1), if_neg (fun z => o13 z.1)]
theorem undo_2 {p : Nat} (hp : p < 14) : ∀ (n k : Nat) (μ : Mm), k ≤ 11 → 11 - k < n → μ.1 0 27 = nI p → ∃ μ', fX8_undo_b92 n (nI k) μ = fX8_undo_b146 100 0 μ' ∧ μ'.2 = μ.2 ∧ ∀ o j, μ'.1 o j = if o = 4 ∧ k ≤ j ∧ j < 11 then μ.1 14 (11 * p + j) else if o = 5 ∧ k ≤ j ∧ j < 11 then μ.1 15 (11 * p + j) else μ.1 o j := by
  intro n
  induction n with
  | zero => intro k μ hk hn _; omega
  | succ n ih =>
    intro k μ hk hn h27
    by_cases h10 : k = 11
    · subst h10
      refine ⟨μ, by unfold fX8_undo_b92; rw [if_pos (show (11 : Int32) ≤ nI 11 by decide)], rfl, fun o j => ?_⟩
      rw [if_neg (by omega), if_neg (by omega)]
    · have hk10 : k < 11 := by omega
      have ib : inb (nI k) 11 = true := inb_nI hk10 (by decide)
      have ix : (11 : Int32) * nI p + nI k = nI (11 * p + k) := by rw [show (11 : Int32) = nI 11 from rfl, nI_mul, nI_add]
      have ib2 : inb (nI (11 * p + k)) 154 = true := inb_nI (by omega) (by decide)
      have c1 : (nI k).toNatClampNeg = k := nI_clamp (by omega)
      have c2 : (nI (11 * p + k)).toNatClampNeg = 11 * p + k := nI_clamp (by omega)
      obtain ⟨μ', h1, h2, h3⟩ := ih (k + 1) (wI (wI μ 4 k (μ.1 14 (11 * p + k))) 5 k (μ.1 15 (11 * p + k))) (by omega) (by omega) h27
      refine ⟨μ', ?_, h2, fun o j => ?_⟩
      · unfold fX8_undo_b92
        rw [if_neg (show ¬ (11 : Int32) ≤ nI k from nI_ge (b := 11) hk10 (by decide))]
        simp only [wI_1, wI_2, wL_1, Nat.reduceEqDiff, false_and, if_false, h27, ib, ix, ib2, if_true, c1, c2, nI_1]
        exact h1
      · rw [h3 o j]
        simp only [wI_1, wL_1, Nat.reduceEqDiff, false_and, if_false]
        by_cases o12 : o = 4
        · subst o12
          by_cases hj : j = k
          · subst hj
            rw [if_neg (by omega), if_neg (by omega), if_neg (by omega), if_pos ⟨rfl, rfl⟩, if_pos ⟨rfl, by omega⟩]
          · by_cases hj2 : k + 1 ≤ j ∧ j < 11
            · rw [if_pos ⟨rfl, hj2⟩, if_pos ⟨rfl, by omega⟩]
            · rw [if_neg (fun z => hj2 z.2), if_neg (by omega), if_neg (by omega), if_neg (fun z => hj z.2), if_neg (fun z => hj2 ⟨by omega, z.2.2⟩), if_neg (by omega)]
        · rw [if_neg (fun z => o12 z.1), if_neg (fun z : o = 4 ∧ k ≤ j ∧ j < 11 => o12 z.1)]
          by_cases o13 : o = 5
          · subst o13
            by_cases hj : j = k
            · subst hj
              rw [if_neg (by omega), if_pos ⟨rfl, rfl⟩, if_pos ⟨rfl, by omega⟩]
            · by_cases hj2 : k + 1 ≤ j ∧ j < 11
              · rw [if_pos ⟨rfl, hj2⟩, if_pos ⟨rfl, by omega⟩]
              · rw [if_neg (fun z => hj2 z.2), if_neg (fun z => hj z.2), if_neg (by omega), if_neg (fun z => hj2 ⟨by omega, z.2.2⟩)]
          · rw [if_neg (fun z => o13 z.1), if_neg (fun z => o13 z.1), if_neg (fun z => o12 z.1), if_neg (fun z => o13 z.1)]
theorem undo_3 {p : Nat} (hp : p < 14) : ∀ (n k : Nat) (μ : Mm), k ≤ 66 → 66 - k < n → μ.1 0 27 = nI p → ∃ μ', fX8_undo_b146 n (nI k) μ = fX8_undo_b220 100 0 μ' ∧ (∀ o j, μ'.2 o j = if o = 8 ∧ k ≤ j ∧ j < 66 then μ.2 18 (66 * p + j) else μ.2 o j) ∧ ∀ o j, μ'.1 o j = if o = 6 ∧ k ≤ j ∧ j < 66 then μ.1 16 (66 * p + j) else if o = 7 ∧ k ≤ j ∧ j < 66 then μ.1 17 (66 * p + j) else μ.1 o j := by
  intro n
  induction n with
  | zero => intro k μ hk hn _; omega
  | succ n ih =>
    intro k μ hk hn h27
    by_cases h10 : k = 66
    · subst h10
      refine ⟨μ, by unfold fX8_undo_b146; rw [if_pos (show (66 : Int32) ≤ nI 66 by decide)], fun o j => by rw [if_neg (by omega)], fun o j => ?_⟩
      rw [if_neg (by omega), if_neg (by omega)]
    · have hk10 : k < 66 := by omega
      have ib : inb (nI k) 66 = true := inb_nI hk10 (by decide)
      have ix : (66 : Int32) * nI p + nI k = nI (66 * p + k) := by rw [show (66 : Int32) = nI 66 from rfl, nI_mul, nI_add]
      have ib2 : inb (nI (66 * p + k)) 924 = true := inb_nI (by omega) (by decide)
      have c1 : (nI k).toNatClampNeg = k := nI_clamp (by omega)
      have c2 : (nI (66 * p + k)).toNatClampNeg = 66 * p + k := nI_clamp (by omega)
      obtain ⟨μ', h1, h2, h3⟩ := ih (k + 1) (wL (wI (wI μ 6 k (μ.1 16 (66 * p + k))) 7 k (μ.1 17 (66 * p + k))) 8 k (μ.2 18 (66 * p + k))) (by omega) (by omega) h27
      refine ⟨μ', ?_, fun o j => ?_, fun o j => ?_⟩
      · unfold fX8_undo_b146
        rw [if_neg (show ¬ (66 : Int32) ≤ nI k from nI_ge (b := 66) hk10 (by decide))]
        simp only [wI_1, wI_2, wL_1, Nat.reduceEqDiff, false_and, if_false, h27, ib, ix, ib2, if_true, c1, c2, nI_1]
        exact h1
      · rw [h2 o j]
        simp only [wL_2, wI_2, Nat.reduceEqDiff, false_and, if_false]
        by_cases o8 : o = 8
        · subst o8
          by_cases hj : j = k
          · subst hj
            rw [if_neg (by omega), if_pos ⟨rfl, rfl⟩, if_pos ⟨rfl, by omega⟩]
          · by_cases hj2 : k + 1 ≤ j ∧ j < 66
            · rw [if_pos ⟨rfl, hj2⟩, if_pos ⟨rfl, by omega⟩]
            · rw [if_neg (fun z => hj2 z.2), if_neg (fun z => hj z.2), if_neg (fun z => hj2 ⟨by omega, z.2.2⟩)]
        · rw [if_neg (fun z => o8 z.1), if_neg (fun z => o8 z.1), if_neg (fun z => o8 z.1)]
      · rw [h3 o j]
        simp only [wI_1, wL_1, Nat.reduceEqDiff, false_and, if_false]
        by_cases o12 : o = 6
        · subst o12
          by_cases hj : j = k
          · subst hj
            rw [if_neg (by omega), if_neg (by omega), if_neg (by omega), if_pos ⟨rfl, rfl⟩, if_pos ⟨rfl, by omega⟩]
          · by_cases hj2 : k + 1 ≤ j ∧ j < 66
            · rw [if_pos ⟨rfl, hj2⟩, if_pos ⟨rfl, by omega⟩]
            · rw [if_neg (fun z => hj2 z.2), if_neg (by omega), if_neg (by omega), if_neg (fun z => hj z.2), if_neg (fun z => hj2 ⟨by omega, z.2.2⟩), if_neg (by omega)]
        · rw [if_neg (fun z => o12 z.1), if_neg (fun z : o = 6 ∧ k ≤ j ∧ j < 66 => o12 z.1)]
          by_cases o13 : o = 7
          · subst o13
            by_cases hj : j = k
            · subst hj
              rw [if_neg (by omega), if_pos ⟨rfl, rfl⟩, if_pos ⟨rfl, by omega⟩]
            · by_cases hj2 : k + 1 ≤ j ∧ j < 66
              · rw [if_pos ⟨rfl, hj2⟩, if_pos ⟨rfl, by omega⟩]
              · rw [if_neg (fun z => hj2 z.2), if_neg (fun z => hj z.2), if_neg (by omega), if_neg (fun z => hj2 ⟨by omega, z.2.2⟩)]
          · rw [if_neg (fun z => o13 z.1), if_neg (fun z => o13 z.1), if_neg (fun z => o12 z.1), if_neg (fun z => o13 z.1)]
theorem undo_4 {p om : Nat} (hp : p < 14) (hom : om ≤ 20) : ∀ (n k : Nat) (μ : Mm), k ≤ om → om - k < n → μ.1 0 27 = nI p → μ.1 20 p = nI om → ∃ μ', fX8_undo_b220 n (nI k) μ = some (μ.1 0 26, μ') ∧ μ'.2 = μ.2 ∧ ∀ o j, μ'.1 o j = if o = 9 ∧ k ≤ j ∧ j < om then μ.1 19 (20 * p + j) else μ.1 o j := by
  intro n
  induction n with
  | zero => intro k μ hk hn _ _; omega
  | succ n ih =>
    intro k μ hk hn h27 h20
    have ip : inb (nI p) 14 = true := inb_nI hp (by decide)
    have cp : (nI p).toNatClampNeg = p := nI_clamp (by omega)
    by_cases h10 : k = om
    · subst h10
      refine ⟨μ, ?_, rfl, fun o j => by rw [if_neg (by omega)]⟩
      unfold fX8_undo_b220
      rw [h27, if_pos ip, cp, h20, if_pos (Int32.le_refl _)]
    · have hk10 : k < om := by omega
      have ib : inb (nI k) 20 = true := inb_nI (by omega) (by decide)
      have ix : (20 : Int32) * nI p + nI k = nI (20 * p + k) := by rw [show (20 : Int32) = nI 20 from rfl, nI_mul, nI_add]
      have ib2 : inb (nI (20 * p + k)) 280 = true := inb_nI (by omega) (by decide)
      have c1 : (nI k).toNatClampNeg = k := nI_clamp (by omega)
      have c2 : (nI (20 * p + k)).toNatClampNeg = 20 * p + k := nI_clamp (by omega)
      obtain ⟨μ', h1, h2, h3⟩ := ih (k + 1) (wI μ 9 k (μ.1 19 (20 * p + k))) (by omega) (by omega) h27 h20
      refine ⟨μ', ?_, h2, fun o j => ?_⟩
      · unfold fX8_undo_b220
        rw [h27, if_pos ip, cp, h20, if_neg (show ¬ nI om ≤ nI k from nI_ge hk10 (by omega)), ix, if_pos ib2, if_pos ib, c1, c2, nI_1]
        exact h1
      · rw [h3 o j]
        simp only [wI_1, Nat.reduceEqDiff, false_and, if_false]
        by_cases o12 : o = 9
        · subst o12
          by_cases hj : j = k
          · subst hj
            rw [if_neg (by omega), if_pos ⟨rfl, rfl⟩, if_pos ⟨rfl, by omega⟩]
          · by_cases hj2 : k + 1 ≤ j ∧ j < om
            · rw [if_pos ⟨rfl, hj2⟩, if_pos ⟨rfl, by omega⟩]
            · rw [if_neg (fun z => hj2 z.2), if_neg (fun z => hj z.2), if_neg (fun z => hj2 ⟨by omega, z.2.2⟩)]
        · rw [if_neg (fun z => o12 z.1), if_neg (fun z => o12 z.1), if_neg (fun z => o12 z.1)]
