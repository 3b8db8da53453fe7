/-! PURE PART 6: note() of the reference -/
theorem nI_mul (a b : Nat) : nI a * nI b = nI (a * b) := pk_mul a b
theorem ge_t {a b : Nat} (h : a ≤ b) (hb : b < 2 ^ 31) : nI a ≤ nI b := nI_le h hb
theorem note_1 {p : Nat} (hp : p < 14) : ∀ (n k : Nat) (μ : Mm), k ≤ 10 → 10 - k < n → μ.1 0 27 = nI p → ∃ μ', fX8_note_b2 n (nI k) μ = fX8_note_b56 100 0 μ' ∧ μ'.2 = μ.2 ∧ ∀ o j, μ'.1 o j = if o = 12 ∧ 10 * p + k ≤ j ∧ j < 10 * p + 10 then μ.1 2 (j - 10 * p) else if o = 13 ∧ 10 * p + k ≤ j ∧ j < 10 * p + 10 then μ.1 3 (j - 10 * p) else μ.1 o j := by
  intro n
  induction n with
  | zero => intro k μ hk hn _; omega
  | succ n ih =>
    intro k μ hk hn h27
    by_cases h10 : k = 10
    · subst h10
      refine ⟨μ, by unfold fX8_note_b2; rw [if_pos (show (10 : Int32) ≤ nI 10 by decide)], rfl, fun o j => ?_⟩
      rw [if_neg (by omega), if_neg (by omega)]
    · have hk10 : k < 10 := by omega
      have ib : inb (nI k) 10 = true := inb_nI hk10 (by decide)
      have ix : (10 : Int32) * nI p + nI k = nI (10 * p + k) := by rw [show (10 : Int32) = nI 10 from rfl, nI_mul, nI_add]
      have ib2 : inb (nI (10 * p + k)) 140 = true := inb_nI (by omega) (by decide)
      have c1 : (nI k).toNatClampNeg = k := nI_clamp (by omega)
      have c2 : (nI (10 * p + k)).toNatClampNeg = 10 * p + k := nI_clamp (by omega)
      obtain ⟨μ', h1, h2, h3⟩ := ih (k + 1) (wI (wI μ 12 (10 * p + k) (μ.1 2 k)) 13 (10 * p + k) (μ.1 3 k)) (by omega) (by omega) h27
      refine ⟨μ', ?_, h2, fun o j => ?_⟩
      · unfold fX8_note_b2
        rw [if_neg (show ¬ (10 : Int32) ≤ nI k from nI_ge (b := 10) hk10 (by decide))]
        simp only [wI_1, Nat.reduceEqDiff, false_and, if_false, h27, ib, ix, ib2, if_true, c1, c2, nI_1]
        exact h1
      · rw [h3 o j]
        simp only [wI_1, Nat.reduceEqDiff, false_and, if_false]
        by_cases o12 : o = 12
        · subst o12
          by_cases hj : j = 10 * p + k
          · subst hj
            simp
            intro h; omega
          · by_cases hj2 : 10 * p + (k + 1) ≤ j ∧ j < 10 * p + 10
            · rw [if_pos ⟨rfl, hj2⟩, if_pos ⟨rfl, by omega⟩]
            · rw [if_neg (fun z => hj2 z.2), if_neg (fun z => absurd z.1 (by decide)), if_neg (fun z => absurd z.1 (by decide)), if_neg (fun z => hj z.2), if_neg (fun z => hj2 ⟨by omega, z.2.2⟩), if_neg (fun z => absurd z.1 (by decide))]
        · rw [if_neg (fun z => o12 z.1), if_neg (fun z : o = 12 ∧ 10 * p + k ≤ j ∧ j < 10 * p + 10 => o12 z.1)]
          by_cases o13 : o = 13
          · subst o13
            by_cases hj : j = 10 * p + k
            · subst hj
              simp
              intro h; omega
            · by_cases hj2 : 10 * p + (k + 1) ≤ j ∧ j < 10 * p + 10
              · rw [if_pos ⟨rfl, hj2⟩, if_pos ⟨rfl, by omega⟩]
              · rw [if_neg (fun z => hj2 z.2), if_neg (fun z => hj z.2), if_neg (fun z => absurd z.1 (by decide)), if_neg (fun z => hj2 ⟨by omega, z.2.2⟩)]
          · rw [if_neg (fun z => o13 z.1), if_neg (fun z => o13 z.1), if_neg (fun z => o12 z.1), if_neg (fun z => o13 z.1)]
