/-! PURE PART 23: least -/
theorem l_sel {p : Int32} (hp : 1 ≤ p ∧ p ≤ 1023) : ∃ a, a < 10 ∧ sel p a = true := by
  have h1 : 1 ≤ p.toInt := Int32.le_iff_toInt_le.mp hp.1
  have h2 : p.toInt ≤ 1023 := Int32.le_iff_toInt_le.mp hp.2
  have hm : (1023 : Int32).toInt = ((1023 : Nat) : Int) := by decide
  rcases rng p 1023 hm with z | ⟨a, ha, e⟩
  · exact absurd ⟨Int32.le_trans (by decide) hp.1, hp.2⟩ z
  · cases a with
    | zero => rw [e] at hp; exact absurd hp.1 (by decide)
    | succ q =>
      have := l_any q (by omega)
      rw [← e, List.any_eq_true] at this
      obtain ⟨b, hb, hb2⟩ := this
      exact ⟨b, List.mem_range.mp hb, hb2⟩
