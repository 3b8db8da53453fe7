/-! PURE PART 24: least, the end -/
theorem ls_e {μx μm : Mm} {p : Int32} (hp : 1 ≤ p ∧ p ≤ 1023) (hP : lP (μm.1 2) p 10 = true) : fX8_least_b71 μm 100 p (-9) 7 = fX2_leastOf (lM (μm.1 2) p 10) ∧ ∃ r, fX2_leastOf (lM (μm.1 2) p 10) = some r := by
  have hm := l_mask 10 hP
  have hf := l_fin1 _ (hm.2.2 (l_sel hp))
  have hc := lo_congr (A := fun k => lA (μm.1 2) p (nI k) 10) (B := tb (lM (μm.1 2) p 10)) 7 (-9) (fun k hk => hm.2.1 k (Nat.lt_succ_of_le hk))
  rw [ls_3 hP, hf, hc]
  exact ⟨rfl, _, rfl⟩
theorem st_least : St_least Rel := by
  intro p μx μm h
  have h0 := h
  obtain ⟨hT, hV, hR, mc, hM, hH, hC, hG⟩ := h
  have hin : fX8_in (Int32.toInt64 p) 1 1023 = _ := in32 p 1 1023
  by_cases hp : ¬ (1 ≤ p ∧ p ≤ 1023)
  · refine ⟨-2, ?_, by unfold fX8_least; rw [hin, bz_f hp]; rfl, h0⟩
    unfold fX7_least
    by_cases z : p < 1
    · rw [if_pos z]
    · rw [if_neg z, if_neg (fun y => hp ⟨Int32.not_lt.mp z, y⟩)]
  replace hp := Decidable.not_not.mp hp
  rw [ls_x hC hp, ls_m hp]
  by_cases hP : lP (μm.1 2) p 10 = true
  · obtain ⟨e, r, er⟩ := ls_e (μx := μx) hp hP
    rw [if_pos hP, if_pos hP, e, er]
    exact ⟨r, rfl, rfl, h0⟩
  · rw [if_neg hP, if_neg hP]
    exact ⟨-3, rfl, rfl, h0⟩
