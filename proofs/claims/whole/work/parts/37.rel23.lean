/-! PURE PART 23: least -/
theorem l_sel {p : Int32} (hp : 1 ≤ p ∧ p ≤ 1023) : ∃ a, a < 10 ∧ sel p a = true := by
  have h1 : 1 ≤ p.toInt := Int32.le_iff_toInt_le.mp hp.1
  have h2 : p.toInt ≤ 1023 := Int32.le_iff_toInt_le.mp hp.2
  have hm : (1023 : Int32).toInt = ((1023 : Nat) : Int) := by decide
  rcases rng p 1023 hm with z | ⟨a, ha, e⟩
  · exact absurd ⟨Int32.le_trans (by decide) hp.1, hp.2⟩ z
  · cases a with
    | zero => rw [e] at hp; exact absurd hp.1 (by decide)
    | succ q =>
      have := l_any q (by omega)
      rw [← e, List.any_eq_true] at this
      obtain ⟨b, hb, hb2⟩ := this
      exact ⟨b, List.mem_range.mp hb, hb2⟩
theorem bd1 {α : Type} {x : Option Int32} {f : Int32 → Option α} {v : Int32} (h : x = some v) : x.bind f = f v := by rw [h]; rfl
theorem ls_x {μx μm : Mm} {mc : Nat} (hC : RCo μx μm mc) {p : Int32} (hp : 1 ≤ p ∧ p ≤ 1023) : fX7_least p μx = if lP (μm.1 2) p 10 = true then fX2_leastOf (lM (μm.1 2) p 10) else some (-3) := by
  have h := l_x hC p 100 0 (by decide) (by decide) rfl
  rw [show lM (μm.1 2) p 0 = 255 from rfl, show nI 0 = (0 : Int32) from rfl] at h
  unfold fX7_least
  rw [if_neg (Int32.not_lt.mpr hp.1), if_pos hp.2, h]
theorem ls_m {μm : Mm} {p : Int32} (hp : 1 ≤ p ∧ p ≤ 1023) : fX8_least p μm = if lP (μm.1 2) p 10 = true then fX8_least_b71 μm 100 p (-9) 7 else some (-3) := by
  have hin : fX8_in (Int32.toInt64 p) 1 1023 = _ := in32 p 1 1023
  have h := l_m1 (μ := μm) p 100 0 (by decide) (by decide)
  rw [bz_t (show lP (μm.1 2) p 0 = true from rfl), show nI 0 = (0 : Int32) from rfl] at h
  unfold fX8_least
  rw [bd1 (hin.trans (congrArg some (bz_t hp))), if_neg one_ne, h]
theorem ls_3 {μ : Mm} {p : Int32} (hP : lP (μ.1 2) p 10 = true) : fX8_least_b71 μ 100 p (-9) 7 = some (lo (fun k => lA (μ.1 2) p (nI k) 10) (-9) 7) := by
  have h := l_m3 hP 7 100 (-9) (by decide) (by decide)
  rw [show nI 7 = (7 : Int32) from rfl] at h
  exact h
