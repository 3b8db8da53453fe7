/-! PURE PART 19: about, all -/
theorem ab6 {μx μm : Mm} {mc : Nat} (hC : RCo μx μm mc) : ∀ n i v, i ≤ 10 → 10 - i < n → ∃ r, fX7_countEmptySlots_b4 μx n v (nI i) = some r ∧ fX8_nothings_b4 μm n v (nI i) = some r := by
  intro n
  induction n with
  | zero => intro i v hi hn; omega
  | succ n ih =>
    intro i v hi hn
    unfold fX7_countEmptySlots_b4 fX8_nothings_b4
    by_cases h10 : i = 10
    · subst h10
      exact ⟨v, by rw [if_pos (show (10 : Int32) ≤ nI 10 by decide)], by rw [if_pos (show (10 : Int32) ≤ nI 10 by decide)]⟩
    · have hlt : i < 10 := by omega
      have hng : ¬ (10 : Int32) ≤ nI i := nI_ge (b := 10) hlt (by decide)
      obtain ⟨r, t, hr, ht, e1, e2, e3, -⟩ := slotR hC hlt
      rw [if_neg hng, if_neg hng, x_thingIn hlt hr e1 e2, if_pos (inb10 hlt), cl (by omega), e3]
      simp only [Option.bind_some]
      unfold fX7_countEmptySlots_b23 fX8_nothings_b27
      rw [nI_1]
      by_cases h5 : nI t = 15
      · rw [if_pos h5, if_pos h5]
        exact ih (i + 1) _ (by omega) (by omega)
      · rw [if_neg h5, if_neg h5, Int32.add_zero]
        exact ih (i + 1) _ (by omega) (by omega)
theorem ab7 {μx μm : Mm} {n0 : Nat} (hn0 : n0 ≤ 6) (x7 : μx.1 0 7 = nI n0) (m16 : μm.1 0 16 = nI n0) (hj : ∀ j, j < n0 → μx.1 7 j = μm.1 11 j) : ∀ n i v, i ≤ n0 → n0 - i < n → ∃ r, fX7_countFine_b4 μx n v (nI i) = some r ∧ fX8_fineOnes_b4 μm n v (nI i) = some r := by
  intro n
  induction n with
  | zero => intro i v hi hn; omega
  | succ n ih =>
    intro i v hi hn
    unfold fX7_countFine_b4 fX8_fineOnes_b4
    rw [x7, m16]
    by_cases h10 : i = n0
    · subst h10
      exact ⟨v, by rw [if_pos (Int32.le_refl _)], by rw [if_pos (Int32.le_refl _)]⟩
    · have hlt : i < n0 := by omega
      have hng : ¬ nI n0 ≤ nI i := nI_ge hlt (by omega)
      have ib : inb (nI i) 6 = true := inb_nI (by omega) (by decide)
      rw [if_neg hng, if_neg hng, if_pos ib, if_pos ib, cl (by omega), hj i hlt]
      unfold fX7_countFine_b24 fX8_fineOnes_b27
      rw [nI_1]
      by_cases h5 : μm.1 11 i = 0
      · rw [if_pos h5, if_pos h5]
        exact ih (i + 1) _ (by omega) (by omega)
      · rw [if_neg h5, if_neg h5, Int32.add_zero]
        exact ih (i + 1) _ (by omega) (by omega)
theorem ab4m {μ : Mm} (md : Int32) : ∀ n i, i ≤ 11 → 11 - i < n → fX8_rowsHeld_b4 μ n md (sumQ (fun q => if Hb (μ.1 3) (nI q) 10 = true then (if md = 4 then 1 else μ.1 5 (nI q).toNatClampNeg) else 0) i) (nI i) = some (sumQ (fun q => if Hb (μ.1 3) (nI q) 10 = true then (if md = 4 then 1 else μ.1 5 (nI q).toNatClampNeg) else 0) 11) := by
  intro n
  induction n with
  | zero => intro i hi hn; omega
  | succ n ih =>
    intro i hi hn
    unfold fX8_rowsHeld_b4
    by_cases h10 : i = 11
    · subst h10
      rw [if_pos (show (11 : Int32) ≤ nI 11 by decide)]
    · have hlt : i < 11 := by omega
      have hng : ¬ (11 : Int32) ≤ nI i := nI_ge (b := 11) hlt (by decide)
      have hh : fX8_isHeld (nI i) μ = some (bz (Hb (μ.1 3) (nI i) 10 = true)) := m_held (x := nI i) 100 0 (by decide) (by decide)
      have ih' := ih (i + 1) (by omega) (by omega)
      have hs : sumQ (fun q => if Hb (μ.1 3) (nI q) 10 = true then (if md = 4 then 1 else μ.1 5 (nI q).toNatClampNeg) else 0) (i + 1) = sumQ (fun q => if Hb (μ.1 3) (nI q) 10 = true then (if md = 4 then 1 else μ.1 5 (nI q).toNatClampNeg) else 0) i + (if Hb (μ.1 3) (nI i) 10 = true then (if md = 4 then 1 else μ.1 5 (nI i).toNatClampNeg) else 0) := rfl
      rw [hs] at ih'
      rw [if_neg hng, hh]
      simp only [Option.bind_some]
      unfold fX8_rowsHeld_b38
      rw [nI_1]
      by_cases z : Hb (μ.1 3) (nI i) 10 = true
      · rw [bz_t z, if_neg one_ne]
        rw [if_pos z] at ih'
        by_cases y : md = 4
        · rw [if_pos y]
          rw [if_pos y] at ih'
          exact ih'
        · rw [if_neg y, if_pos (inb11 hlt)]
          rw [if_neg y] at ih'
          exact ih'
      · rw [bz_f z, if_pos rfl]
        rw [if_neg z] at ih'
        exact ih'
theorem ab4x {μx μm : Mm} {mc : Nat} (hC : RCo μx μm mc) (mx md : Int32) (hmd : mx = 0 ↔ md = 4) : ∀ n i, i ≤ 10 → 10 - i < n → fX7_countArrays_b4 μx n mx (sumQ (fun a => if μm.1 3 a ≠ -9 ∧ Hb (μm.1 3) (μm.1 3 a) a = false then (if md = 4 then 1 else μm.1 5 (μm.1 3 a).toNatClampNeg) else 0) i) (nI i) = some (sumQ (fun a => if μm.1 3 a ≠ -9 ∧ Hb (μm.1 3) (μm.1 3 a) a = false then (if md = 4 then 1 else μm.1 5 (μm.1 3 a).toNatClampNeg) else 0) 10) := by
  intro n
  induction n with
  | zero => intro i hi hn; omega
  | succ n ih =>
    intro i hi hn
    unfold fX7_countArrays_b4
    by_cases h10 : i = 10
    · subst h10
      rw [if_pos (show (10 : Int32) ≤ nI 10 by decide)]
    · have hlt : i < 10 := by omega
      have hng : ¬ (10 : Int32) ≤ nI i := nI_ge (b := 10) hlt (by decide)
      have ih' := ih (i + 1) (by omega) (by omega)
      have hs : sumQ (fun a => if μm.1 3 a ≠ -9 ∧ Hb (μm.1 3) (μm.1 3 a) a = false then (if md = 4 then 1 else μm.1 5 (μm.1 3 a).toNatClampNeg) else 0) (i + 1) = sumQ (fun a => if μm.1 3 a ≠ -9 ∧ Hb (μm.1 3) (μm.1 3 a) a = false then (if md = 4 then 1 else μm.1 5 (μm.1 3 a).toNatClampNeg) else 0) i + (if μm.1 3 i ≠ -9 ∧ Hb (μm.1 3) (μm.1 3 i) i = false then (if md = 4 then 1 else μm.1 5 (μm.1 3 i).toNatClampNeg) else 0) := rfl
      rw [hs] at ih'
      obtain ⟨r, t, hr, ht, e1, e2, e3, hA⟩ := slotR hC hlt
      rw [if_neg hng, if_pos (inb10 hlt), x_holds hlt hr ht e1 e2]
      simp only [Option.bind_some]
      unfold fX7_countArrays_b55 fX7_countArrays_b57
      rw [nI_1, cl (by omega)]
      rcases hA with ⟨h12, q, k, hq, hk, m1, m2, x1, m3, -⟩ | ⟨h13, m1, -⟩
      · have g : nI q ≠ -9 := by
          have g : ∀ q, q < 11 → nI q ≠ -9 := by decide +kernel
          exact g q hq
        have hne : μm.1 3 i ≠ -9 := by rw [m1]; exact g
        have hcg : Hb (μx.1 6) (μx.1 6 i) i = Hb (μm.1 3) (μm.1 3 i) i := by
          refine Hb_congr i (fun a ha => ?_)
          have := hC.1.2 i a hlt (by omega) hne
          exact ⟨fun z => (this.mp z.symm).symm, fun z => (this.mpr z.symm).symm⟩
        obtain ⟨b, hb, k1, k2⟩ := x_first (μ := μx) hlt rfl 100 0 (by omega) (by omega) rfl
        have k1' : fX7_firstSlotOf (μx.1 6 i) μx = some (nI b) := k1
        rw [bz_t h12, if_neg one_ne, k1']
        simp only [Option.bind_some]
        by_cases z : b = i
        · subst z
          have hfs : Hb (μm.1 3) (μm.1 3 b) b = false := by rw [← hcg]; exact k2.mp rfl
          rw [if_pos rfl]
          rw [if_pos ⟨hne, hfs⟩] at ih'
          by_cases y : md = 4
          · rw [if_pos (hmd.mpr y)]
            rw [if_pos y] at ih'
            exact ih'
          · rw [if_neg (fun w => y (hmd.mp w)), e1, if_pos (inb26 hr), cl (by omega), x1]
            rw [if_neg y, m1, cl (by omega), m3] at ih'
            exact ih'
        · rw [if_neg (fun y => z ((nI_eq (by omega) (by omega)).mp y))]
          rw [if_neg (fun y => z (k2.mpr (by rw [hcg]; exact y.2))), Int32.add_zero] at ih'
          exact ih'
      · rw [bz_f (by omega), if_pos rfl]
        rw [if_neg (fun y => y.1 m1), Int32.add_zero] at ih'
        exact ih'
theorem ab45 {μx μm : Mm} {mc : Nat} (hC : RCo μx μm mc) (mx md : Int32) (hmd : mx = 0 ↔ md = 4) : ∃ r, fX7_countArrays mx μx = some r ∧ fX8_rowsHeld md μm = some r := by
  have hR : ∀ a, a < 10 → μm.1 3 a = -9 ∨ ∃ q, q < 11 ∧ μm.1 3 a = nI q := by
    intro a ha
    obtain ⟨r, t, hr, ht, e1, e2, e3, hA⟩ := slotR hC ha
    rcases hA with ⟨h12, q, k, hq, hk, m1, -⟩ | ⟨h13, m1, -⟩
    · exact Or.inr ⟨q, hq, m1⟩
    · exact Or.inl m1
  refine ⟨_, ab4x hC mx md hmd 100 0 (by decide) (by decide), ?_⟩
  have h1 := ab4m (μ := μm) md 100 0 (by decide) (by decide)
  have h2 := cnt (V := fun x => if md = 4 then 1 else μm.1 5 x.toNatClampNeg) hR 10 (by decide)
  rw [h2] at h1
  exact h1
theorem st_about : St_about Rel := by
  intro p μx μm h
  have h0 := h
  obtain ⟨hT, hV, hR, mc, hM, hH, hC, nx, kp, hnx, hkp, x6, m27, x7, m26, hL⟩ := h
  unfold fX7_about fX8_about
  by_cases c : p = 0
  · rw [if_pos c, if_pos c]; exact ⟨_, rfl, by rw [hM.2.2.1, hM.2.1], h0⟩
  rw [if_neg c, if_neg c]
  by_cases c : p = 1
  · rw [if_pos c, if_pos c]; exact ⟨_, rfl, by rw [m26, x7], h0⟩
  rw [if_neg c, if_neg c]
  by_cases c : p = 2
  · rw [if_pos c, if_pos c]
    obtain ⟨n, -, a1, a2, -⟩ := hV
    exact ⟨_, rfl, by rw [a1, a2], h0⟩
  rw [if_neg c, if_neg c]
  by_cases c : p = 3
  · rw [if_pos c, if_pos c]
    obtain ⟨n, -, a1, a2, -⟩ := hT
    exact ⟨_, rfl, by rw [a1, a2], h0⟩
  rw [if_neg c, if_neg c]
  by_cases c : p = 4
  · rw [if_pos c, if_pos c]
    obtain ⟨r, a1, a2⟩ := ab45 hC 0 4 (by decide)
    exact ⟨r, by rw [a1]; rfl, by rw [a2]; rfl, h0⟩
  rw [if_neg c, if_neg c]
  by_cases c : p = 5
  · rw [if_pos c, if_pos c]
    obtain ⟨r, a1, a2⟩ := ab45 hC 1 5 (by decide)
    exact ⟨r, by rw [a1]; rfl, by rw [a2]; rfl, h0⟩
  rw [if_neg c, if_neg c]
  by_cases c : p = 6
  · rw [if_pos c, if_pos c]
    obtain ⟨r, a1, a2⟩ := ab6 hC 100 0 0 (by decide) (by decide)
    have a1' : fX7_countEmptySlots μx = some r := a1
    have a2' : fX8_nothings μm = some r := a2
    exact ⟨r, by rw [a1']; rfl, by rw [a2']; rfl, h0⟩
  rw [if_neg c, if_neg c]
  by_cases c : p = 7
  · rw [if_pos c, if_pos c]
    obtain ⟨n0, hn0, b1, b2, b3⟩ := hR
    obtain ⟨r, a1, a2⟩ := ab7 hn0 b1 b2 b3 100 0 0 (by omega) (by omega)
    have a1' : fX7_countFine μx = some r := a1
    have a2' : fX8_fineOnes μm = some r := a2
    exact ⟨r, by rw [a1']; rfl, by rw [a2']; rfl, h0⟩
  rw [if_neg c, if_neg c]
  exact ⟨_, rfl, rfl, h0⟩
