/-! PURE PART 16: undo, both -/
theorem m_undo {μ : Mm} {nx m om : Nat} (hnx : nx < 14) (hm : m < 14) (h27 : μ.1 0 27 = nI nx) (h26 : μ.1 0 26 = nI (m + 1)) (hom : om ≤ 20) (h20 : μ.1 20 (lpos nx 1) = nI om) : ∃ μ', fX8_undo μ = some (nI m, μ') ∧ μ'.1 0 27 = nI (lpos nx 1) ∧ μ'.1 0 26 = nI m ∧ smM μ μ' ∧
    (∀ o, o ∈ [12, 13, 14, 15, 16, 17, 19, 20] → μ'.1 o = μ.1 o) ∧ μ'.2 18 = μ.2 18 ∧ (∀ k, μ'.1 9 k = if k < om then μ.1 19 (20 * lpos nx 1 + k) else μ.1 9 k) ∧
    (∀ a, a < 10 → μ'.1 2 a = μ.1 12 (10 * lpos nx 1 + a) ∧ μ'.1 3 a = μ.1 13 (10 * lpos nx 1 + a)) ∧ (∀ a, a < 11 → μ'.1 4 a = μ.1 14 (11 * lpos nx 1 + a) ∧ μ'.1 5 a = μ.1 15 (11 * lpos nx 1 + a)) ∧
    ∀ k, k < 66 → μ'.1 6 k = μ.1 16 (66 * lpos nx 1 + k) ∧ μ'.1 7 k = μ.1 17 (66 * lpos nx 1 + k) ∧ μ'.2 8 k = μ.2 18 (66 * lpos nx 1 + k) := by
  have hp := lpos_lt nx 1
  have hs : nI (m + 1) - 1 = nI m := by rw [← nI_1]; exact Int32.add_sub_cancel _ _
  have hne : ¬ (nI (m + 1) = 0) := nI_ne (b := 0) (by omega) (by decide) (by omega)
  have hrem : jrem (nI nx + 14 - 1) 14 = nI (lpos nx 1) := by
    have g : ∀ nx, nx < 14 → jrem (nI nx + 14 - 1) 14 = nI (lpos nx 1) := by decide +kernel
    exact g nx hnx
  obtain ⟨μ1, a1, a2, a3⟩ := undo_1 hp 100 0 (wI (wI μ 0 26 (nI m)) 0 27 (nI (lpos nx 1))) (by decide) (by decide) rfl
  have b27 : μ1.1 0 27 = nI (lpos nx 1) := by rw [a3]; rfl
  obtain ⟨μ2, c1, c2, c3⟩ := undo_2 hp 100 0 μ1 (by decide) (by decide) b27
  have d27 : μ2.1 0 27 = nI (lpos nx 1) := by rw [c3]; exact b27
  obtain ⟨μ3, e1, e2, e3⟩ := undo_3 hp 100 0 μ2 (by decide) (by decide) d27
  have f27 : μ3.1 0 27 = nI (lpos nx 1) := by rw [e3]; exact d27
  have f20 : μ3.1 20 (lpos nx 1) = nI om := by rw [e3]; simp only [Nat.reduceEqDiff, false_and, if_false]; rw [c3]; simp only [Nat.reduceEqDiff, false_and, if_false]; rw [a3]; exact h20
  obtain ⟨μ4, g1, g2, g3⟩ := undo_4 hp hom 100 0 μ3 (by omega) (by omega) f27 f20
  have f26 : μ3.1 0 26 = nI m := by rw [e3]; simp only [Nat.reduceEqDiff, false_and, if_false]; rw [c3]; simp only [Nat.reduceEqDiff, false_and, if_false]; rw [a3]; rfl
  have S : ∀ o, 10 ≤ o ∨ o < 2 → ∀ j, μ4.1 o j = (wI (wI μ 0 26 (nI m)) 0 27 (nI (lpos nx 1))).1 o j := by
    intro o ho j
    rw [g3, if_neg (by omega), e3, if_neg (by omega), if_neg (by omega), c3, if_neg (by omega), if_neg (by omega), a3, if_neg (by omega), if_neg (by omega)]
  have S1 : ∀ o, 10 ≤ o ∨ o = 1 → μ4.1 o = μ.1 o := by
    intro o ho
    funext j
    rw [S o (by omega) j, wI_1, if_neg (by omega), wI_1, if_neg (by omega)]
  have L : ∀ o, o ≠ 8 → μ4.2 o = μ.2 o := by
    intro o ho
    funext j
    rw [g2, e2, if_neg (fun z => ho z.1), c2, a2]
    rfl
  refine ⟨μ4, ?_, ?_, ?_, ⟨?_, S1 1 (by decide), S1 10 (by decide), S1 11 (by decide), S1 21 (by decide), S1 22 (by decide), S1 23 (by decide), by rw [L 0 (by decide)]⟩, ?_, L 18 (by decide), ?_, ?_, ?_, ?_⟩
  · unfold fX8_undo
    rw [h26, if_neg hne, hs]
    have z1 : (wI μ 0 26 (nI m)).1 0 27 = nI nx := h27
    rw [z1, hrem]
    show fX8_undo_b38 100 (nI 0) _ = _
    rw [a1]
    show fX8_undo_b92 100 (nI 0) μ1 = _
    rw [c1]
    show fX8_undo_b146 100 (nI 0) μ2 = _
    rw [e1]
    show fX8_undo_b220 100 (nI 0) μ3 = _
    rw [g1, f26]
  · rw [S 0 (by decide)]; rfl
  · rw [S 0 (by decide)]; rfl
  · intro k hk
    simp only [List.mem_cons, List.not_mem_nil, or_false] at hk
    rw [S 0 (by decide), wI_1, if_neg (by omega), wI_1, if_neg (by omega)]
  · intro o ho
    simp only [List.mem_cons, List.not_mem_nil, or_false] at ho
    exact S1 o (by omega)
  · intro k
    rw [g3 9 k]
    have w : ∀ o, o = 9 ∨ o = 19 → ∀ j, μ3.1 o j = μ.1 o j := by
      intro o ho j
      rw [e3, if_neg (by omega), if_neg (by omega), c3, if_neg (by omega), if_neg (by omega), a3, if_neg (by omega), if_neg (by omega), wI_1, if_neg (by omega), wI_1, if_neg (by omega)]
    by_cases z : k < om
    · rw [if_pos ⟨rfl, Nat.zero_le _, z⟩, if_pos z, w 19 (by decide)]
    · rw [if_neg (fun y => z y.2.2), if_neg z, w 9 (by decide)]
  · intro a ha
    constructor
    · rw [g3, if_neg (by omega), e3, if_neg (by omega), if_neg (by omega), c3, if_neg (by omega), if_neg (by omega), a3, if_pos (by omega)]; rfl
    · rw [g3, if_neg (by omega), e3, if_neg (by omega), if_neg (by omega), c3, if_neg (by omega), if_neg (by omega), a3, if_neg (by omega), if_pos (by omega)]; rfl
  · intro a ha
    constructor
    · rw [g3, if_neg (by omega), e3, if_neg (by omega), if_neg (by omega), c3, if_pos (by omega), a3, if_neg (by omega), if_neg (by omega)]; rfl
    · rw [g3, if_neg (by omega), e3, if_neg (by omega), if_neg (by omega), c3, if_neg (by omega), if_pos (by omega), a3, if_neg (by omega), if_neg (by omega)]; rfl
  · intro k hk
    refine ⟨?_, ?_, ?_⟩
    · rw [g3, if_neg (by omega), e3, if_pos (by omega), c3, if_neg (by omega), if_neg (by omega), a3, if_neg (by omega), if_neg (by omega)]; rfl
    · rw [g3, if_neg (by omega), e3, if_neg (by omega), if_pos (by omega), c3, if_neg (by omega), if_neg (by omega), a3, if_neg (by omega), if_neg (by omega)]; rfl
    · rw [g2, e2, if_pos (by omega), c2, a2]; rfl
theorem st_undo : St_undo Rel := by
  intro μx μm h
  have h0 := h
  obtain ⟨hT, hV, hR, mc, hM, hH, hC, nx, kp, hnx, hkp, x6, m27, x7, m26, hL⟩ := h
  cases kp with
  | zero =>
    refine ⟨-3, μx, μm, ?_, ?_, h0⟩
    · unfold fX7_undo; rw [x7, if_pos (show nI 0 = 0 from rfl)]
    · unfold fX8_undo; rw [m26, if_pos (show nI 0 = 0 from rfl)]
  | succ m =>
    obtain ⟨⟨g1, ⟨om, hom, go, g2⟩, g3⟩, hCr, hNu⟩ := hL 1 (by omega) (by omega)
    have hmc := hM.1
    obtain ⟨μx', k1, k2, k3, k4, k5, k6, k7, k8⟩ := x_undo hnx (by omega) x6 x7 hmc hom g1 g2 g3
    obtain ⟨μm', l1, l2, l3, l4, l5, l6, l7, l8, l9, l10⟩ := m_undo hnx (by omega) m27 m26 (show om ≤ 20 by omega) go
    refine ⟨nI m, μx', μm', k1, l1, ?_⟩
    have hun : ∀ p c, unA μx' p c = unA μx p c := by
      intro p c
      unfold unA
      rw [k6 15 (by decide), k6 16 (by decide), k6 17 (by decide), k6 18 (by decide), k6 19 (by decide), k7]
    have hU : ∀ j, j ≤ 13 → Un μx' (lpos nx 1) j = Un μx nx (j + 1) := by
      intro j
      induction j with
      | zero => intro _; exact k2
      | succ j ih =>
        intro hj
        show unA μx' (lpos (lpos nx 1) (j + 1)) (Un μx' (lpos nx 1) j) = unA μx (lpos nx (j + 1 + 1)) (Un μx nx (j + 1))
        rw [hun, ih (by omega)]
        congr 1
        unfold lpos
        omega
    have e10 : μm'.1 10 = μm.1 10 := l4.2.2.1
    have hlp : ∀ j, j ≤ 13 → lpos (lpos nx 1) j = lpos nx (j + 1) := by intro j hj; unfold lpos; omega
    have hmsn : ∀ p, msnap μm' p = msnap μm p := by
      intro p
      unfold msnap
      rw [l5 12 (by decide), l5 13 (by decide), l5 14 (by decide), l5 15 (by decide), l5 16 (by decide), l5 17 (by decide), l6]
    refine sm_rel hT hV hR hH hM k5 l4 (fun k hk => ?_) ⟨?_, ?_, ?_⟩ ⟨lpos nx 1, m, lpos_lt _ _, by omega, k3, l2, k4, l3, ?_⟩
    · rw [l7 k]
      by_cases z : k < om
      · rw [if_pos z]
        have := hNu k om (by omega) go z
        have e : (Un μx nx 1).2.2.2 = μx'.1 21 := by
          have : Un μx nx 1 = xcore μx' := k2.symm
          rw [this]; rfl
        rw [← e]
        exact this
      · rw [if_neg z, k8 k (by omega)]
        exact (hM.2.2.2 k hk).1
    · rw [e10, k6 11 (by decide), k6 12 (by decide), k2]
      exact hCr.mcong (fun a ha => l8 a ha) (fun a ha => l9 a ha) (fun k hk => l10 k hk)
    · rw [k6 11 (by decide)]; exact hC.2.1
    · rw [k6 12 (by decide)]; exact hC.2.2
    · intro j h1 h2
      obtain ⟨a1, a2, a3⟩ := hL (j + 1) (by omega) (by omega)
      rw [hlp j (by omega), hU j (by omega), hmsn, e10, k6 11 (by decide), k6 12 (by decide), l5 19 (by decide), l5 20 (by decide)]
      refine ⟨?_, a2, a3⟩
      unfold Ac1
      rw [k6 15 (by decide), k6 16 (by decide), k6 17 (by decide), l5 20 (by decide)]
      exact a1
