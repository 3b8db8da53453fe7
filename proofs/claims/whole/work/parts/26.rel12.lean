/-! PURE PART 12: cell, fetch -/
theorem pos_cases (p : Int32) {n : Nat} (hn : n ≤ 6) : ¬ (0 ≤ p ∧ p ≤ nI n - 1) ∨ ∃ i, i < n ∧ p = nI i ∧ 0 ≤ nI i ∧ nI i ≤ nI n - 1 := by
  cases n with
  | zero =>
    refine Or.inl (fun z => ?_)
    have : nI 0 - 1 = (-1 : Int32) := by decide
    rw [this] at z
    exact absurd (Int32.le_trans z.1 z.2) (by decide)
  | succ m =>
    have hs : nI (m + 1) - 1 = nI m := by rw [← nI_1]; exact Int32.add_sub_cancel _ _
    rw [hs]
    have hm : (nI m).toInt = (m : Int) := by
      have g : ∀ m, m < 6 → (nI m).toInt = (m : Int) := by decide +kernel
      exact g m (by omega)
    rcases rng p (nI m) hm with h | ⟨a, ha, rfl⟩
    · exact Or.inl h
    · exact Or.inr ⟨a, by omega, rfl, rng_ok rfl (by omega) ha⟩
theorem x_has {μ : Mm} {r n : Nat} (hr : r < 26) (hn : n ≤ 6) (h : μ.1 12 r = nI n) (p : Int32) : fX5_has (nI r) p μ = some (bz (0 ≤ p ∧ p ≤ nI n - 1)) := by
  have key : p ≤ nI n - 1 ↔ ¬ nI n ≤ p := by
    have g : ∀ n, n ≤ 6 → (nI n - 1).toInt = (nI n).toInt - 1 := by decide +kernel
    rw [Int32.le_iff_toInt_le, Int32.le_iff_toInt_le, g n hn]
    omega
  unfold fX5_has
  by_cases h1 : p < 0
  · rw [if_pos h1, bz_f (fun z => Int32.not_lt.mpr z.1 h1)]
  · rw [if_neg h1, if_pos (inb26 hr), cl (by omega), h]
    by_cases h2 : nI n ≤ p
    · rw [if_pos h2, bz_f (fun z => key.mp z.2 h2)]
    · rw [if_neg h2, bz_t ⟨Int32.not_lt.mp h1, key.mpr h2⟩]
theorem ix6 (r i : Nat) : nI r * 6 + nI i = nI (6 * r + i) := by rw [show (6 : Int32) = nI 6 from rfl, nI_mul, nI_plus, Nat.mul_comm]
theorem ix6' (r i : Nat) : 6 * nI r + nI i = nI (6 * r + i) := by rw [show (6 : Int32) = nI 6 from rfl, nI_mul, nI_plus]
theorem x_typeAt {r i : Nat} (hr : r < 26) (hi : i < 6) (μ : Mm) : fX5_typeAt (nI r) (nI i) μ = some (μ.1 13 (6 * r + i)) := by
  unfold fX5_typeAt
  rw [ix6, if_pos (inb_nI (show 6 * r + i < 156 by omega) (by decide)), cl (by omega)]
theorem x_codeAt {r i : Nat} (hr : r < 26) (hi : i < 6) (μ : Mm) : fX5_codeAt (nI r) (nI i) μ = some (μ.2 14 (6 * r + i)) := by
  unfold fX5_codeAt
  rw [ix6, if_pos (inb_nI (show 6 * r + i < 156 by omega) (by decide)), cl (by omega)]
/-- what get() leaves -/
def gotM (μ : Mm) (k : Nat) : Mm := wL (wI (wI μ 0 37 (if μ.1 6 k = 1 then 2 else μ.1 6 k)) 0 38 (μ.1 7 k)) 0 39 (μ.2 8 k)
theorem m_get {q i : Nat} (hq : q < 11) (hi : i < 6) (μ : Mm) : fX8_get (nI q) (nI i) μ = some (gotM μ (6 * q + i)) := by
  have ib : inb (nI (6 * q + i)) 66 = true := inb_nI (show 6 * q + i < 66 by omega) (by decide)
  unfold fX8_get
  rw [ix6', if_pos ib, if_pos ib, cl (by omega)]
  unfold fX8_get_b28 gotM
  rw [if_pos ib, if_pos ib, if_pos ib, if_pos ib, cl (by omega)]
  by_cases h : μ.1 6 (6 * q + i) = 1
  · rw [if_pos h, if_pos h]; rfl
  · rw [if_neg h, if_neg h]; rfl
theorem gotM_eq (μ : Mm) (k : Nat) : EqM μ (gotM μ k) := ((EqM.rf.wI rfl).wI rfl).wL (by omega)
theorem got_it {mc : Nat} {star : Nat → Int32} {t : Nat} {f xt mk : Int32} {xc mv : Int64} (h : Ce mc star t xt xc f mk mv) : It mc star (if f = 1 then 2 else f) xt xc mk mv := by
  obtain ⟨-, -, h⟩ := h
  by_cases z : f = 1
  · rw [if_pos z]
    rcases h with ⟨y, -⟩ | ⟨-, h⟩ | ⟨y, -⟩ | ⟨y, -⟩
    · exact absurd (z.symm.trans y) (by decide)
    · exact Or.inr (Or.inl ⟨Or.inr rfl, h⟩)
    · exact absurd (z.symm.trans y) (by decide)
    · exact absurd (z.symm.trans y) (by decide)
  · rw [if_neg z]; exact h
theorem st_cell : St_cell Rel := by
  intro p1 p2 p3 μx μm h
  have h0 := h
  obtain ⟨hT, hV, hR, mc, hM, hH, hC, hG⟩ := h
  have hin3 : fX8_in (Int32.toInt64 p3) 0 2 = _ := in32 p3 0 2
  rcases slot_cases p1 with hp | ⟨a, ha, rfl⟩
  · exact ⟨-1, μm, by unfold fX7_cell; rw [x_isSlot, bz_f hp]; rfl, by unfold fX8_cell; rw [m_isSlot, bz_f hp]; rfl, h0⟩
  have hs := slot_ok ha
  obtain ⟨r, t, hr, ht, e1, e2, e3, hA⟩ := slotR hC ha
  rcases hA.symm with ⟨h13, m1, x1⟩ | ⟨h12, q, n, hq, hn, m1, m2, x1, m3, hce⟩
  · refine ⟨-3, μm, ?_, ?_, h0⟩
    · unfold fX7_cell
      rw [x_isSlot, bz_t hs, x_holds ha hr ht e1 e2, bz_f (by omega)]
      rfl
    · unfold fX8_cell
      rw [m_isSlot, bz_t hs, m_holds ha ht e3, bz_f (by omega)]
      rfl
  have hin : fX8_in (Int32.toInt64 p2) 0 (Int32.toInt64 (nI n - 1)) = _ := in32 p2 0 (nI n - 1)
  have xpre : fX7_cell (nI a) p2 p3 μx = ((fX5_has (nI r) p2 μx).bind fun r38 => (if r38 = 0 then some (-2 : Int64) else (if p3 < 0 then some (-2 : Int64) else (if p3 ≤ (2 : Int32) then ((fX5_typeAt (nI r) p2 μx).bind fun r64 => ((fX5_codeAt (nI r) p2 μx).bind fun r76 => (if p3 = 0 then some (Int32.toInt64 r64) else (if p3 = (1 : Int32) then ((fX7_shownCode r64 r76 μx).bind fun r99 => some r99) else ((fX7_markIndex r64 r76).bind fun r109 => some r109))))) else some (-2 : Int64))))) := by
    unfold fX7_cell
    rw [x_isSlot, bz_t hs, x_holds ha hr ht e1 e2, bz_t h12]
    simp only [Option.bind_some, one_ne, if_false]
    rw [if_pos (inb10 ha), cl (by omega), e1]
  have mpre : fX8_cell (nI a) p2 p3 μm = (if bz (0 ≤ p2 ∧ p2 ≤ nI n - 1) = 0 then some ((-2 : Int64), μm) else (if bz (0 ≤ p3 ∧ p3 ≤ 2) = 0 then some ((-2 : Int64), μm) else ((fX8_get (nI q) p2 μm).bind fun μ70 => (if p3 = 0 then ((fX8_kindTold (μ70.1 0 37) (μ70.1 0 38) (μ70.2 0 39) μ70).bind fun r113 => some ((Int32.toInt64 r113), μ70)) else (if p3 = 1 then ((fX8_told (μ70.1 0 37) (μ70.2 0 39) μ70).bind fun r127 => some (r127, μ70)) else (if (μ70.1 0 37) = (3 : Int32) then some ((μ70.2 0 39), μ70) else some ((-9 : Int64), μ70))))))) := by
    unfold fX8_cell
    rw [m_isSlot, bz_t hs, m_holds ha ht e3, bz_t h12]
    simp only [Option.bind_some, one_ne, if_false]
    rw [if_pos (inb10 ha), cl (by omega), m1, if_pos (inb11 hq), cl (by omega), m3, hin, hin3, if_pos (inb10 ha)]
    rfl
  rw [xpre, mpre, x_has hr hn x1]
  simp only [Option.bind_some]
  rcases pos_cases p2 hn with hp | ⟨i, hi, rfl, hp⟩
  · exact ⟨-2, μm, by rw [bz_f hp, if_pos rfl], by rw [bz_f hp, if_pos rfl], h0⟩
  rw [bz_t hp, if_neg one_ne, if_neg one_ne]
  rcases rng p3 2 (n := 2) rfl with hp3 | ⟨w, hw, rfl⟩
  · refine ⟨-2, μm, ?_, by rw [bz_f hp3, if_pos rfl], h0⟩
    rcases not_rng hp3 with z | ⟨z, z2⟩
    · rw [if_pos z]
    · rw [if_neg z, if_neg z2]
  have hp3 := rng_ok (M := 2) (n := 2) rfl (by decide) hw
  rw [bz_t hp3, if_neg one_ne, if_neg (Int32.not_lt.mpr hp3.1), if_pos hp3.2, x_typeAt hr (by omega), x_codeAt hr (by omega), m_get hq (by omega)]
  simp only [Option.bind_some]
  have hR' : Rel μx (gotM μm (6 * q + i)) := h0.cong EqX.rf (gotM_eq _ _)
  have hI := got_it (hce i hi)
  have hM' : RMk μx (gotM μm (6 * q + i)) mc := hM
  have hI' : It mc ((gotM μm (6 * q + i)).1 10) (if μm.1 6 (6 * q + i) = 1 then 2 else μm.1 6 (6 * q + i)) (μx.1 13 (6 * r + i)) (μx.2 14 (6 * r + i)) (μm.1 7 (6 * q + i)) (μm.2 8 (6 * q + i)) := hI
  have g37 : (gotM μm (6 * q + i)).1 0 37 = if μm.1 6 (6 * q + i) = 1 then 2 else μm.1 6 (6 * q + i) := rfl
  have g38 : (gotM μm (6 * q + i)).1 0 38 = μm.1 7 (6 * q + i) := rfl
  have g39 : (gotM μm (6 * q + i)).2 0 39 = μm.2 8 (6 * q + i) := rfl
  rw [g37, g38, g39]
  have hw3 : w = 0 ∨ w = 1 ∨ w = 2 := by omega
  rcases hw3 with rfl | rfl | rfl
  · refine ⟨(μx.1 13 (6 * r + i)).toInt64, gotM μm (6 * q + i), by rw [if_pos (by decide)], ?_, hR'⟩
    rw [if_pos (by decide), m_kind hM.1 hI']
    rfl
  · obtain ⟨v, k1, k2⟩ := m_told hM' hI'
    refine ⟨v, gotM μm (6 * q + i), ?_, ?_, hR'⟩
    · rw [if_neg (by decide), if_pos (by decide), k1]; rfl
    · rw [if_neg (by decide), if_pos (by decide), k2]; rfl
  · refine ⟨if (if μm.1 6 (6 * q + i) = 1 then 2 else μm.1 6 (6 * q + i)) = (3 : Int32) then μm.2 8 (6 * q + i) else -9, gotM μm (6 * q + i), ?_, ?_, hR'⟩
    · rw [if_neg (by decide), if_neg (by decide), m_ix hI']; rfl
    · rw [if_neg (by decide), if_neg (by decide)]
      by_cases z : (if μm.1 6 (6 * q + i) = 1 then 2 else μm.1 6 (6 * q + i)) = (3 : Int32)
      · rw [if_pos z, if_pos z]
      · rw [if_neg z, if_neg z]
