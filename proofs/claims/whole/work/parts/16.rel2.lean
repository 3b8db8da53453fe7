/-! PURE PART 2: how the relation is kept, and the calls that touch no array -/
theorem Un_congr {μ μ' : Mm} (h6 : μ'.1 6 = μ.1 6) (h13 : μ'.1 13 = μ.1 13) (h14 : μ'.2 14 = μ.2 14) (h21 : μ'.1 21 = μ.1 21) (h15 : μ'.1 15 = μ.1 15) (h16 : μ'.1 16 = μ.1 16) (h17 : μ'.1 17 = μ.1 17) (h18 : μ'.1 18 = μ.1 18) (h19 : μ'.1 19 = μ.1 19) (h20 : μ'.2 20 = μ.2 20) (nx : Nat) : ∀ j, Un μ' nx j = Un μ nx j := by
  intro j
  induction j with
  | zero => simp only [Un, xcore, h6, h13, h14, h21]
  | succ j ih => simp only [Un, ih, unA, h15, h16, h17, h18, h19, h20]
theorem RLg_c {μx μx' μm μm' : Mm} {mc : Nat} (h : RLg μx μm mc) (h6 : μx'.1 6 = μx.1 6) (h13 : μx'.1 13 = μx.1 13) (h14 : μx'.2 14 = μx.2 14) (h21 : μx'.1 21 = μx.1 21) (h15 : μx'.1 15 = μx.1 15) (h16 : μx'.1 16 = μx.1 16) (h17 : μx'.1 17 = μx.1 17) (h18 : μx'.1 18 = μx.1 18) (h19 : μx'.1 19 = μx.1 19) (h20 : μx'.2 20 = μx.2 20) (h11 : μx'.1 11 = μx.1 11) (h12 : μx'.1 12 = μx.1 12) (hn : μx'.1 3 6 = μx.1 3 6) (hk : μx'.1 3 7 = μx.1 3 7)
    (m10 : μm'.1 10 = μm.1 10) (m12 : μm'.1 12 = μm.1 12) (m13 : μm'.1 13 = μm.1 13) (m14 : μm'.1 14 = μm.1 14) (m15 : μm'.1 15 = μm.1 15) (m16 : μm'.1 16 = μm.1 16) (m17 : μm'.1 17 = μm.1 17) (m18 : μm'.2 18 = μm.2 18) (m19 : μm'.1 19 = μm.1 19) (m20 : μm'.1 20 = μm.1 20) (mn : μm'.1 0 27 = μm.1 0 27) (mk : μm'.1 0 26 = μm.1 0 26) : RLg μx' μm' mc := by
  obtain ⟨nx, kp, a1, a2, a3, a4, a5, a6, a7⟩ := h
  refine ⟨nx, kp, a1, a2, hn.trans a3, mn.trans a4, hk.trans a5, mk.trans a6, fun j j1 j2 => ?_⟩
  obtain ⟨b1, b2, b3⟩ := a7 j j1 j2
  have hU := Un_congr h6 h13 h14 h21 h15 h16 h17 h18 h19 h20 nx j
  refine ⟨?_, ?_, fun k om h20 hom hk => ?_⟩
  · simp only [Ac1, h15, h16, h17, m20]; exact b1
  · rw [hU, m10, h11, h12]; simp only [msnap, m12, m13, m14, m15, m16, m17, m18]; exact b2
  · rw [hU, m19]; rw [m20] at hom; exact b3 k om h20 hom hk
theorem Rel.cong {μx μx' μm μm' : Mm} (h : Rel μx μm) (hx : EqX μx μx') (hm : EqM μm μm') : Rel μx' μm' := by
  have X : ∀ o, o ≠ 1 → o ≠ 9 → μx'.1 o = μx.1 o := fun o h1 h9 => funext fun k => hx.1 o k (by simp [scX, h1, h9])
  have X1 : μx'.1 1 1 = μx.1 1 1 := hx.1 1 1 rfl
  have X2 : ∀ o, o ≠ 10 → μx'.2 o = μx.2 o := fun o h10 => funext fun k => hx.2 o k h10
  have M : ∀ o, o ≠ 0 → o < 24 → μm'.1 o = μm.1 o := fun o h0 h1 => funext fun k => hm.1 o k (by
    simp only [scM, Bool.or_eq_false_iff, Bool.and_eq_false_iff, beq_eq_false_iff_ne, decide_eq_false_iff_not]
    exact ⟨Or.inl h0, Or.inl (by omega)⟩)
  have M0 : ∀ k, scM 0 k = false → μm'.1 0 k = μm.1 0 k := fun k hk => hm.1 0 k hk
  have M8 : μm'.2 8 = μm.2 8 := funext fun k => hm.2 8 k (Or.inr (Or.inl rfl))
  have M18 : μm'.2 18 = μm.2 18 := funext fun k => hm.2 18 k (Or.inr (Or.inr rfl))
  have M14 : μm'.2 0 14 = μm.2 0 14 := hm.2 0 14 (Or.inl ⟨rfl, rfl⟩)
  obtain ⟨h1, h2, h3, mc, h4, h5, h6, h7⟩ := h
  refine ⟨?_, ?_, ?_, mc, ?_, ?_, ?_, ?_⟩
  · simp only [RTxt, X1, X 8 (by decide) (by decide), M0 1 rfl, M 1 (by decide) (by decide)]; exact h1
  · simp only [RVw, X 5 (by decide) (by decide), X 22 (by decide) (by decide), X 23 (by decide) (by decide), X 24 (by decide) (by decide), M0 31 rfl, M 21 (by decide) (by decide), M 22 (by decide) (by decide), M 23 (by decide) (by decide)]; exact h2
  · simp only [RRp, X 0 (by decide) (by decide), X 7 (by decide) (by decide), M0 16 rfl, M 11 (by decide) (by decide)]; exact h3
  · simp only [RMk, X 4 (by decide) (by decide), X 21 (by decide) (by decide), M0 11 rfl, M 9 (by decide) (by decide), M 10 (by decide) (by decide)]; exact h4
  · simp only [RHd, X 0 (by decide) (by decide), X2 0 (by decide), M0 12 rfl, M0 13 rfl, M14, M 10 (by decide) (by decide)]; exact h5
  · simp only [RCo, xcore, mcore, X 6 (by decide) (by decide), X 11 (by decide) (by decide), X 12 (by decide) (by decide), X 13 (by decide) (by decide), X 21 (by decide) (by decide), X2 14 (by decide), M 2 (by decide) (by decide), M 3 (by decide) (by decide), M 4 (by decide) (by decide), M 5 (by decide) (by decide), M 6 (by decide) (by decide), M 7 (by decide) (by decide), M 10 (by decide) (by decide), M8]; exact h6
  · exact RLg_c h7 (X 6 (by decide) (by decide)) (X 13 (by decide) (by decide)) (X2 14 (by decide)) (X 21 (by decide) (by decide)) (X 15 (by decide) (by decide)) (X 16 (by decide) (by decide)) (X 17 (by decide) (by decide)) (X 18 (by decide) (by decide)) (X 19 (by decide) (by decide)) (X2 20 (by decide)) (X 11 (by decide) (by decide)) (X 12 (by decide) (by decide)) (by rw [X 3 (by decide) (by decide)]) (by rw [X 3 (by decide) (by decide)]) (M 10 (by decide) (by decide)) (M 12 (by decide) (by decide)) (M 13 (by decide) (by decide)) (M 14 (by decide) (by decide)) (M 15 (by decide) (by decide)) (M 16 (by decide) (by decide)) (M 17 (by decide) (by decide)) M18 (M 19 (by decide) (by decide)) (M 20 (by decide) (by decide)) (M0 27 rfl) (M0 26 rfl)
/-! numbers -/
theorem i2l_lt (a b : Int32) : a.toInt64 < b.toInt64 ↔ a < b := by
  rw [Int64.lt_iff_toInt_lt, Int32.lt_iff_toInt_lt, Int32.toInt_toInt64, Int32.toInt_toInt64]
theorem i2l_inj {a b : Int32} : a.toInt64 = b.toInt64 ↔ a = b := by
  rw [← Int64.toInt_inj, ← Int32.toInt_inj, Int32.toInt_toInt64, Int32.toInt_toInt64]
def bz (c : Prop) [Decidable c] : Int32 := if c then 1 else 0
theorem in32 (p a b : Int32) : fX8_in p.toInt64 a.toInt64 b.toInt64 = some (bz (a ≤ p ∧ p ≤ b)) := by
  unfold fX8_in bz
  simp only [i2l_lt]
  by_cases h1 : p < a
  · rw [if_pos h1, if_neg (fun z => absurd h1 (Int32.not_lt.mpr z.1))]
  · rw [if_neg h1]
    by_cases h2 : b < p
    · rw [if_pos h2, if_neg (fun z => absurd h2 (Int32.not_lt.mpr z.2))]
    · rw [if_neg h2, if_pos ⟨Int32.not_lt.mp h1, Int32.not_lt.mp h2⟩]
theorem rbz_bz (c : Prop) [Decidable c] : rbz (bz c) = true := by
  unfold bz
  split <;> rfl
theorem bz_0 {c : Prop} [Decidable c] : bz c = 0 ↔ ¬ c := by
  unfold bz
  split
  · exact ⟨fun h => absurd h (by decide), fun h => absurd (by assumption) h⟩
  · exact ⟨fun _ => by assumption, fun _ => rfl⟩
theorem m_isSlot (p : Int32) : fX8_isSlot p = some (bz (0 ≤ p ∧ p ≤ 9)) := by
  unfold fX8_isSlot
  rw [show fX8_in (Int32.toInt64 p) 0 9 = _ from in32 p 0 9]
  simp only [Option.bind_some, rbz_bz, if_true]
theorem m_isPlain (p : Int32) : fX8_isPlain p = some (bz (0 ≤ p ∧ p ≤ 7)) := by
  unfold fX8_isPlain
  rw [show fX8_in (Int32.toInt64 p) 0 7 = _ from in32 p 0 7]
  simp only [Option.bind_some, rbz_bz, if_true]
theorem i32_le9 (p : Int32) : p ≤ 9 ↔ ¬ 10 ≤ p := by
  rw [Int32.le_iff_toInt_le, Int32.le_iff_toInt_le]
  show p.toInt ≤ 9 ↔ ¬ (10 : Int) ≤ p.toInt
  omega
theorem i32_le7 (p : Int32) : p ≤ 7 ↔ ¬ 8 ≤ p := by
  rw [Int32.le_iff_toInt_le, Int32.le_iff_toInt_le]
  show p.toInt ≤ 7 ↔ ¬ (8 : Int) ≤ p.toInt
  omega
theorem i32_ge0 (p : Int32) : 0 ≤ p ↔ ¬ p < 0 := Int32.not_lt.symm
theorem x_isSlot (p : Int32) : fX7_isSlot p = some (bz (0 ≤ p ∧ p ≤ 9)) := by
  unfold fX7_isSlot bz
  simp only [i32_le9, i32_ge0]
  by_cases h1 : p < 0
  · simp [h1]
  · by_cases h2 : (10 : Int32) ≤ p <;> simp [h1, h2]
theorem x_isPrim (p : Int32) : fX7_isPrimitive p = some (bz (0 ≤ p ∧ p ≤ 7)) := by
  unfold fX7_isPrimitive bz
  simp only [i32_le7, i32_ge0]
  by_cases h1 : p < 0
  · simp [h1]
  · by_cases h2 : (8 : Int32) ≤ p <;> simp [h1, h2]
/-- a slot is one of ten numbers, or none -/
theorem slot_cases (p : Int32) : (¬ (0 ≤ p ∧ p ≤ 9)) ∨ ∃ a, a < 10 ∧ p = nI a := by
  by_cases h : 0 ≤ p ∧ p ≤ 9
  · right
    obtain ⟨j, hj, e⟩ := nI_of2 (x := p) (M := 9) (n := 9) rfl (Int32.not_lt.mpr h.1) h.2
    exact ⟨j, by omega, e⟩
  · exact Or.inl h
theorem slot_ok {a : Nat} (h : a < 10) : (0 : Int32) ≤ nI a ∧ nI a ≤ 9 := ⟨nI_pos' (by omega), nI_le (b := 9) (by omega) (by decide)⟩
theorem prim_cases (p : Int32) : (¬ (0 ≤ p ∧ p ≤ 7)) ∨ ∃ a, a < 8 ∧ p = nI a := by
  by_cases h : 0 ≤ p ∧ p ≤ 7
  · right
    obtain ⟨j, hj, e⟩ := nI_of2 (x := p) (M := 7) (n := 7) rfl (Int32.not_lt.mpr h.1) h.2
    exact ⟨j, by omega, e⟩
  · exact Or.inl h
theorem prim_ok {a : Nat} (h : a < 8) : (0 : Int32) ≤ nI a ∧ nI a ≤ 7 := ⟨nI_pos' (by omega), nI_le (b := 7) (by omega) (by decide)⟩
/-! the text -/
theorem st_wipe : St_wipe Rel := by
  intro μx μm h
  obtain ⟨⟨n, hn, e1, e2, hl⟩, hV, hR, mc, hM, hH, hC, hG⟩ := h
  refine ⟨nI n, wI μx 1 1 0, wI μm 0 1 0, by rw [fX7_wipe, e1], by rw [fX8_wipe, e2], ⟨0, by omega, rfl, rfl, fun j hj => absurd hj (by omega)⟩, hV, hR, mc, hM, hH, hC, ?_⟩
  exact RLg_c hG rfl rfl rfl rfl rfl rfl rfl rfl rfl rfl rfl rfl rfl rfl rfl rfl rfl rfl rfl rfl rfl rfl rfl rfl rfl rfl
theorem st_unsee : St_unsee Rel := by
  intro μx μm h
  obtain ⟨hT, ⟨n, hn, e1, e2, hl⟩, hR, mc, hM, hH, hC, hG⟩ := h
  refine ⟨nI n, wI μx 5 3 0, wI μm 0 31 0, by rw [fX7_unsee, e1], by rw [fX8_unsee, e2], hT, ⟨0, by omega, rfl, rfl, fun j hj => absurd hj (by omega)⟩, hR, mc, hM, hH, hC, ?_⟩
  exact RLg_c hG rfl rfl rfl rfl rfl rfl rfl rfl rfl rfl rfl rfl rfl rfl rfl rfl rfl rfl rfl rfl rfl rfl rfl rfl rfl rfl
