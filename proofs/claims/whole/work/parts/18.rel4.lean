/-! PURE PART 4: the start; what fits what; which() -/
theorem fT_lt {v : Int32} {k j : Nat} (h : j < k) : fT v k j = v := if_pos h
theorem rel_start : Rel μ0X μ0M := by
  refine ⟨⟨0, by decide, rfl, rfl, fun j hj => absurd hj (by omega)⟩, ⟨0, by decide, rfl, rfl, fun j hj => absurd hj (by omega)⟩, ⟨0, by decide, rfl, rfl, fun j hj => absurd hj (by omega)⟩, 0, ⟨by decide, rfl, rfl, fun j hj => absurd hj (by omega)⟩, ⟨rfl, Or.inl ⟨rfl, rfl, rfl⟩⟩, ⟨⟨fun a ha => ?_, fun a b ha hb hne => ?_⟩, rfl, rfl⟩, ⟨0, 0, by decide, by decide, rfl, rfl, rfl, rfl, fun j h1 h2 => absurd h1 (by omega)⟩⟩
  · exact ⟨0, 15, by decide, by decide, rfl, rfl, fT_lt ha, Or.inr ⟨by decide, fT_lt ha, rfl⟩⟩
  · exact absurd (fT_lt ha) hne
theorem wid_eq : ∀ a, a < 8 → ∀ b, b < 8 → fX2_widens (nI a) (nI b) = fX8_widens (nI a) (nI b) := by decide +kernel
theorem wid_01 : ∀ a, a < 8 → ∀ b, b < 8 → fX8_widens (nI a) (nI b) = some 0 ∨ fX8_widens (nI a) (nI b) = some 1 := by decide +kernel
theorem fit_get : ∀ t, t < 13 → ∀ k, k < 8 → fX4_getFit (nI t) (nI k) = fX8_takeFrom (nI t) (nI k) := by decide +kernel
def br1 (t k : Int32) : Option Int32 := (fX8_isPlain t).bind fun r => if r = 0 then some 4 else (fX8_widens k t).bind fun r => if r = 0 then some 2 else some 0
def br2 (t k : Int32) : Option Int32 := (fX8_isPlain t).bind fun r => if r = 0 then (if t = 12 then some 0 else if t = 11 then (if k = 4 then some 0 else some 2) else some 2) else (fX8_widens k t).bind fun r => if r = 0 then some 2 else some 0
theorem m_bring1 (t k : Int32) (v : Int64) (μ : Mm) : fX8_bring t 1 k v μ = br1 t k := by
  unfold fX8_bring br1
  cases fX8_isPlain t with
  | none => rfl
  | some r =>
    simp only [Option.bind_some]
    by_cases hr : r = 0
    · rw [if_pos hr, if_pos hr]
      simp only [fX8_bring_b50, fX8_bring_b55, fX8_bring_b78, fX8_bring_b82, fX8_bring_b83, fX8_bring_b101, fX8_bring_b105, fX8_bring_b106, fX8_bring_b141, fX8_bring_b145, fX8_bring_b146]
      simp
    · rw [if_neg hr, if_neg hr]
      rfl
theorem m_bring2 (t k : Int32) (v : Int64) (μ : Mm) : fX8_bring t 2 k v μ = br2 t k := by
  unfold fX8_bring br2
  cases fX8_isPlain t with
  | none => rfl
  | some r =>
    simp only [Option.bind_some]
    by_cases hr : r = 0
    · rw [if_pos hr, if_pos hr]
      simp only [fX8_bring_b50, fX8_bring_b55, fX8_bring_b78, fX8_bring_b82, fX8_bring_b83, fX8_bring_b101, fX8_bring_b105, fX8_bring_b106, fX8_bring_b141, fX8_bring_b145, fX8_bring_b146]
      simp
    · rw [if_neg hr, if_neg hr]
      rfl
theorem m_bring0 (t k : Int32) (v : Int64) (μ : Mm) : fX8_bring t 0 k v μ = (fX8_isPlain t).bind fun r => if r = 0 then some 0 else some 7 := by
  unfold fX8_bring
  cases fX8_isPlain t with
  | none => rfl
  | some r =>
    simp only [Option.bind_some]
    by_cases hr : r = 0
    · rw [if_pos hr, if_pos hr]
      simp only [fX8_bring_b50, fX8_bring_b55, fX8_bring_b78, fX8_bring_b82, fX8_bring_b83, fX8_bring_b101, fX8_bring_b105, fX8_bring_b106, fX8_bring_b141, fX8_bring_b145, fX8_bring_b146]
      simp
    · rw [if_neg hr, if_neg hr]
      rfl
theorem m_bring4 (t k : Int32) (v : Int64) (μ : Mm) : fX8_bring t 4 k v μ = (fX8_isPlain t).bind fun r => if r = 0 then (if t = 12 then some 0 else if t = 10 then some 0 else some 2) else some 2 := by
  unfold fX8_bring
  cases fX8_isPlain t with
  | none => rfl
  | some r =>
    simp only [Option.bind_some]
    by_cases hr : r = 0
    · rw [if_pos hr, if_pos hr]
      simp only [fX8_bring_b50, fX8_bring_b55, fX8_bring_b78, fX8_bring_b82, fX8_bring_b83, fX8_bring_b101, fX8_bring_b105, fX8_bring_b106, fX8_bring_b141, fX8_bring_b145, fX8_bring_b146]
      simp
    · rw [if_neg hr, if_neg hr]
      rfl
theorem m_bring3 (t k : Int32) (v : Int64) (μ : Mm) {j : Nat} (hj : j < 20) (hv : v = lN j) : fX8_bring t 3 k v μ = (fX8_isPlain t).bind fun r => if r = 0 then (if t = 12 then some 0 else if t = 8 then some 0 else if t = 9 then (if μ.1 10 j = 0 then some 2 else some 0) else some 2) else some 2 := by
  unfold fX8_bring
  subst hv
  have e1 : (lN j).toInt32 = nI j := lN_i j
  have e2 : inb (nI j) 20 = true := inb_nI hj (by decide)
  have e3 : (nI j).toNatClampNeg = j := nI_clamp (by omega)
  cases fX8_isPlain t with
  | none => rfl
  | some r =>
    simp only [Option.bind_some]
    by_cases hr : r = 0
    · rw [if_pos hr, if_pos hr]
      simp only [fX8_bring_b50, fX8_bring_b55, fX8_bring_b78, fX8_bring_b82, fX8_bring_b83, fX8_bring_b101, fX8_bring_b105, fX8_bring_b106, fX8_bring_b141, fX8_bring_b145, fX8_bring_b146, e1, e2, e3]
      simp
      try (split <;> rfl)
    · rw [if_neg hr, if_neg hr]
      rfl
theorem fit_put1 : ∀ t, t < 13 → ∀ k, k < 8 → fX4_putFit (nI t) 1 (nI k) = br1 (nI t) (nI k) := by decide +kernel
theorem fit_put2 : ∀ t, t < 13 → ∀ k, k < 8 → fX4_putFit (nI t) 2 (nI k) = br2 (nI t) (nI k) := by decide +kernel
theorem fit_put0 : ∀ t, t < 13 → fX4_putFit (nI t) 0 (-9) = (fX8_isPlain (nI t)).bind fun r => if r = 0 then some 0 else some 7 := by decide +kernel
theorem fit_put4 : ∀ t, t < 13 → fX4_putFit (nI t) 4 10 = (fX8_isPlain (nI t)).bind fun r => if r = 0 then (if nI t = 12 then some 0 else if nI t = 10 then some 0 else some 2) else some 2 := by decide +kernel
theorem fit_put38 : ∀ t, t < 13 → fX4_putFit (nI t) 3 8 = (fX8_isPlain (nI t)).bind fun r => if r = 0 then (if nI t = 12 then some 0 else if nI t = 8 then some 0 else if nI t = 9 then some 2 else some 2) else some 2 := by decide +kernel
theorem fit_put39 : ∀ t, t < 13 → fX4_putFit (nI t) 3 9 = (fX8_isPlain (nI t)).bind fun r => if r = 0 then (if nI t = 12 then some 0 else if nI t = 8 then some 0 else if nI t = 9 then some 0 else some 2) else some 2 := by decide +kernel
/-- putting: the class's reason is the reference's -/
theorem fit_put {mc : Nat} {μ : Mm} (hmc : mc ≤ 20) {f xt mk : Int32} {xc mv : Int64} (h : It mc (μ.1 10) f xt xc mk mv) {t : Nat} (ht : t < 13) : fX4_putFit (nI t) f xt = fX8_bring (nI t) f mk mv μ := by
  rcases h with ⟨rfl, rfl, -⟩ | ⟨hf, rfl, rfl, k, hk, rfl, -⟩ | ⟨rfl, j, hj, -, hv, h2⟩ | ⟨rfl, rfl, -, -⟩
  · rw [m_bring0, fit_put0 t ht]
  · rcases hf with rfl | rfl
    · rw [m_bring1, fit_put1 t ht k hk]
    · rw [m_bring2, fit_put2 t ht k hk]
  · rw [m_bring3 _ _ _ _ (show j < 20 by omega) hv]
    rcases h2 with ⟨rfl, hs⟩ | ⟨rfl, hs⟩
    · rw [fit_put39 t ht, hs]
      rfl
    · rw [fit_put38 t ht, hs]
      rfl
  · rw [m_bring4, fit_put4 t ht]
theorem fit_put_some {mc : Nat} {μ : Mm} (hmc : mc ≤ 20) {f xt mk : Int32} {xc mv : Int64} (h : It mc (μ.1 10) f xt xc mk mv) {t : Nat} (ht : t < 13) : ∃ r, fX8_bring (nI t) f mk mv μ = some r := by
  have g1 : ∀ t, t < 13 → ∀ k, k < 8 → (br1 (nI t) (nI k)).isSome = true ∧ (br2 (nI t) (nI k)).isSome = true := by decide +kernel
  have g0 : ∀ t, t < 13 → (fX8_isPlain (nI t)).isSome = true := by decide +kernel
  obtain ⟨q, hq⟩ := Option.isSome_iff_exists.mp (g0 t ht)
  rcases h with ⟨rfl, rfl, -⟩ | ⟨hf, rfl, rfl, k, hk, rfl, -⟩ | ⟨rfl, j, hj, -, hv, h2⟩ | ⟨rfl, rfl, -, -⟩
  · rw [m_bring0, hq]
    simp only [Option.bind_some]
    split <;> exact ⟨_, rfl⟩
  · rcases hf with rfl | rfl
    · rw [m_bring1]; exact Option.isSome_iff_exists.mp (g1 t ht k hk).1
    · rw [m_bring2]; exact Option.isSome_iff_exists.mp (g1 t ht k hk).2
  · rw [m_bring3 _ _ _ _ (show j < 20 by omega) hv, hq]
    simp only [Option.bind_some]
    repeat' split
    all_goals exact ⟨_, rfl⟩
  · rw [m_bring4, hq]
    simp only [Option.bind_some]
    repeat' split
    all_goals exact ⟨_, rfl⟩
