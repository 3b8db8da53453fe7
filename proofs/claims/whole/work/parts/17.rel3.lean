/-! PURE PART 3: text, report, observations, hand, marks -/
theorem rng (p M : Int32) {n : Nat} (hM : M.toInt = n) : (¬ (0 ≤ p ∧ p ≤ M)) ∨ ∃ a, a ≤ n ∧ p = nI a := by
  by_cases h : 0 ≤ p ∧ p ≤ M
  · right
    exact nI_of2 hM (Int32.not_lt.mpr h.1) h.2
  · exact Or.inl h
theorem rng_ok {a n : Nat} {M : Int32} (hM : M = nI n) (hn : n < 2 ^ 31) (h : a ≤ n) : (0 : Int32) ≤ nI a ∧ nI a ≤ M := ⟨nI_pos' (by omega), by rw [hM]; exact nI_le h hn⟩
theorem not_rng {p M : Int32} (h : ¬ (0 ≤ p ∧ p ≤ M)) : p < 0 ∨ (¬ p < 0 ∧ ¬ p ≤ M) := by
  by_cases h1 : p < 0
  · exact Or.inl h1
  · exact Or.inr ⟨h1, fun z => h ⟨Int32.not_lt.mp h1, z⟩⟩
theorem bz_t {c : Prop} [Decidable c] (h : c) : bz c = 1 := if_pos h
theorem bz_f {c : Prop} [Decidable c] (h : ¬ c) : bz c = 0 := if_neg h
theorem one_ne : ¬ ((1 : Int32) = 0) := by decide
theorem st_write : St_write Rel := by
  intro p μx μm h
  have hin : fX8_in (Int32.toInt64 p) 0 255 = _ := in32 p 0 255
  rcases rng p 255 (n := 255) rfl with hp | ⟨c, hc, rfl⟩
  · refine ⟨-2, μx, μm, ?_, ?_, h⟩
    · unfold fX7_write
      rcases not_rng hp with h1 | ⟨h1, h2⟩
      · rw [if_pos h1]
      · rw [if_neg h1, if_neg h2]
    · unfold fX8_write
      rw [hin, bz_f hp]
      rfl
  · obtain ⟨⟨n, hn, e1, e2, hl⟩, hV, hR, mc, hM, hH, hC, hG⟩ := h
    have hp := rng_ok (M := 255) (n := 255) rfl (by decide) hc
    by_cases h60 : n = 60
    · subst h60
      refine ⟨-4, μx, μm, ?_, ?_, ⟨60, hn, e1, e2, hl⟩, hV, hR, mc, hM, hH, hC, hG⟩
      · unfold fX7_write fX3_append
        rw [if_neg (Int32.not_lt.mpr hp.1), if_pos hp.2, e1]
        rfl
      · unfold fX8_write
        rw [hin, bz_t hp, e2]
        rfl
    · have hlt : n < 60 := by omega
      have hix : (nI n).toNatClampNeg = n := nI_clamp (by omega)
      refine ⟨nI (n + 1), wI (wI μx 8 n (nI c)) 1 1 (nI (n + 1)), wI (wI μm 1 n (nI c)) 0 1 (nI (n + 1)), ?_, ?_, ⟨n + 1, by omega, rfl, rfl, fun j hj => ?_⟩, hV, hR, mc, hM, hH, hC, ?_⟩
      · unfold fX7_write fX3_append
        rw [if_neg (Int32.not_lt.mpr hp.1), if_pos hp.2, e1, if_pos (show nI n < 60 from nI_lt (b := 60) hlt (by decide)), if_pos (inb_nI hlt (by decide)), hix]
        show bnd (some ((1 : Int32), wI (wI μx 8 n (nI c)) 1 1 ((μx.1 1 1) + 1))) _ = _
        rw [e1, nI_1]
        rfl
      · unfold fX8_write
        rw [hin, bz_t hp, e2]
        simp only [Option.bind_some]
        rw [if_neg one_ne, if_neg (show ¬ nI n = 60 from fun z => h60 ((nI_eq (by omega) (by decide)).mp (z : nI n = nI 60))), if_pos (inb_nI hlt (by decide)), hix]
        show some ((wI (wI μm 1 n (nI c)) 0 1 ((μm.1 0 1) + 1)).1 0 1, wI (wI μm 1 n (nI c)) 0 1 ((μm.1 0 1) + 1)) = _
        rw [e2, nI_1]
        rfl
      · show (if (8 = 8 ∧ j = n) then nI c else μx.1 8 j) = (if (1 = 1 ∧ j = n) then nI c else μm.1 1 j) ∧ ∃ c', c' < 256 ∧ (if (1 = 1 ∧ j = n) then nI c else μm.1 1 j) = nI c'
        by_cases hj2 : j = n
        · simp only [hj2, and_self, if_true]
          exact ⟨trivial, c, by omega, rfl⟩
        · simp only [hj2, and_false, if_false]
          exact hl j (by omega)
      · exact RLg_c hG rfl rfl rfl rfl rfl rfl rfl rfl rfl rfl rfl rfl rfl rfl rfl rfl rfl rfl rfl rfl rfl rfl rfl rfl rfl rfl
theorem i32_sub1 {n : Nat} (hn : n < 2 ^ 30) : (nI n - 1).toInt = (n : Int) - 1 := pk_sub_toInt (b := 1) hn (by decide)
theorem le_sub1 {p : Int32} {n : Nat} (hn : n < 2 ^ 30) : p ≤ nI n - 1 ↔ ¬ nI n ≤ p := by
  rw [Int32.le_iff_toInt_le, Int32.le_iff_toInt_le, i32_sub1 hn, nI_toInt (by omega)]
  omega
theorem st_report : St_report Rel := by
  intro p μx μm h
  have h0 := h
  obtain ⟨hT, hV, ⟨n, hn, e1, e2, hl⟩, -⟩ := h
  have hin := in32 p 0 (nI n - 1)
  by_cases h1 : p < 0
  · refine ⟨-9, ?_, ?_, h0⟩
    · unfold fX7_report
      rw [if_pos h1]
    · unfold fX8_report
      rw [e2, show (0 : Int64) = Int32.toInt64 0 from rfl, hin, bz_f (fun z => absurd h1 (Int32.not_lt.mpr z.1))]
      rfl
  · by_cases h2 : nI n ≤ p
    · refine ⟨-9, ?_, ?_, h0⟩
      · unfold fX7_report
        rw [if_neg h1, e1, if_pos h2]
      · unfold fX8_report
        rw [e2, show (0 : Int64) = Int32.toInt64 0 from rfl, hin, bz_f (fun z => (le_sub1 (by omega)).mp z.2 h2)]
        rfl
    · obtain ⟨j, hj, rfl⟩ := nI_of h1
      have hjn : j < n := by
        apply Classical.byContradiction
        intro hc
        exact h2 (nI_le (by omega) hj)
      refine ⟨μm.1 11 j, ?_, ?_, h0⟩
      · unfold fX7_report
        rw [if_neg h1, e1, if_neg h2, if_pos (inb_nI (by omega) (by decide)), nI_clamp hj, hl j hjn]
      · unfold fX8_report
        rw [e2, show (0 : Int64) = Int32.toInt64 0 from rfl, hin, bz_t ⟨Int32.not_lt.mp h1, (le_sub1 (by omega)).mpr h2⟩]
        simp only [Option.bind_some]
        rw [if_neg one_ne, if_pos (inb_nI (by omega) (by decide)), nI_clamp hj]
theorem st_turn : St_turn Rel := by
  intro μx μm h
  have h0 := h
  obtain ⟨hT, hV, hR, mc, hM, ⟨hf, hI⟩, hC, hG⟩ := h
  have hGx : ∀ (x y : Int32), RLg (wI μx 0 8 x) (wI μm 0 12 y) mc := fun x y => RLg_c hG rfl rfl rfl rfl rfl rfl rfl rfl rfl rfl rfl rfl rfl rfl rfl rfl rfl rfl rfl rfl rfl rfl rfl rfl rfl rfl
  by_cases h1 : μx.1 0 8 = 1
  · have hm1 : μm.1 0 12 = 1 := by rw [← hf]; exact h1
    refine ⟨2, wI μx 0 8 2, wI μm 0 12 2, ?_, ?_, hT, hV, hR, mc, hM, ⟨rfl, ?_⟩, hC, hGx _ _⟩
    · unfold fX7_turn fX7_turn_b19 fX7_turn_b33
      rw [if_pos h1, if_pos h1]
      rfl
    · unfold fX8_turn fX8_turn_b19
      rw [if_pos hm1, hm1]
      rfl
    · rw [h1] at hI
      rcases hI with ⟨z, -⟩ | ⟨-, z⟩ | ⟨z, -⟩ | ⟨z, -⟩
      · exact absurd z (by decide)
      · exact Or.inr (Or.inl ⟨Or.inr rfl, z⟩)
      · exact absurd z (by decide)
      · exact absurd z (by decide)
  · by_cases h2 : μx.1 0 8 = 2
    · have hm2 : μm.1 0 12 = 2 := by rw [← hf]; exact h2
      refine ⟨1, wI μx 0 8 1, wI μm 0 12 1, ?_, ?_, hT, hV, hR, mc, hM, ⟨rfl, ?_⟩, hC, hGx _ _⟩
      · unfold fX7_turn fX7_turn_b19 fX7_turn_b33
        rw [if_neg h1, if_pos h2, if_neg h1]
        rfl
      · unfold fX8_turn fX8_turn_b19
        rw [if_neg (by rw [hm2]; decide), if_pos hm2, hm2]
        rfl
      · rw [h2] at hI
        rcases hI with ⟨z, -⟩ | ⟨-, z⟩ | ⟨z, -⟩ | ⟨z, -⟩
        · exact absurd z (by decide)
        · exact Or.inr (Or.inl ⟨Or.inl rfl, z⟩)
        · exact absurd z (by decide)
        · exact absurd z (by decide)
    · refine ⟨-3, μx, μm, ?_, ?_, h0⟩
      · unfold fX7_turn
        rw [if_neg h1, if_neg h2]
      · unfold fX8_turn
        rw [← hf, if_neg h1, if_neg h2]
theorem st_text : St_text Rel := by
  intro p μx μm h
  have hin : fX8_in (Int32.toInt64 p) 0 9999 = _ := in32 p 0 9999
  rcases rng p 9999 (n := 9999) rfl with hp | ⟨c, hc, rfl⟩
  · refine ⟨-2, μx, μm, ?_, ?_, h⟩
    · unfold fX7_text
      rcases not_rng hp with h1 | ⟨h1, h2⟩
      · rw [if_pos h1]
      · rw [if_neg h1, if_neg h2]
    · unfold fX8_text
      rw [hin, bz_f hp]
      rfl
  · obtain ⟨hT, hV, hR, mc, hM, -, hC, hG⟩ := h
    have hp := rng_ok (M := 9999) (n := 9999) rfl (by decide) hc
    have hlt : ∀ k : Nat, k < 2 ^ 31 → ((nI c ≤ nI k) ↔ c ≤ k) := fun k hk => nI_leI (by omega) hk
    have e9 : (nI c ≤ 9) ↔ c ≤ 9 := hlt 9 (by decide)
    have e99 : (nI c ≤ 99) ↔ c ≤ 99 := hlt 99 (by decide)
    have e999 : (nI c ≤ 999) ↔ c ≤ 999 := hlt 999 (by decide)
    have g10 : ((10 : Int32) ≤ nI c) ↔ 10 ≤ c := nI_leI (a := 10) (by decide) (by omega)
    have g100 : ((100 : Int32) ≤ nI c) ↔ 100 ≤ c := nI_leI (a := 100) (by decide) (by omega)
    have g1000 : ((1000 : Int32) ≤ nI c) ↔ 1000 ≤ c := nI_leI (a := 1000) (by decide) (by omega)
    have hc64 : (nI c).toInt64 = lN c := nI_l (by omega)
    have hR2 : Rel (wL (wI (wI μx 0 8 4) 0 9 10) 0 10 (lN c)) (wL (wI (wI μm 0 12 4) 0 13 0) 0 14 (lN c)) :=
      ⟨hT, hV, hR, mc, hM, ⟨rfl, Or.inr (Or.inr (Or.inr ⟨rfl, rfl, rfl, c, by omega, rfl⟩))⟩, hC, RLg_c hG rfl rfl rfl rfl rfl rfl rfl rfl rfl rfl rfl rfl rfl rfl rfl rfl rfl rfl rfl rfl rfl rfl rfl rfl rfl rfl⟩
    refine ⟨if c < 10 then 1 else if c < 100 then 2 else if c < 1000 then 3 else 4, _, _, ?_, ?_, hR2⟩
    · unfold fX7_text fX7_hold
      rw [if_neg (Int32.not_lt.mpr hp.1), if_pos hp.2, hc64]
      simp only [Option.bind_some, g10, g100, g1000]
      by_cases k1 : c < 10
      · rw [if_neg (by omega), if_pos k1]
      · rw [if_pos (by omega), if_neg k1]
        by_cases k2 : c < 100
        · rw [if_neg (by omega), if_pos k2]
        · rw [if_pos (by omega), if_neg k2]
          by_cases k3 : c < 1000
          · rw [if_neg (by omega), if_pos k3]
          · rw [if_pos (by omega), if_neg k3]
    · unfold fX8_text fX8_hold
      rw [hin, bz_t hp, hc64]
      simp only [Option.bind_some, one_ne, if_false, e9, e99, e999]
      by_cases k3 : c < 1000
      · rw [if_pos (by omega)]
        by_cases k2 : c < 100
        · rw [if_pos (by omega)]
          by_cases k1 : c < 10
          · rw [if_pos (by omega), if_pos k1]
          · rw [if_neg (by omega), if_neg k1, if_pos k2]
        · rw [if_neg (by omega), if_neg (by omega), if_neg k2, if_pos k3]
      · rw [if_neg (by omega), if_neg (by omega), if_neg (by omega), if_neg k3]
theorem st_see : St_see Rel := by
  intro p1 p2 p3 μx μm h
  have hin1 : fX8_in (Int32.toInt64 p1) 0 2 = _ := in32 p1 0 2
  have hin3 : fX8_in (Int32.toInt64 p3) 0 5 = _ := in32 p3 0 5
  rcases rng p1 2 (n := 2) rfl with hp | ⟨a, ha, rfl⟩
  · refine ⟨-2, μx, μm, ?_, ?_, h⟩
    · unfold fX7_see
      rcases not_rng hp with h1 | ⟨h1, h2⟩
      · rw [if_pos h1]
      · rw [if_neg h1, if_pos (Int32.not_le.mp h2)]
    · unfold fX8_see
      rw [hin1, bz_f hp]
      rfl
  have hp1 := rng_ok (M := 2) (n := 2) rfl (by decide) ha
  rcases prim_cases p2 with hp | ⟨b, hb, rfl⟩
  · refine ⟨-2, μx, μm, ?_, ?_, h⟩
    · unfold fX7_see
      rw [if_neg (Int32.not_lt.mpr hp1.1), if_neg (Int32.not_lt.mpr hp1.2), x_isPrim, bz_f hp]
      rfl
    · unfold fX8_see
      rw [hin1, bz_t hp1, m_isPlain, bz_f hp]
      rfl
  have hp2 := prim_ok hb
  rcases rng p3 5 (n := 5) rfl with hp | ⟨c, hc, rfl⟩
  · refine ⟨-2, μx, μm, ?_, ?_, h⟩
    · unfold fX7_see
      rw [if_neg (Int32.not_lt.mpr hp1.1), if_neg (Int32.not_lt.mpr hp1.2), x_isPrim, bz_t hp2]
      simp only [Option.bind_some, one_ne, if_false]
      rcases not_rng hp with h1 | ⟨h1, h2⟩
      · rw [if_pos h1]
      · rw [if_neg h1, if_neg h2]
    · unfold fX8_see
      rw [hin1, bz_t hp1, m_isPlain, bz_t hp2, hin3, bz_f hp]
      rfl
  have hp3 := rng_ok (M := 5) (n := 5) rfl (by decide) hc
  obtain ⟨hT, ⟨n, hn, e1, e2, hl⟩, hR, mc, hM, hH, hC, hG⟩ := h
  by_cases h6 : n = 6
  · subst h6
    refine ⟨-4, μx, μm, ?_, ?_, hT, ⟨6, hn, e1, e2, hl⟩, hR, mc, hM, hH, hC, hG⟩
    · unfold fX7_see fX6_add
      rw [if_neg (Int32.not_lt.mpr hp1.1), if_neg (Int32.not_lt.mpr hp1.2), x_isPrim, bz_t hp2, e1]
      simp only [Option.bind_some, one_ne, if_false]
      rw [if_neg (Int32.not_lt.mpr hp3.1), if_pos hp3.2]
      rfl
    · unfold fX8_see
      rw [hin1, bz_t hp1, m_isPlain, bz_t hp2, hin3, bz_t hp3, e2]
      rfl
  · have hlt : n < 6 := by omega
    have hix : (nI n).toNatClampNeg = n := nI_clamp (by omega)
    have hib := inb_nI hlt (by decide)
    refine ⟨nI (n + 1), wI (wI (wI (wI μx 22 n (nI a)) 23 n (nI b)) 24 n (nI c)) 5 3 (nI (n + 1)), wI (wI (wI (wI μm 21 n (nI a)) 22 n (nI b)) 23 n (nI c)) 0 31 (nI (n + 1)), ?_, ?_, hT, ⟨n + 1, by omega, rfl, rfl, fun j hj => ?_⟩, hR, mc, hM, hH, hC, ?_⟩
    · unfold fX7_see fX6_add
      rw [if_neg (Int32.not_lt.mpr hp1.1), if_neg (Int32.not_lt.mpr hp1.2), x_isPrim, bz_t hp2]
      simp only [Option.bind_some, one_ne, if_false]
      rw [if_neg (Int32.not_lt.mpr hp3.1), if_pos hp3.2]
      simp only [wI_1, Nat.reduceEqDiff, false_and, if_false, e1]
      rw [if_pos (show nI n < 6 from nI_lt (b := 6) hlt (by decide)), if_pos hib, if_pos hib, if_pos hib, hix, nI_1]
      rfl
    · unfold fX8_see
      rw [hin1, bz_t hp1, m_isPlain, bz_t hp2, hin3, bz_t hp3]
      simp only [Option.bind_some, one_ne, if_false, wI_1, Nat.reduceEqDiff, false_and, and_self, if_true, e2]
      rw [if_neg (show ¬ nI n = 6 from fun z => h6 ((nI_eq (by omega) (by decide)).mp (z : nI n = nI 6))), if_pos hib, if_pos hib, if_pos hib, hix, nI_1]
    · show (if (22 = 22 ∧ j = n) then nI a else μx.1 22 j) = (if (21 = 21 ∧ j = n) then nI a else μm.1 21 j) ∧ (if (23 = 23 ∧ j = n) then nI b else μx.1 23 j) = (if (22 = 22 ∧ j = n) then nI b else μm.1 22 j) ∧ (if (24 = 24 ∧ j = n) then nI c else μx.1 24 j) = (if (23 = 23 ∧ j = n) then nI c else μm.1 23 j) ∧ ∃ k, k < 8 ∧ (if (22 = 22 ∧ j = n) then nI b else μm.1 22 j) = nI k
      by_cases hj2 : j = n
      · simp only [hj2, and_self, if_true, true_and]
        exact ⟨b, hb, rfl⟩
      · simp only [hj2, and_false, if_false]
        exact hl j (by omega)
    · exact RLg_c hG rfl rfl rfl rfl rfl rfl rfl rfl rfl rfl rfl rfl rfl rfl rfl rfl rfl rfl rfl rfl rfl rfl rfl rfl rfl rfl
