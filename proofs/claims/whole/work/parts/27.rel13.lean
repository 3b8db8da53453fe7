/-! PURE PART 13: fetch -/
theorem rel_hold {μx μm : Mm} {mc : Nat} (hT : RTxt μx μm) (hV : RVw μx μm) (hR : RRp μx μm) (hM : RMk μx μm mc) (hC : RCo μx μm mc) (hG : RLg μx μm mc) {f xt mk : Int32} {xc mv : Int64} (hI : It mc (μm.1 10) f xt xc mk mv) : Rel (wL (wI (wI μx 0 8 f) 0 9 xt) 0 10 xc) (wL (wI (wI μm 0 12 f) 0 13 mk) 0 14 mv) :=
  ⟨hT, hV, hR, mc, hM, ⟨rfl, hI⟩, hC, RLg_c hG rfl rfl rfl rfl rfl rfl rfl rfl rfl rfl rfl rfl rfl rfl rfl rfl rfl rfl rfl rfl rfl rfl rfl rfl rfl rfl⟩
theorem x_fform {mc : Nat} {star : Nat → Int32} {f xt mk : Int32} {xc mv : Int64} (h : It mc star f xt xc mk mv) (hf : f ≠ 1) : fX4_fetchedForm xt = some f := by
  rcases h with ⟨rfl, rfl, rfl⟩ | ⟨rfl | rfl, rfl, rfl, k, hk, rfl, -⟩ | ⟨rfl, j, hj, rfl, rfl, h2⟩ | ⟨rfl, rfl, rfl, -⟩
  · rfl
  · exact absurd rfl hf
  · have g : ∀ k, k < 8 → fX4_fetchedForm (nI k) = some 2 := by decide +kernel
    exact g k hk
  · rcases h2 with ⟨rfl, -⟩ | ⟨rfl, -⟩ <;> rfl
  · rfl
theorem fetch_no {μx μm : Mm} {a r t : Nat} (ha : a < 10) (hr : r < 26) (ht : t < 16) (e1 : μx.1 6 a = nI r) (e2 : μx.1 11 r = nI t) (e3 : μm.1 2 a = nI t) (h13 : 13 ≤ t) (x1 : μx.1 12 r = 0) (p : Int32) : fX7_fetchReason (nI a) p μx = some (if t = 15 then 5 else 3) ∧ fX8_reasonToFetch (nI a) p μm = some (if t = 15 then 5 else 3) ∧ fX8_reasonOf (nI a) μm = some (if t = 15 then 5 else 3) ∧ fX4_fetchFit (nI t) = some (if t = 15 then 5 else 3) := by
  have t15 : (nI t = 15) ↔ t = 15 := nI_eq (b := 15) (by omega) (by decide)
  have hro : fX8_reasonOf (nI a) μm = some (if t = 15 then 5 else 3) := by
    unfold fX8_reasonOf
    rw [m_holds ha ht e3, bz_f (by omega)]
    simp only [Option.bind_some, if_true]
    rw [if_pos (inb10 ha), cl (by omega), e3]
    by_cases h5 : t = 15
    · rw [if_pos (t15.mpr h5), if_pos h5]
    · rw [if_neg (fun z => h5 (t15.mp z)), if_neg h5]
  have hff : fX4_fetchFit (nI t) = some (if t = 15 then 5 else 3) := by
    have g : ∀ t, t < 16 → 13 ≤ t → fX4_fetchFit (nI t) = some (if t = 15 then 5 else 3) := by decide +kernel
    exact g t ht h13
  refine ⟨?_, ?_, hro, hff⟩
  · unfold fX7_fetchReason
    rw [x_thingIn ha hr e1 e2]
    simp only [Option.bind_some]
    rw [hff]
    simp only [Option.bind_some]
    rw [if_pos (inb10 ha), cl (by omega), e1, x_has hr (show 0 ≤ 6 by decide) x1]
    simp only [Option.bind_some]
    rcases pos_cases p (show 0 ≤ 6 by decide) with hp | ⟨i, hi, -⟩
    · rw [bz_f hp]
      by_cases h5 : t = 15
      · rw [if_pos h5]; rfl
      · rw [if_neg h5]; rfl
    · omega
  · unfold fX8_reasonToFetch
    rw [hro]
    by_cases h5 : t = 15
    · rw [if_pos h5]; rfl
    · rw [if_neg h5]; rfl
theorem fetch_ok {μx μm : Mm} {a r t q n : Nat} (ha : a < 10) (hr : r < 26) (ht : t < 16) (e1 : μx.1 6 a = nI r) (e2 : μx.1 11 r = nI t) (e3 : μm.1 2 a = nI t) (h12 : t ≤ 12) (hq : q < 11) (hn : n ≤ 6) (m1 : μm.1 3 a = nI q) (x1 : μx.1 12 r = nI n) (m3 : μm.1 5 q = nI n) (p : Int32) : fX7_fetchReason (nI a) p μx = some (if 0 ≤ p ∧ p ≤ nI n - 1 then 0 else 1) ∧ fX8_reasonToFetch (nI a) p μm = some (if 0 ≤ p ∧ p ≤ nI n - 1 then 0 else 1) ∧ fX8_reasonOf (nI a) μm = some 0 ∧ fX4_fetchFit (nI t) = some 0 := by
  have hin : fX8_in (Int32.toInt64 p) 0 (Int32.toInt64 (nI n - 1)) = _ := in32 p 0 (nI n - 1)
  have hro : fX8_reasonOf (nI a) μm = some 0 := by
    unfold fX8_reasonOf
    rw [m_holds ha ht e3, bz_t h12]
    rfl
  have hff : fX4_fetchFit (nI t) = some 0 := by
    have g : ∀ t, t ≤ 12 → fX4_fetchFit (nI t) = some 0 := by decide +kernel
    exact g t h12
  refine ⟨?_, ?_, hro, hff⟩
  · unfold fX7_fetchReason
    rw [x_thingIn ha hr e1 e2]
    simp only [Option.bind_some]
    rw [hff]
    simp only [Option.bind_some]
    rw [if_pos (inb10 ha), cl (by omega), e1, x_has hr hn x1]
    simp only [Option.bind_some]
    by_cases hp : 0 ≤ p ∧ p ≤ nI n - 1
    · rw [bz_t hp, if_pos hp]; rfl
    · rw [bz_f hp, if_neg hp]; rfl
  · unfold fX8_reasonToFetch
    rw [hro]
    simp only [Option.bind_some, if_true]
    rw [if_pos (inb10 ha), cl (by omega), m1, if_pos (inb11 hq), cl (by omega), m3, hin]
    simp only [Option.bind_some]
    by_cases hp : 0 ≤ p ∧ p ≤ nI n - 1
    · rw [bz_t hp, if_pos hp]; rfl
    · rw [bz_f hp, if_neg hp]; rfl
theorem f53 (t : Nat) : ¬ ((if t = 15 then 5 else 3 : Int32) = 0) := by split <;> decide
theorem got_ne (f : Int32) : (if f = 1 then 2 else f) ≠ (1 : Int32) := by
  by_cases z : f = 1
  · rw [if_pos z]; decide
  · rw [if_neg z]; exact z
theorem st_fetch : St_fetch Rel := by
  intro p1 p2 μx μm h
  have h0 := h
  obtain ⟨hT, hV, hR, mc, hM, hH, hC, hG⟩ := h
  rcases slot_cases p1 with hp | ⟨a, ha, rfl⟩
  · exact ⟨-1, μx, μm, by unfold fX7_fetch; rw [x_isSlot, bz_f hp]; rfl, by unfold fX8_fetch; rw [m_isSlot, bz_f hp]; rfl, h0⟩
  have hs := slot_ok ha
  obtain ⟨r, t, hr, ht, e1, e2, e3, hA⟩ := slotR hC ha
  rcases hA.symm with ⟨h13, m1, x1⟩ | ⟨h12, q, n, hq, hn, m1, m2, x1, m3, hce⟩
  · obtain ⟨k1, k2, -, -⟩ := fetch_no ha hr ht e1 e2 e3 h13 x1 p2
    refine ⟨if t = 15 then 5 else 3, μx, μm, ?_, ?_, h0⟩
    · unfold fX7_fetch
      rw [x_isSlot, bz_t hs, k1]
      simp only [Option.bind_some, one_ne, if_false]
      rw [if_neg (f53 t)]
    · unfold fX8_fetch
      rw [m_isSlot, bz_t hs, k2]
      simp only [Option.bind_some, one_ne, if_false]
      rw [if_neg (f53 t)]
  obtain ⟨k1, k2, -, -⟩ := fetch_ok ha hr ht e1 e2 e3 h12 hq hn m1 x1 m3 p2
  rcases pos_cases p2 hn with hp | ⟨i, hi, rfl, hp⟩
  · rw [if_neg hp] at k1 k2
    refine ⟨1, μx, μm, ?_, ?_, h0⟩
    · unfold fX7_fetch
      rw [x_isSlot, bz_t hs, k1]
      rfl
    · unfold fX8_fetch
      rw [m_isSlot, bz_t hs, k2]
      rfl
  rw [if_pos hp] at k1 k2
  have hI := got_it (hce i hi)
  refine ⟨0, _, _, ?_, ?_, rel_hold (μm := gotM μm (6 * q + i)) hT hV hR hM hC (RLg_c hG rfl rfl rfl rfl rfl rfl rfl rfl rfl rfl rfl rfl rfl rfl rfl rfl rfl rfl rfl rfl rfl rfl rfl rfl rfl rfl) hI⟩
  · unfold fX7_fetch
    rw [x_isSlot, bz_t hs, k1]
    simp only [Option.bind_some, one_ne, if_false, if_true]
    rw [if_pos (inb10 ha), cl (by omega), e1, x_typeAt hr (by omega), x_codeAt hr (by omega)]
    simp only [Option.bind_some]
    rw [x_fform hI (got_ne _)]
    simp only [Option.bind_some]
    rw [if_pos (inb10 ha)]
    rfl
  · unfold fX8_fetch
    rw [m_isSlot, bz_t hs, k2]
    simp only [Option.bind_some, one_ne, if_false, if_true]
    rw [if_pos (inb10 ha), cl (by omega), m1, m_get hq (by omega)]
    rfl
