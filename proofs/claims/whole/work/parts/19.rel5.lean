/-! PURE PART 5 -/
theorem lN_l {j : Nat} (h : j < 20) : (lN j).toInt32 = nI j := lN_i j
theorem m_told {mc : Nat} {μx μm : Mm} (hM : RMk μx μm mc) {f xt mk : Int32} {xc mv : Int64} (h : It mc (μm.1 10) f xt xc mk mv) : ∃ r, fX7_shownCode xt xc μx = some r ∧ fX8_told f mv μm = some r := by
  obtain ⟨hmc, -, -, hl⟩ := hM
  rcases h with ⟨rfl, rfl, rfl⟩ | ⟨hf, rfl, rfl, k, hk, rfl, -⟩ | ⟨rfl, j, hj, rfl, rfl, h2⟩ | ⟨rfl, rfl, rfl, -⟩
  · exact ⟨0, rfl, rfl⟩
  · refine ⟨xc, ?_, ?_⟩
    · have g : ∀ k, k < 8 → fX4_isMark (nI k) = some 0 := by decide +kernel
      unfold fX7_shownCode
      rw [g k hk]
      rfl
    · rcases hf with rfl | rfl <;> rfl
  · have e1 : (lN j).toInt32 = nI j := lN_i j
    have e2 : inb (nI j) 20 = true := inb_nI (by omega) (by decide)
    have e3 : (nI j).toNatClampNeg = j := nI_clamp (by omega)
    refine ⟨(μm.1 9 j).toInt64, ?_, ?_⟩
    · have g : fX4_isMark xt = some 1 := by rcases h2 with ⟨rfl, -⟩ | ⟨rfl, -⟩ <;> rfl
      unfold fX7_shownCode fX1_numberOf
      rw [g, e1, e2, e3, (hl j hj).1]
      rfl
    · unfold fX8_told
      rw [e1, e2, e3]
      rfl
  · exact ⟨xc, rfl, rfl⟩
theorem m_kind {mc : Nat} {μm : Mm} (hmc : mc ≤ 20) {f xt mk : Int32} {xc mv : Int64} (h : It mc (μm.1 10) f xt xc mk mv) : fX8_kindTold f mk mv μm = some xt := by
  rcases h with ⟨rfl, rfl, rfl⟩ | ⟨hf, rfl, rfl, -⟩ | ⟨rfl, j, hj, rfl, rfl, h2⟩ | ⟨rfl, rfl, rfl, -⟩
  · rfl
  · rcases hf with rfl | rfl <;> rfl
  · have e1 : (lN j).toInt32 = nI j := lN_i j
    have e2 : inb (nI j) 20 = true := inb_nI (by omega) (by decide)
    have e3 : (nI j).toNatClampNeg = j := nI_clamp (by omega)
    unfold fX8_kindTold
    rw [e1, e2, e3]
    rcases h2 with ⟨rfl, hs⟩ | ⟨rfl, hs⟩ <;> rw [hs] <;> rfl
  · rfl
theorem m_ix {mc : Nat} {star : Nat → Int32} {f xt mk : Int32} {xc mv : Int64} (h : It mc star f xt xc mk mv) : fX7_markIndex xt xc = some (if f = 3 then mv else -9) := by
  rcases h with ⟨rfl, rfl, rfl⟩ | ⟨hf, rfl, rfl, k, hk, rfl, -⟩ | ⟨rfl, j, hj, rfl, rfl, h2⟩ | ⟨rfl, rfl, rfl, -⟩
  · rfl
  · have g : ∀ k, k < 8 → fX4_isMark (nI k) = some 0 := by decide +kernel
    unfold fX7_markIndex
    rw [g k hk]
    rcases hf with rfl | rfl <;> rfl
  · unfold fX7_markIndex
    rcases h2 with ⟨rfl, -⟩ | ⟨rfl, -⟩ <;> rfl
  · rfl
theorem st_hand : St_hand Rel := by
  intro p μx μm h
  have h0 := h
  obtain ⟨hT, hV, hR, mc, hM, ⟨hf, hI⟩, hC, hG⟩ := h
  have hI2 := hI
  rw [hf] at hI2
  obtain ⟨r2, k1, k2⟩ := m_told hM hI2
  by_cases p0 : p = 0
  · refine ⟨(μm.1 0 12).toInt64, ?_, ?_, h0⟩
    · unfold fX7_hand; rw [if_pos p0, hf]
    · unfold fX8_hand; rw [if_pos p0]
  by_cases p1 : p = 1
  · refine ⟨(μx.1 0 9).toInt64, ?_, ?_, h0⟩
    · unfold fX7_hand; rw [if_neg p0, if_pos p1]
    · unfold fX8_hand; rw [if_neg p0, if_pos p1, m_kind hM.1 hI2]; rfl
  by_cases p2 : p = 2
  · refine ⟨r2, ?_, ?_, h0⟩
    · unfold fX7_hand; rw [if_neg p0, if_neg p1, if_pos p2, k1]; rfl
    · unfold fX8_hand; rw [if_neg p0, if_neg p1, if_pos p2, k2]; rfl
  by_cases p3 : p = 3
  · refine ⟨if μm.1 0 12 = 3 then μm.2 0 14 else -9, ?_, ?_, h0⟩
    · unfold fX7_hand; rw [if_neg p0, if_neg p1, if_neg p2, if_pos p3, m_ix hI2]; rfl
    · unfold fX8_hand; rw [if_neg p0, if_neg p1, if_neg p2, if_pos p3]; split <;> rfl
  · refine ⟨-2, ?_, ?_, h0⟩
    · unfold fX7_hand; rw [if_neg p0, if_neg p1, if_neg p2, if_neg p3]
    · unfold fX8_hand; rw [if_neg p0, if_neg p1, if_neg p2, if_neg p3]
/-- a slot of both sides -/
theorem slotR {μx μm : Mm} {mc : Nat} (hC : RCo μx μm mc) {a : Nat} (ha : a < 10) : ∃ r t, r < 26 ∧ t < 16 ∧ μx.1 6 a = nI r ∧ μx.1 11 r = nI t ∧ μm.1 2 a = nI t ∧
    ((t ≤ 12 ∧ ∃ q n, q < 11 ∧ n ≤ 6 ∧ μm.1 3 a = nI q ∧ μm.1 4 q = nI t ∧ μx.1 12 r = nI n ∧ μm.1 5 q = nI n ∧
        ∀ i, i < n → Ce mc (μm.1 10) t (μx.1 13 (6 * r + i)) (μx.2 14 (6 * r + i)) (μm.1 6 (6 * q + i)) (μm.1 7 (6 * q + i)) (μm.2 8 (6 * q + i)))
      ∨ (13 ≤ t ∧ μm.1 3 a = -9 ∧ μx.1 12 r = 0)) := hC.1.1 a ha
theorem inb10 {a : Nat} (h : a < 10) : inb (nI a) 10 = true := inb_nI h (by decide)
theorem inb26 {a : Nat} (h : a < 26) : inb (nI a) 26 = true := inb_nI h (by decide)
theorem inb11 {a : Nat} (h : a < 11) : inb (nI a) 11 = true := inb_nI h (by decide)
theorem cl {a : Nat} (h : a < 1000) : (nI a).toNatClampNeg = a := nI_clamp (by omega)
theorem x_thingIn {μx : Mm} {a r t : Nat} (ha : a < 10) (hr : r < 26) (e1 : μx.1 6 a = nI r) (e2 : μx.1 11 r = nI t) : fX7_thingIn (nI a) μx = some (nI t) := by
  unfold fX7_thingIn
  rw [if_pos (inb10 ha), cl (by omega), e1, if_pos (inb26 hr), cl (by omega), e2]
theorem x_holds {μx : Mm} {a r t : Nat} (ha : a < 10) (hr : r < 26) (ht : t < 16) (e1 : μx.1 6 a = nI r) (e2 : μx.1 11 r = nI t) : fX7_holdsArray (nI a) μx = some (bz (t ≤ 12)) := by
  unfold fX7_holdsArray
  rw [x_thingIn ha hr e1 e2]
  simp only [Option.bind_some]
  have : ((12 : Int32) < nI t) ↔ 12 < t := nI_ltI (a := 12) (by decide) (by omega)
  by_cases h : t ≤ 12
  · rw [if_neg (by rw [this]; omega), bz_t h]
  · rw [if_pos (by rw [this]; omega), bz_f h]
theorem m_holds {μm : Mm} {a t : Nat} (ha : a < 10) (ht : t < 16) (e : μm.1 2 a = nI t) : fX8_holdsRow (nI a) μm = some (bz (t ≤ 12)) := by
  unfold fX8_holdsRow
  rw [if_pos (inb10 ha), cl (by omega), e]
  have : ((13 : Int32) ≤ nI t) ↔ 13 ≤ t := nI_leI (a := 13) (by decide) (by omega)
  by_cases h : t ≤ 12
  · rw [if_neg (by rw [this]; omega), bz_t h]
  · rw [if_pos (by rw [this]; omega), bz_f h]
theorem st_thing : St_thing Rel := by
  intro p1 p2 μx μm h
  have h0 := h
  obtain ⟨hT, hV, hR, mc, hM, hH, hC, hG⟩ := h
  have hin : fX8_in (Int32.toInt64 p2) 0 1 = _ := in32 p2 0 1
  rcases slot_cases p1 with hp | ⟨a, ha, rfl⟩
  · exact ⟨-1, by unfold fX7_thing; rw [x_isSlot, bz_f hp]; rfl, by unfold fX8_thing; rw [m_isSlot, bz_f hp]; rfl, h0⟩
  have hs := slot_ok ha
  rcases rng p2 1 (n := 1) rfl with hp | ⟨w, hw, rfl⟩
  · refine ⟨-2, ?_, ?_, h0⟩
    · unfold fX7_thing
      rw [x_isSlot, bz_t hs]
      simp only [Option.bind_some, one_ne, if_false]
      rcases not_rng hp with h1 | ⟨h1, h2⟩
      · rw [if_pos h1]
      · rw [if_neg h1, if_neg h2]
    · unfold fX8_thing
      rw [m_isSlot, bz_t hs, hin, bz_f hp]
      rfl
  have hp2 := rng_ok (M := 1) (n := 1) rfl (by decide) hw
  obtain ⟨r, t, hr, ht, e1, e2, e3, hA⟩ := slotR hC ha
  have t15 : (nI t = 15) ↔ t = 15 := nI_eq (b := 15) (by omega) (by decide)
  by_cases hw0 : w = 0
  · subst hw0
    refine ⟨nI t, ?_, ?_, h0⟩
    · unfold fX7_thing
      rw [x_isSlot, bz_t hs, x_thingIn ha hr e1 e2]
      rfl
    · unfold fX8_thing
      rw [m_isSlot, bz_t hs, hin, bz_t hp2]
      simp only [Option.bind_some, one_ne, if_false]
      rw [if_pos (show nI 0 = 0 from rfl), if_pos (inb10 ha), cl (by omega), e3]
  · have hw1 : w = 1 := by omega
    subst hw1
    rcases hA with ⟨h12, q, n, hq, hn, m1, m2, x1, m3, -⟩ | ⟨h13, m1, x1⟩
    · refine ⟨nI n, ?_, ?_, h0⟩
      · unfold fX7_thing
        rw [x_isSlot, bz_t hs, x_thingIn ha hr e1 e2, x_holds ha hr ht e1 e2, bz_t h12]
        simp only [Option.bind_some, one_ne, if_false]
        rw [if_neg (Int32.not_lt.mpr hp2.1), if_pos hp2.2, if_neg (show ¬ nI 1 = 0 by decide), if_neg (by rw [t15]; omega), if_pos (inb10 ha), cl (by omega), e1, if_pos (inb26 hr), cl (by omega), x1]
      · unfold fX8_thing
        rw [m_isSlot, bz_t hs, hin, bz_t hp2, m_holds ha ht e3, bz_t h12]
        simp only [Option.bind_some, one_ne, if_false]
        rw [if_neg (show ¬ nI 1 = 0 by decide), if_pos (inb10 ha), cl (by omega), m1, if_pos (inb11 hq), cl (by omega), m3]
    · refine ⟨if t = 15 then -9 else -3, ?_, ?_, h0⟩
      · unfold fX7_thing
        rw [x_isSlot, bz_t hs, x_thingIn ha hr e1 e2, x_holds ha hr ht e1 e2, bz_f (by omega)]
        simp only [Option.bind_some, one_ne, if_false]
        rw [if_neg (Int32.not_lt.mpr hp2.1), if_pos hp2.2, if_neg (show ¬ nI 1 = 0 by decide)]
        by_cases h5 : t = 15
        · rw [if_pos (t15.mpr h5), if_pos h5]
        · rw [if_neg (fun z => h5 (t15.mp z)), if_neg h5]; rfl
      · unfold fX8_thing
        rw [m_isSlot, bz_t hs, hin, bz_t hp2, m_holds ha ht e3, bz_f (by omega)]
        simp only [Option.bind_some, one_ne, if_false]
        rw [if_neg (show ¬ nI 1 = 0 by decide), if_pos trivial, if_pos (inb10 ha), cl (by omega), e3]
        by_cases h5 : t = 15
        · rw [if_pos (t15.mpr h5), if_pos h5]
        · rw [if_neg (fun z => h5 (t15.mp z)), if_neg h5]
theorem st_same : St_same Rel := by
  intro p1 p2 μx μm h
  have h0 := h
  obtain ⟨hT, hV, hR, mc, hM, hH, hC, hG⟩ := h
  rcases slot_cases p1 with hp | ⟨a, ha, rfl⟩
  · exact ⟨-1, by unfold fX7_same; rw [x_isSlot, bz_f hp]; rfl, by unfold fX8_same; rw [m_isSlot, bz_f hp]; rfl, h0⟩
  have hs := slot_ok ha
  rcases slot_cases p2 with hp | ⟨b, hb, rfl⟩
  · exact ⟨-1, by unfold fX7_same; rw [x_isSlot, bz_t hs, x_isSlot, bz_f hp]; rfl, by unfold fX8_same; rw [m_isSlot, bz_t hs, m_isSlot, bz_f hp]; rfl, h0⟩
  have hs2 := slot_ok hb
  obtain ⟨r, t, hr, ht, e1, e2, e3, hA⟩ := slotR hC ha
  rcases hA with ⟨h12, q, n, hq, hn, m1, m2, x1, m3, -⟩ | ⟨h13, m1, x1⟩
  · have hne : μm.1 3 a ≠ -9 := by
      rw [m1]
      have g : ∀ q, q < 11 → nI q ≠ -9 := by decide +kernel
      exact g q hq
    have hiff : (μx.1 6 a = μx.1 6 b) ↔ (μm.1 3 a = μm.1 3 b) := hC.1.2 a b ha hb hne
    refine ⟨if μm.1 3 a = μm.1 3 b then 1 else 0, ?_, ?_, h0⟩
    · unfold fX7_same
      rw [x_isSlot, bz_t hs, x_isSlot, bz_t hs2, x_holds ha hr ht e1 e2, bz_t h12]
      simp only [Option.bind_some, one_ne, if_false]
      rw [if_pos (inb10 ha), if_pos (inb10 hb), cl (by omega), cl (by omega)]
      by_cases z : μm.1 3 a = μm.1 3 b
      · rw [if_pos (hiff.mpr z), if_pos z]
      · rw [if_neg (fun y => z (hiff.mp y)), if_neg z]
    · unfold fX8_same
      rw [m_isSlot, bz_t hs, m_isSlot, bz_t hs2]
      simp only [Option.bind_some, one_ne, if_false]
      rw [if_pos (inb10 ha), if_pos (inb10 hb), cl (by omega), cl (by omega), if_neg hne]
      by_cases z : μm.1 3 a = μm.1 3 b
      · simp [z, inb10 ha]
      · simp [z, inb10 ha]
  · refine ⟨0, ?_, ?_, h0⟩
    · unfold fX7_same
      rw [x_isSlot, bz_t hs, x_isSlot, bz_t hs2, x_holds ha hr ht e1 e2, bz_f (by omega)]
      rfl
    · unfold fX8_same
      rw [m_isSlot, bz_t hs, m_isSlot, bz_t hs2]
      simp only [Option.bind_some, one_ne, if_false]
      rw [if_pos (inb10 ha), cl (by omega), if_pos m1]
