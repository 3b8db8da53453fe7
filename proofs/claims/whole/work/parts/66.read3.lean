/-! THE READER, 3: fault, tell -/
def SR (μx0 μm0 : Mm) (rx rm : Option (Int32 × Mm)) : Prop := ∃ (r : Int32) (μx' μm' : Mm), rx = some (r, μx') ∧ rm = some (r, μm') ∧ EqX μx0 μx' ∧ EqM μm0 μm' ∧ (r = -9 → ∃ T k p, T ≤ 12 ∧ k ≤ 6 ∧ SS μx0 μm0 μx' μm' T k p)
def midM (f : Nat) (μ : Mm) : Option (Int32 × Mm) := (if (μ.1 0 44) = (μ.1 0 1) then some ((-9 : Int32), μ) else ((fX8_letter μ).bind fun r108 => (if r108 = (44 : Int32) then fX8_readText_b121 (fX8_readText_b50 f) (1 : Int32) μ else fX8_readText_b121 (fX8_readText_b50 f) (0 : Int32) μ)))
theorem p_ne9 {p : Nat} (hp : p ≤ 60) : nI p ≠ -9 := by
  have g : ∀ p, p < 61 → nI p ≠ -9 := by decide +kernel
  exact g p (by omega)
theorem m_b50 {f : Nat} {μ : Mm} {k : Nat} (hk : k < 6) (h33 : μ.1 0 33 = nI k) : fX8_readText_b50 (f + 1) 1 μ = bnd (fX8_readCell μ) fun r64 μ64 => (if r64 = 0 then fX8_readText_b70 μ64 else midM f μ64) := by
  rw [fX8_readText_b50, if_neg one_ne, h33, if_neg (show ¬ nI k = 6 from nI_ne (b := 6) (by omega) (by decide) (by omega))]
  rfl
/-- after an element -/
theorem sc_step {μx0 μm0 μx μm : Mm} {n T k f : Nat} (hn : n ≤ 60) (hk : k < 6) (h : RE μx0 μm0 μx n T k (fX3_readElement μx) (fX8_readCell μm)) (go : ∀ p' (μx' μm' : Mm), p' ≤ n → SS μx0 μm0 μx' μm' T (k + 1) p' → SR μx0 μm0 (fX3_scan_b37 f μx') (midM f μm')) : SR μx0 μm0 (fX3_scan_b73 (fX3_scan_b37 f) μx) (bnd (fX8_readCell μm) fun r64 μ64 => (if r64 = 0 then fX8_readText_b70 μ64 else midM f μ64)) := by
  obtain ⟨ok, p', μx', μm', a1, a2, a3, a4, a5⟩ := h
  unfold fX3_scan_b73
  rw [bn a1, bn a2]
  cases ok with
  | false =>
    obtain ⟨s1, s2, s3, s4, s5, s6, s7, s8, s9⟩ := a4 rfl
    refine ⟨nI p', μx', μm', ?_, ?_, s1, s2, fun z => absurd z (p_ne9 (by omega))⟩
    · rw [bz_f (by decide), if_pos rfl, s7]
    · unfold fX8_readText_b70
      rw [bz_f (by decide), if_pos rfl, s6, if_neg (show ¬ nI k = 6 from nI_ne (b := 6) (by omega) (by decide) (by omega)), s8]
  | true =>
    obtain ⟨b1, b2⟩ := a5 rfl
    rw [bz_t rfl, if_neg one_ne, if_neg one_ne, b2, nI_1]
    exact go p' _ _ a3 b1
theorem sn_loop {μx0 μm0 : Mm} {n T : Nat} {L : Nat → Int32} (hTx : Tx μx0 μm0 n L) (hT : T < 8 ∨ T = 10 ∨ T = 11 ∨ T = 12) : ∀ m f k p (μx μm : Mm), k + m = 6 → m + 2 < f → 1 ≤ k → p ≤ n → SS μx0 μm0 μx μm T k p → SR μx0 μm0 (fX3_scan_b37 f μx) (midM f μm) := by
  intro m
  induction m with
  | zero =>
    intro f k p μx μm he hf hk hp hS
    obtain ⟨f, rfl⟩ : ∃ g, f = g + 1 := ⟨f - 1, by omega⟩
    have hk6 : k = 6 := by omega
    subst hk6
    have hS0 := hS
    obtain ⟨s1, s2, s3, s4, s5, s6, s7, s8, s9⟩ := hS
    have hTc := hTx.e s1 s2
    have hn := hTc.1
    have x11 : μx.1 1 1 = nI n := hTc.2.1
    have m01 : μm.1 0 1 = nI n := hTc.2.2.1
    have xpre : fX3_scan_b37 (f + 1) μx = if nI n ≤ nI p then some (-9, μx) else some (nI p, μx) := by
      rw [fX3_scan_b37, s5, if_pos (by decide)]
      unfold fX3_scan_b98
      rw [x11, s7]
    have hpn : nI p = nI n ↔ p = n := nI_eq (by omega) (by omega)
    rw [xpre]
    unfold midM
    rw [s8, m01]
    by_cases z : p = n
    · rw [if_pos (hpn.mpr z), if_pos (nI_le (by omega) (by omega))]
      exact ⟨-9, μx, μm, rfl, rfl, s1, s2, fun _ => ⟨T, 6, p, by omega, by decide, hS0⟩⟩
    · rw [if_neg (fun y => z (hpn.mp y)), if_neg (nI_ge (by omega) (by omega)), bd (m_letter hTc s8 hp)]
      by_cases y : ltr n L p = 44
      · refine ⟨nI p, μx, wI μm 0 44 (nI (p + 1)), rfl, ?_, s1, s2.wI rfl, fun w => absurd w (p_ne9 (by omega))⟩
        have k33 : (wI μm 0 44 (nI (p + 1))).1 0 33 = 6 := s6
        have k44 : (wI μm 0 44 (nI (p + 1))).1 0 44 = nI (p + 1) := rfl
        rw [if_pos y]
        unfold fX8_readText_b121 fX8_readText_b136
        rw [if_neg one_ne, s8, nI_1, fX8_readText_b50, if_neg one_ne, if_pos k33]
        unfold fX8_readText_b70
        rw [if_pos k33, k44, nI_pred]
      · refine ⟨nI p, μx, wI μm 0 44 (nI p), rfl, ?_, s1, s2.wI rfl, fun w => absurd w (p_ne9 (by omega))⟩
        rw [if_neg y]
        unfold fX8_readText_b121 fX8_readText_b136
        rw [if_pos rfl, s8, Int32.add_zero, fX8_readText_b50, if_pos rfl]
        rfl
  | succ m ih =>
    intro f k p μx μm he hf hk hp hS
    obtain ⟨f, rfl⟩ : ∃ g, f = g + 1 := ⟨f - 1, by omega⟩
    have hS0 := hS
    obtain ⟨s1, s2, s3, s4, s5, s6, s7, s8, s9⟩ := hS
    have hTc := hTx.e s1 s2
    have hn := hTc.1
    have x11 : μx.1 1 1 = nI n := hTc.2.1
    have m01 : μm.1 0 1 = nI n := hTc.2.2.1
    have hpn : nI p = nI n ↔ p = n := nI_eq (by omega) (by omega)
    have n6 : ¬ (6 : Int32) ≤ nI k := nI_ge (b := 6) (by omega) (by decide)
    rw [fX3_scan_b37, s5, if_neg n6, x11, s7]
    unfold midM
    rw [s8, m01]
    by_cases z : p = n
    · refine ⟨-9, μx, μm, ?_, by rw [if_pos (hpn.mpr z)], s1, s2, fun _ => ⟨T, k, p, by omega, by omega, hS0⟩⟩
      rw [if_pos (nI_le (by omega) (by omega))]
      unfold fX3_scan_b98
      rw [x11, s7, if_pos (nI_le (by omega) (by omega))]
    · rw [if_neg (fun y => z (hpn.mp y)), if_neg (nI_ge (by omega) (by omega)), if_neg (nI_nle (by omega) (by omega)), bd (m_letter hTc s8 hp), x_skip hTc s7 hp]
      by_cases y : ltr n L p = 44
      · rw [if_pos y, if_pos y, bn rfl, if_neg one_ne]
        unfold fX8_readText_b121 fX8_readText_b136
        rw [if_neg one_ne, s8, nI_1]
        have hS1 := hS0.on (p + 1)
        rw [m_b50 (show k < 6 by omega) hS1.2.2.2.2.2.1]
        exact sc_step hn (by omega) (re hTx hS1 (by omega) (by omega) hT) (fun p' μx' μm' hp' hS' => ih f (k + 1) p' μx' μm' (by omega) (by omega) (by omega) hp' hS')
      · rw [if_neg y, if_neg y, bn rfl, if_pos rfl]
        refine ⟨nI p, μx, wI μm 0 44 (nI p), by rw [s7], ?_, s1, s2.wI rfl, fun w => absurd w (p_ne9 (by omega))⟩
        unfold fX8_readText_b121 fX8_readText_b136
        rw [if_pos rfl, s8, Int32.add_zero, fX8_readText_b50, if_pos rfl]
        rfl
theorem scan_rel {μx μm : Mm} (hT : RTxt μx μm) : SR μx μm (fX3_scan μx) (fX8_readText μm) := by
  obtain ⟨n, hn, e1, e2, hl⟩ := hT
  have hTx : Tx μx μm n (μm.1 1) := ⟨hn, e1, e2, fun j hj => ⟨(hl j hj).1, rfl, (hl j hj).2⟩⟩
  have hX0 : EqX μx (wI (wI μx 1 6 0) 1 3 0) := (EqX.rf.wI rfl).wI rfl
  have hM0 : EqM μm (wI (wI μm 0 44 0) 0 33 0) := (EqM.rf.wI rfl).wI rfl
  have hT0 := hTx.e hX0 hM0
  have lx := x_letter (p := 0) hT0 rfl (Nat.zero_le _)
  have lm := m_letter (p := 0) hT0 rfl (Nat.zero_le _)
  unfold fX3_scan fX8_readText
  rw [bd lx, bd lm]
  have none9 : fX3_arrayTypeOf (ltr n (μm.1 1) 0) (wI (wI μx 1 6 0) 1 3 0) = some (-9) → fX8_rowKindOf (ltr n (μm.1 1) 0) = some (-9) → SR μx μm ((fX3_arrayTypeOf (ltr n (μm.1 1) 0) (wI (wI μx 1 6 (0 : Int32)) 1 3 (0 : Int32))).bind fun r15 => (if ((wI (wI (wI μx 1 6 (0 : Int32)) 1 3 (0 : Int32)) 1 2 r15).1 1 2) = (-9 : Int32) then some ((0 : Int32), (wI (wI (wI μx 1 6 (0 : Int32)) 1 3 (0 : Int32)) 1 2 r15)) else fX3_scan_b37 100 (wI (wI (wI (wI μx 1 6 (0 : Int32)) 1 3 (0 : Int32)) 1 2 r15) 1 6 (1 : Int32)))) ((fX8_rowKindOf (ltr n (μm.1 1) 0)).bind fun r15 => (if ((wI (wI (wI μm 0 44 (0 : Int32)) 0 33 (0 : Int32)) 0 32 r15).1 0 32) = (-9 : Int32) then some ((0 : Int32), (wI (wI (wI μm 0 44 (0 : Int32)) 0 33 (0 : Int32)) 0 32 r15)) else (if ((wI (wI (wI (wI μm 0 44 (0 : Int32)) 0 33 (0 : Int32)) 0 32 r15) 0 44 (1 : Int32)).1 0 1) = (1 : Int32) then some ((-9 : Int32), (wI (wI (wI (wI μm 0 44 (0 : Int32)) 0 33 (0 : Int32)) 0 32 r15) 0 44 (1 : Int32))) else fX8_readText_b50 100 (1 : Int32) (wI (wI (wI (wI μm 0 44 (0 : Int32)) 0 33 (0 : Int32)) 0 32 r15) 0 44 (1 : Int32))))) := by
    intro h1 h2
    rw [bd h1, bd h2]
    refine ⟨0, wI (wI (wI μx 1 6 0) 1 3 0) 1 2 (-9), wI (wI (wI μm 0 44 0) 0 33 0) 0 32 (-9), ?_, ?_, hX0.wI rfl, hM0.wI rfl, fun z => absurd z (by decide)⟩
    · rw [if_pos (show (wI (wI (wI μx 1 6 (0 : Int32)) 1 3 (0 : Int32)) 1 2 (-9)).1 1 2 = -9 from rfl)]
    · rw [if_pos (show (wI (wI (wI μm 0 44 (0 : Int32)) 0 33 (0 : Int32)) 0 32 (-9)).1 0 32 = -9 from rfl)]
  rcases ltr_c hT0 0 with ⟨z, -⟩ | ⟨hpn, c, hc, z⟩
  · refine none9 ?_ ?_
    · rw [z]; rfl
    · rw [z]; rfl
  · rcases at_c c hc with y | ⟨T, hT13, y, hTT⟩
    · refine none9 ?_ ?_
      · rw [z, at_eq hc, y]
      · rw [z, y]
    · rw [z, at_eq hc, bd y, bd y]
      have n9 : ¬ nI T = -9 := by
        have g : ∀ T, T < 13 → ¬ nI T = -9 := by decide +kernel
        exact g T hT13
      rw [if_neg (show ¬ (wI (wI (wI μx 1 6 (0 : Int32)) 1 3 (0 : Int32)) 1 2 (nI T)).1 1 2 = -9 from n9), if_neg (show ¬ (wI (wI (wI μm 0 44 (0 : Int32)) 0 33 (0 : Int32)) 0 32 (nI T)).1 0 32 = -9 from n9)]
      have hS : SS μx μm (wI (wI (wI (wI μx 1 6 (0 : Int32)) 1 3 (0 : Int32)) 1 2 (nI T)) 1 6 (1 : Int32)) (wI (wI (wI (wI μm 0 44 (0 : Int32)) 0 33 (0 : Int32)) 0 32 (nI T)) 0 44 (1 : Int32)) T 0 1 := ⟨(hX0.wI rfl).wI rfl, (hM0.wI rfl).wI rfl, rfl, rfl, rfl, rfl, rfl, rfl, fun i hi => by omega⟩
      have m01 : (wI (wI (wI (wI μm 0 44 (0 : Int32)) 0 33 (0 : Int32)) 0 32 (nI T)) 0 44 (1 : Int32)).1 0 1 = nI n := e2
      have x11 : (wI (wI (wI (wI μx 1 6 (0 : Int32)) 1 3 (0 : Int32)) 1 2 (nI T)) 1 6 (1 : Int32)).1 1 1 = nI n := e1
      rw [m01]
      generalize wI (wI (wI (wI μx 1 6 (0 : Int32)) 1 3 (0 : Int32)) 1 2 (nI T)) 1 6 (1 : Int32) = μx1 at hS x11 ⊢
      generalize wI (wI (wI (wI μm 0 44 (0 : Int32)) 0 33 (0 : Int32)) 0 32 (nI T)) 0 44 (1 : Int32) = μm1 at hS m01 ⊢
      have hS0 := hS
      obtain ⟨s1, s2, s3, s4, s5, s6, s7, s8, s9⟩ := hS
      have n1 : nI n = 1 ↔ n = 1 := nI_eq (b := 1) (by omega) (by decide)
      have b0 : ¬ (6 : Int32) ≤ nI 0 := by decide
      by_cases h1 : n = 1
      · rw [if_pos (n1.mpr h1)]
        refine ⟨-9, μx1, μm1, ?_, rfl, s1, s2, fun _ => ⟨T, 0, 1, by omega, by decide, hS0⟩⟩
        rw [fX3_scan_b37, s5, if_neg b0, x11, s7, if_pos (nI_le (by omega) (by omega))]
        unfold fX3_scan_b98
        rw [x11, s7, if_pos (nI_le (by omega) (by omega))]
      · rw [if_neg (fun w => h1 (n1.mp w)), m_b50 (f := 99) (show 0 < 6 by decide) s6, fX3_scan_b37, s5, if_neg b0, x11, s7, if_neg (nI_ge (by omega) (by omega)), if_pos (show nI 0 ≤ 0 by decide)]
        exact sc_step hn (by decide) (re hTx hS0 (by decide) (by omega) hTT) (fun p' μx' μm' hp' hS' => sn_loop hTx hTT 5 99 1 p' μx' μm' (by decide) (by decide) (by decide) hp' hS')
theorem st_fault : St_fault Rel := by
  intro μx μm h
  obtain ⟨r, μx', μm', a1, a2, a3, a4, -⟩ := scan_rel h.1
  refine ⟨r, μx', μm', ?_, ?_, h.cong a3 a4⟩
  · unfold fX7_fault
    rw [bn a1]
  · unfold fX8_fault
    rw [bn a2]
theorem tl_x {μ : Mm} {r0 k : Nat} (b : Int32) (hr : r0 < 26) (hk : k ≤ 6) (h3 : μ.1 1 3 = nI k) (hw : ∀ i, i < k → ∃ c, fX2_ofWhole (μ.1 9 i) (μ.2 10 i) = some c) : ∀ m f i (μ1 : Mm), i + m = k → m < f → BX μ μ1 r0 → (∀ j, j < i → μ1.1 13 (6 * r0 + j) = μ.1 9 j ∧ fX2_ofWhole (μ.1 9 j) (μ.2 10 j) = some (μ1.2 14 (6 * r0 + j))) →
    ∃ μ2, fX7_tell_b45 f b (nI r0) (nI i) μ1 = ((fX7_replace b (nI r0) μ2).bind fun μ101 => some ((μ101.1 1 2), μ101)) ∧ BX μ μ2 r0 ∧ (∀ o, o ≠ 13 → μ2.1 o = μ1.1 o) ∧ ∀ j, j < k → μ2.1 13 (6 * r0 + j) = μ.1 9 j ∧ fX2_ofWhole (μ.1 9 j) (μ.2 10 j) = some (μ2.2 14 (6 * r0 + j)) := by
  intro m
  induction m with
  | zero =>
    intro f i μ1 he hf hB hc
    obtain ⟨f, rfl⟩ : ∃ g, f = g + 1 := ⟨f - 1, by omega⟩
    have e3 : μ1.1 1 3 = nI k := by rw [hB.o (by decide) (by decide) (by decide)]; exact h3
    refine ⟨μ1, ?_, hB, fun _ _ => rfl, fun j hj => hc j (by omega)⟩
    unfold fX7_tell_b45
    rw [e3, if_pos (nI_le (by omega) (by omega))]
  | succ m ih =>
    intro f i μ1 he hf hB hc
    obtain ⟨f, rfl⟩ : ∃ g, f = g + 1 := ⟨f - 1, by omega⟩
    have e3 : μ1.1 1 3 = nI k := by rw [hB.o (by decide) (by decide) (by decide)]; exact h3
    have e9 : μ1.1 9 = μ.1 9 := hB.o (by decide) (by decide) (by decide)
    have e10 : μ1.2 10 = μ.2 10 := hB.l (by decide)
    have i6 : inb (nI i) 6 = true := inb_nI (show i < 6 by omega) (by decide)
    obtain ⟨c, hc'⟩ := hw i (by omega)
    obtain ⟨μ2, g1, g2, g3, g4⟩ := ih f (i + 1) (wL (wI μ1 13 (6 * r0 + i) (μ.1 9 i)) 14 (6 * r0 + i) c) (by omega) (by omega) (hB.set (show i < 6 by omega) _ _) (fun j hj => by
      rw [wL_1, wI_1, wL_2, wI_2]
      by_cases z : j = i
      · subst z
        rw [if_pos ⟨rfl, rfl⟩, if_pos ⟨rfl, rfl⟩]
        exact ⟨rfl, hc'⟩
      · rw [if_neg (by omega), if_neg (by omega)]
        exact hc j (by omega))
    refine ⟨μ2, ?_, g2, fun o ho => ?_, g4⟩
    · unfold fX7_tell_b45
      rw [e3, if_neg (nI_ge (by omega) (by omega)), if_pos i6, if_pos i6, cl (by omega), e9, e10, bd hc', bd (x_set hr (by omega) (μ.1 9 i) c μ1), nI_1]
      exact g1
    · rw [g3 o ho]
      funext q
      rw [wL_1, wI_1, if_neg (fun z => ho z.1)]
theorem st_tell : St_tell Rel := by
  intro p1 μx μm h
  have h0 := h
  rcases slot_cases p1 with hp | ⟨b, hb, rfl⟩
  · exact ⟨-1, μx, μm, by unfold fX7_tell; rw [x_isSlot, bz_f hp]; rfl, by unfold fX8_tell; rw [m_isSlot, bz_f hp]; rfl, h0⟩
  have hs := slot_ok hb
  obtain ⟨r, μx', μm', a1, a2, a3, a4, a5⟩ := scan_rel h.1
  have h1 := h.cong a3 a4
  unfold fX7_tell fX8_tell
  rw [x_isSlot, m_isSlot, bz_t hs, bd rfl, bd rfl, if_neg one_ne, if_neg one_ne, bn a1, bn a2]
  by_cases z : r = -9
  · rw [if_pos z, if_pos z]
    obtain ⟨T, k, p, hT, hk, s1, s2, s3, s4, s5, s6, s7, s8, s9⟩ := a5 z
    obtain ⟨hRp, mc, hq⟩ := h1.q
    obtain ⟨r0, r1, r2, r3, f1, fin⟩ := new_row hq hRp
    obtain ⟨μx1, k1, hB, k3, k4, -⟩ := x_prep (μ := μx') (r0 := r0) (t := T) (n := k) r2 hk (by omega)
    obtain ⟨μx2, g1, g2, g3, g4⟩ := tl_x (μ := μx') (nI b) r2 hk s5 (fun i hi => by
      obtain ⟨c, c1, -⟩ := s9 i hi
      exact ⟨c, c1⟩) k 100 0 μx1 (by omega) (by omega) hB (fun j hj => by omega)
    obtain ⟨μx3, μm3, y1, y2, y3, y4, y5⟩ := fin μx2 μm' b T k g2 EqM.rf hb hT hk (by rw [g3 11 (by decide)]; exact k3) (by rw [g3 12 (by decide)]; exact k4) s4 s6 (fun i hi => by
      obtain ⟨c, c1, c2⟩ := s9 i hi
      obtain ⟨d1, d2⟩ := g4 i hi
      rw [c1] at d2
      have e := Option.some.inj d2
      rw [d1, ← e]
      exact c2 mc _)
    have hnr : fX7_newRow (μx'.1 1 2) (μx'.1 1 3) μx' = some (nI r0, μx1) := by
      unfold fX7_newRow
      rw [s3, s5, bd r3, bd k1]
    have e12 : μx3.1 1 2 = nI T := by
      rw [y5, g3 1 (by decide), hB.o (by decide) (by decide) (by decide)]
      exact s3
    refine ⟨nI T, μx3, μm3, ?_, ?_, y3⟩
    · rw [bn hnr]
      have g1' : fX7_tell_b45 100 (nI b) (nI r0) 0 μx1 = _ := g1
      rw [g1', bd y1, e12]
    · rw [bd y2, y4]
  · rw [if_neg z, if_neg z]
    exact ⟨-3, μx', μm', rfl, rfl, h1⟩
