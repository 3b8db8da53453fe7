/-! NUMBERS 8: alike -/
theorem lm_two : ∀ a, a < 8 → ∀ b, b < 8 → fX2_leastOfTwo (nI a) (nI b) = fX8_leastOf (nI a) (nI b) ∧ (fX8_leastOf (nI a) (nI b) = some (-9) ∨ ∃ k, k < 8 ∧ fX8_leastOf (nI a) (nI b) = some (nI k) ∧ fX8_widens (nI a) (nI k) = some 1 ∧ fX8_widens (nI b) (nI k) = some 1) := by decide +kernel
theorem it_prim {mc : Nat} {star : Nat → Int32} {f xt mk : Int32} {xc mv : Int64} (h : It mc star f xt xc mk mv) : ((f = 1 ∨ f = 2) ∧ ∃ k, k < 8 ∧ xt = nI k ∧ mk = nI k ∧ xc = mv ∧ VC k xc) ∨ (f ≠ 1 ∧ f ≠ 2 ∧ (f = 0 ∨ 2 < f) ∧ fX7_isPrimitive xt = some 0) := by
  rcases h with ⟨rfl, rfl, rfl⟩ | ⟨hf, rfl, rfl, k, hk, rfl, hv⟩ | ⟨rfl, j, hj, rfl, rfl, h2⟩ | ⟨rfl, rfl, rfl, -⟩
  · exact Or.inr ⟨by decide, by decide, Or.inl rfl, rfl⟩
  · exact Or.inl ⟨hf, k, hk, rfl, rfl, rfl, hv⟩
  · refine Or.inr ⟨by decide, by decide, Or.inr (by decide), ?_⟩
    rcases h2 with ⟨rfl, -⟩ | ⟨rfl, -⟩ <;> rfl
  · exact Or.inr ⟨by decide, by decide, Or.inr (by decide), rfl⟩
theorem x_prim1 {k : Nat} (hk : k < 8) : fX7_isPrimitive (nI k) = some 1 := by rw [x_isPrim, bz_t (prim_ok hk)]
theorem m_alike0 {μ : Mm} {c d : Nat} (hc : c < 66) (hd : d < 66) (hn : ¬ ((μ.1 6 c = 1 ∨ μ.1 6 c = 2) ∧ (μ.1 6 d = 1 ∨ μ.1 6 d = 2))) : fX8_areAlike (nI c) (nI d) μ = some (bz (μ.1 6 c = μ.1 6 d ∧ (μ.1 6 c = 0 ∨ μ.2 8 c = μ.2 8 d)), μ) := by
  have i1 : inb (nI c) 66 = true := inb_nI hc (by decide)
  have i2 : inb (nI d) 66 = true := inb_nI hd (by decide)
  have key : fX8_areAlike_b44 (nI c) (nI d) μ = some (bz (μ.1 6 c = μ.1 6 d ∧ (μ.1 6 c = 0 ∨ μ.2 8 c = μ.2 8 d)), μ) := by
    unfold fX8_areAlike_b44 fX8_areAlike_b45
    rw [if_pos rfl, if_pos i1, if_pos i2, if_pos i1, if_pos i1, if_pos i2, cl (by omega), cl (by omega)]
    by_cases a1 : μ.1 6 c = μ.1 6 d
    · rw [if_pos a1]
      by_cases a2 : μ.1 6 c = 0
      · rw [if_pos a2, bz_t ⟨a1, Or.inl a2⟩]
      · rw [if_neg a2]
        by_cases a3 : μ.2 8 c = μ.2 8 d
        · rw [if_pos a3, bz_t ⟨a1, Or.inr a3⟩]
        · rw [if_neg a3, bz_f (fun z => by rcases z.2 with y | y; exact a2 y; exact a3 y)]
    · rw [if_neg a1, bz_f (fun z => a1 z.1)]
  unfold fX8_areAlike fX8_areAlike_b20
  rw [if_pos i1, if_pos i2, if_pos i1, if_pos i2, cl (by omega), cl (by omega), key]
  by_cases a1 : μ.1 6 c = 1
  · rw [if_pos a1, if_neg (fun z => hn ⟨Or.inl a1, Or.inl z⟩), if_neg (fun z => hn ⟨Or.inl a1, Or.inr z⟩)]
  · rw [if_neg a1]
    by_cases a2 : μ.1 6 c = 2
    · rw [if_pos a2, if_neg (fun z => hn ⟨Or.inr a2, Or.inl z⟩), if_neg (fun z => hn ⟨Or.inr a2, Or.inr z⟩)]
    · rw [if_neg a2]
theorem m_alike1 {μ : Mm} {c d : Nat} (hc : c < 66) (hd : d < 66) (h1 : μ.1 6 c = 1 ∨ μ.1 6 c = 2) (h2 : μ.1 6 d = 1 ∨ μ.1 6 d = 2) : fX8_areAlike (nI c) (nI d) μ = fX8_areAlike_b45 (nI c) (nI d) 1 μ := by
  have i1 : inb (nI c) 66 = true := inb_nI hc (by decide)
  have i2 : inb (nI d) 66 = true := inb_nI hd (by decide)
  have k : fX8_areAlike_b20 (nI c) (nI d) μ = fX8_areAlike_b45 (nI c) (nI d) 1 μ := by
    unfold fX8_areAlike_b20 fX8_areAlike_b40
    rw [if_pos i2, if_pos i2, cl (by omega)]
    rcases h2 with z | z
    · rw [if_pos z]
    · rw [if_neg (by rw [z]; decide), if_pos z]
  unfold fX8_areAlike
  rw [if_pos i1, if_pos i1, cl (by omega), k]
  rcases h1 with z | z
  · rw [if_pos z]
  · rw [if_neg (by rw [z]; decide), if_pos z]
theorem al_cell {μx μm : Mm} {mc r1 r2 i c d : Nat} (hmc : mc ≤ 20) (hr1 : r1 < 26) (hr2 : r2 < 26) (hi : i < 6) (hc : c < 66) (hd : d < 66)
    (h1 : It mc (μm.1 10) (μm.1 6 c) (μx.1 13 (6 * r1 + i)) (μx.2 14 (6 * r1 + i)) (μm.1 7 c) (μm.2 8 c)) (h2 : It mc (μm.1 10) (μm.1 6 d) (μx.1 13 (6 * r2 + i)) (μx.2 14 (6 * r2 + i)) (μm.1 7 d) (μm.2 8 d)) :
    ∃ (b : Bool) (μ' : Mm), fX5_agree (nI r1) (nI r2) (nI i) μx = some (bz (b = true)) ∧ fX8_areAlike (nI c) (nI d) μm = some (bz (b = true), μ') ∧ EqA μm μ' := by
  have xq : fX5_agree (nI r1) (nI r2) (nI i) μx = ((fX7_isPrimitive (μx.1 13 (6 * r1 + i))).bind fun r34 => (if r34 = 0 then fX5_agree_b48 μx (μx.1 13 (6 * r1 + i)) (μx.1 13 (6 * r2 + i)) (μx.2 14 (6 * r1 + i)) (μx.2 14 (6 * r2 + i)) else ((fX7_isPrimitive (μx.1 13 (6 * r2 + i))).bind fun r42 => (if r42 = 0 then fX5_agree_b48 μx (μx.1 13 (6 * r1 + i)) (μx.1 13 (6 * r2 + i)) (μx.2 14 (6 * r1 + i)) (μx.2 14 (6 * r2 + i)) else ((fX2_leastOfTwo (μx.1 13 (6 * r1 + i)) (μx.1 13 (6 * r2 + i))).bind fun r73 => (if r73 = (-9 : Int32) then some (0 : Int32) else ((fX2_widened (μx.2 14 (6 * r1 + i)) (μx.1 13 (6 * r1 + i)) r73).bind fun r91 => ((fX2_widened (μx.2 14 (6 * r2 + i)) (μx.1 13 (6 * r2 + i)) r73).bind fun r100 => (if r91 = r100 then some (1 : Int32) else some (0 : Int32)))))))))) := by
    unfold fX5_agree
    rw [bd (x_typeAt hr1 hi μx), bd (x_typeAt hr2 hi μx), bd (x_codeAt hr1 hi μx), bd (x_codeAt hr2 hi μx)]
  have b48 : fX5_agree_b48 μx (μx.1 13 (6 * r1 + i)) (μx.1 13 (6 * r2 + i)) (μx.2 14 (6 * r1 + i)) (μx.2 14 (6 * r2 + i)) = some (bz (μx.1 13 (6 * r1 + i) = μx.1 13 (6 * r2 + i) ∧ μx.2 14 (6 * r1 + i) = μx.2 14 (6 * r2 + i))) := by
    unfold fX5_agree_b48
    by_cases a1 : μx.1 13 (6 * r1 + i) = μx.1 13 (6 * r2 + i)
    · rw [if_pos a1]
      by_cases a2 : μx.2 14 (6 * r1 + i) = μx.2 14 (6 * r2 + i)
      · rw [if_pos a2, bz_t ⟨a1, a2⟩]
      · rw [if_neg a2, bz_f (fun z => a2 z.2)]
    · rw [if_neg a1, bz_f (fun z => a1 z.1)]
  rw [xq, b48]
  rcases it_prim h1 with ⟨g1, a, ha, t1, k1, v1, w1⟩ | ⟨f1, f2, f3, p1⟩
  · rcases it_prim h2 with ⟨g2, b, hb, t2, k2, v2, w2⟩ | ⟨f1', f2', f3', p1'⟩
    · rw [m_alike1 hc hd g1 g2, t1, t2, bd (x_prim1 ha), if_neg one_ne, bd (x_prim1 hb), if_neg one_ne]
      have i1 : inb (nI c) 66 = true := inb_nI hc (by decide)
      have i2 : inb (nI d) 66 = true := inb_nI hd (by decide)
      unfold fX8_areAlike_b45
      rw [if_neg one_ne, if_pos i1, if_pos i2, cl (by omega), cl (by omega), k1, k2, ← v1]
      obtain ⟨l1, l2⟩ := lm_two a ha b hb
      rw [l1]
      rcases l2 with l2 | ⟨k, hk, l2, l3, l4⟩
      · refine ⟨false, μm, ?_, ?_, EqA.rf⟩
        · rw [bd l2, if_pos rfl]; rfl
        · rw [bd l2, if_pos rfl]; rfl
      · obtain ⟨c1, y1, -, μ1, y2, y3⟩ := n_wid ha hk l3 w1 μm
        obtain ⟨c2, y4, -, μ2, y5, y6⟩ := n_wid hb hk l4 w2 μ1
        have z9 : ¬ nI k = -9 := (ty_ne k hk).1
        refine ⟨decide (c1 = c2), μ2, ?_, ?_, y3.tr y6⟩
        · rw [bd l2, if_neg z9, bd y1, bd y4]
          by_cases z : c1 = c2
          · rw [if_pos z, bz_t (decide_eq_true z)]
          · rw [if_neg z, bz_f (by rw [decide_eq_false z]; decide)]
        · rw [bd l2, if_neg z9, if_pos i1, if_pos i1, bn y2, if_pos i2, if_pos i2, y3.1 7 d (by omega), y3.2 8 d (by omega), k2, ← v2, bn y5]
          by_cases z : c1 = c2
          · rw [if_pos z, bz_t (decide_eq_true z)]
          · rw [if_neg z, bz_f (by rw [decide_eq_false z]; decide)]
    · rw [m_alike0 hc hd (fun z => by rcases z.2 with y | y; exact f1' y; exact f2' y), t1, bd (x_prim1 ha), if_neg one_ne, bd p1', if_pos rfl]
      refine ⟨false, μm, ?_, ?_, EqA.rf⟩
      · rw [bz_f (fun z => by
          have := z.1
          rw [← this, x_prim1 ha] at p1'
          exact absurd p1' (by decide))]
        rfl
      · rw [bz_f (fun z => by
          rcases g1 with y | y
          · exact f1' (z.1.symm.trans y)
          · exact f2' (z.1.symm.trans y))]
        rfl
  · rw [m_alike0 hc hd (fun z => by rcases z.1 with y | y; exact f1 y; exact f2 y), bd p1, if_pos rfl]
    rcases it_prim h2 with ⟨g2, b, hb, t2, k2, v2, w2⟩ | ⟨f1', f2', f3', p1'⟩
    · refine ⟨false, μm, ?_, ?_, EqA.rf⟩
      · rw [bz_f (fun z => by
          have := z.1
          rw [this, t2, x_prim1 hb] at p1
          exact absurd p1 (by decide))]
        rfl
      · rw [bz_f (fun z => by
          rcases g2 with y | y
          · exact f1 (z.1.trans y)
          · exact f2 (z.1.trans y))]
        rfl
    · have hs := it_same hmc h1 h2 ⟨fun z => absurd z f1, fun z => absurd z f1'⟩
      refine ⟨decide (μx.1 13 (6 * r1 + i) = μx.1 13 (6 * r2 + i) ∧ μx.2 14 (6 * r1 + i) = μx.2 14 (6 * r2 + i)), μm, ?_, ?_, EqA.rf⟩
      · congr 1
        exact bz_c decide_eq_true_iff.symm
      · congr 2
        apply bz_c
        rw [decide_eq_true_iff, hs]
        constructor
        · intro z
          refine ⟨z.1, ?_⟩
          rcases z.2 with y | y
          · exact Or.inl y
          · rcases f3 with w | w
            · exact Or.inl w
            · exact Or.inr ⟨y, Or.inl w⟩
        · intro z
          refine ⟨z.1, ?_⟩
          rcases z.2 with y | y
          · exact Or.inl y
          · exact Or.inr y.1
theorem al_loop {μx μm : Mm} {mc r1 r2 q1 q2 n1 n2 s : Nat} (hmc : mc ≤ 20) (hr1 : r1 < 26) (hr2 : r2 < 26) (hq1 : q1 < 11) (hq2 : q2 < 11) (h1 : n1 ≤ 6) (h2 : n2 ≤ 6) (hs1 : s ≤ n1) (hs2 : s ≤ n2)
    (x1 : μx.1 12 r1 = nI n1) (x2 : μx.1 12 r2 = nI n2) (m1 : μm.1 5 q1 = nI n1) (m2 : μm.1 5 q2 = nI n2)
    (c1 : ∀ i, i < n1 → It mc (μm.1 10) (μm.1 6 (6 * q1 + i)) (μx.1 13 (6 * r1 + i)) (μx.2 14 (6 * r1 + i)) (μm.1 7 (6 * q1 + i)) (μm.2 8 (6 * q1 + i)))
    (c2 : ∀ i, i < n2 → It mc (μm.1 10) (μm.1 6 (6 * q2 + i)) (μx.1 13 (6 * r2 + i)) (μx.2 14 (6 * r2 + i)) (μm.1 7 (6 * q2 + i)) (μm.2 8 (6 * q2 + i))) :
    ∀ m f i (μ : Mm), i + m = s → m < f → EqA μm μ → ∃ v μ', fX7_alike_b77 μx f (nI r1) (nI r2) (nI s) (nI i) = some v ∧ fX8_alike_b87 f (nI q1) (nI q2) (nI s) (nI i) μ = some (v, μ') ∧ EqA μm μ' := by
  intro m
  induction m with
  | zero =>
    intro f i μ he hf hE
    obtain ⟨f, rfl⟩ : ∃ g, f = g + 1 := ⟨f - 1, by omega⟩
    unfold fX7_alike_b77 fX8_alike_b87
    rw [if_pos (nI_le (by omega) (by omega)), if_pos (nI_le (by omega) (by omega)), if_pos (inb26 hr1), if_pos (inb26 hr2), if_pos (inb11 hq1), if_pos (inb11 hq2), cl (by omega), cl (by omega), cl (by omega), cl (by omega), hE.1 5 q1 (by omega), hE.1 5 q2 (by omega), x1, x2, m1, m2]
    by_cases z : nI n1 = nI n2
    · rw [if_pos z, if_pos z]; exact ⟨_, μ, rfl, rfl, hE⟩
    · rw [if_neg z, if_neg z]; exact ⟨_, μ, rfl, rfl, hE⟩
  | succ m ih =>
    intro f i μ he hf hE
    obtain ⟨f, rfl⟩ : ∃ g, f = g + 1 := ⟨f - 1, by omega⟩
    have e10 : μ.1 10 = μm.1 10 := funext fun k => hE.1 10 k (by omega)
    have k1 := c1 i (by omega)
    have k2 := c2 i (by omega)
    rw [← e10, ← hE.1 6 _ (by omega), ← hE.1 7 _ (by omega), ← hE.2 8 _ (by omega)] at k1 k2
    obtain ⟨b, μ', g1, g2, g3⟩ := al_cell (μm := μ) hmc hr1 hr2 (show i < 6 by omega) (show 6 * q1 + i < 66 by omega) (show 6 * q2 + i < 66 by omega) k1 k2
    unfold fX7_alike_b77 fX8_alike_b87
    rw [if_neg (nI_ge (by omega) (by omega)), if_neg (nI_ge (by omega) (by omega)), ix6', ix6', bd g1, bn g2, nI_1]
    cases b with
    | false =>
      rw [bz_f (by decide), if_pos rfl, if_pos rfl]
      exact ⟨_, μ', rfl, rfl, hE.tr g3⟩
    | true =>
      rw [bz_t rfl, if_neg one_ne, if_neg one_ne]
      exact ih f (i + 1) μ' (by omega) (by omega) (hE.tr g3)
theorem st_alike : St_alike Rel := by
  intro p1 p2 μx μm h
  have h0 := h
  obtain ⟨hT, hV, hR, mc, hM, hH, hC, hG⟩ := h
  rcases slot_cases p1 with hp | ⟨a, ha, rfl⟩
  · exact ⟨-1, μm, by unfold fX7_alike; rw [x_isSlot, bz_f hp]; rfl, by unfold fX8_alike; rw [m_isSlot, bz_f hp]; rfl, h0⟩
  have hs := slot_ok ha
  rcases slot_cases p2 with hp | ⟨b, hb, rfl⟩
  · exact ⟨-1, μm, by unfold fX7_alike; rw [x_isSlot, bz_t hs, bd rfl, if_neg one_ne, x_isSlot, bz_f hp]; rfl, by unfold fX8_alike; rw [m_isSlot, bz_t hs, bd rfl, if_neg one_ne, m_isSlot, bz_f hp]; rfl, h0⟩
  have hs2 := slot_ok hb
  obtain ⟨r1, t1, hr1, ht1, e1, e2, e3, hA⟩ := slotR hC ha
  obtain ⟨r2, t2, hr2, ht2, e1', e2', e3', hB⟩ := slotR hC hb
  rcases hA.symm with ⟨h13, m1, x1⟩ | ⟨h12, q1, n1, hq1, hn1, m1, m2, x1, m3, hce1⟩
  · refine ⟨-3, μm, ?_, ?_, h0⟩
    · unfold fX7_alike
      rw [x_isSlot, bz_t hs, bd rfl, if_neg one_ne, x_isSlot, bz_t hs2, bd rfl, if_neg one_ne, x_holds ha hr1 ht1 e1 e2, bz_f (by omega), bd rfl, if_pos rfl]
    · unfold fX8_alike
      rw [m_isSlot, bz_t hs, bd rfl, if_neg one_ne, m_isSlot, bz_t hs2, bd rfl, if_neg one_ne, m_holds ha ht1 e3, bz_f (by omega), bd rfl, if_pos rfl]
  rcases hB.symm with ⟨h13, m1', x1'⟩ | ⟨h12', q2, n2, hq2, hn2, m1', m2', x1', m3', hce2⟩
  · refine ⟨-3, μm, ?_, ?_, h0⟩
    · unfold fX7_alike
      rw [x_isSlot, bz_t hs, bd rfl, if_neg one_ne, x_isSlot, bz_t hs2, bd rfl, if_neg one_ne, x_holds ha hr1 ht1 e1 e2, bz_t h12, bd rfl, if_neg one_ne, x_holds hb hr2 ht2 e1' e2', bz_f (by omega), bd rfl, if_pos rfl]
    · unfold fX8_alike
      rw [m_isSlot, bz_t hs, bd rfl, if_neg one_ne, m_isSlot, bz_t hs2, bd rfl, if_neg one_ne, m_holds ha ht1 e3, bz_t h12, bd rfl, if_neg one_ne, m_holds hb ht2 e3', bz_f (by omega), bd rfl, if_pos rfl]
  have loop := fun s hs1 hs2 => al_loop (s := s) hM.1 hr1 hr2 hq1 hq2 hn1 hn2 hs1 hs2 x1 x1' m3 m3' (fun i hi => (hce1 i hi).2.2) (fun i hi => (hce2 i hi).2.2) s 100 0 μm (by omega) (by omega) EqA.rf
  have xpre : fX7_alike (nI a) (nI b) μx = ((fJ9_min_7cf53 (nI n1) (nI n2)).bind fun r69 => fX7_alike_b77 μx 100 (nI r1) (nI r2) r69 (0 : Int32)) := by
    unfold fX7_alike
    rw [x_isSlot, bz_t hs, bd rfl, if_neg one_ne, x_isSlot, bz_t hs2, bd rfl, if_neg one_ne, x_holds ha hr1 ht1 e1 e2, bz_t h12, bd rfl, if_neg one_ne, x_holds hb hr2 ht2 e1' e2', bz_t h12', bd rfl, if_neg one_ne, if_pos (inb10 ha), if_pos (inb10 hb), cl (by omega), cl (by omega), e1, e1', if_pos (inb26 hr1), if_pos (inb26 hr2), cl (by omega), cl (by omega), x1, x1']
  have mpre : fX8_alike (nI a) (nI b) μm = (if nI n2 ≤ nI n1 then fX8_alike_b87 100 (nI q1) (nI q2) (nI n2) 0 μm else fX8_alike_b87 100 (nI q1) (nI q2) (nI n1) 0 μm) := by
    unfold fX8_alike
    rw [m_isSlot, bz_t hs, bd rfl, if_neg one_ne, m_isSlot, bz_t hs2, bd rfl, if_neg one_ne, m_holds ha ht1 e3, bz_t h12, bd rfl, if_neg one_ne, m_holds hb ht2 e3', bz_t h12', bd rfl, if_neg one_ne, if_pos (inb10 ha), if_pos (inb10 hb), cl (by omega), cl (by omega), m1, m1', if_pos (inb11 hq1), if_pos (inb11 hq2), if_pos (inb11 hq1), if_pos (inb11 hq2), cl (by omega), cl (by omega), m3, m3']
    rfl
  rw [xpre, mpre]
  unfold fJ9_min_7cf53
  by_cases z : n2 < n1
  · rw [if_pos (nI_lt z (by omega)), if_pos (nI_le (by omega) (by omega))]
    obtain ⟨v, μ', g1, g2, g3⟩ := loop n2 (by omega) (by omega)
    exact ⟨v, μ', g1, g2, h0.eqA g3⟩
  · rw [if_neg (nI_nlt (by omega) (by omega))]
    by_cases y : n2 = n1
    · subst y
      rw [if_pos (nI_le (by omega) (by omega))]
      obtain ⟨v, μ', g1, g2, g3⟩ := loop n2 (by omega) (by omega)
      exact ⟨v, μ', g1, g2, h0.eqA g3⟩
    · rw [if_neg (nI_ge (by omega) (by omega))]
      obtain ⟨v, μ', g1, g2, g3⟩ := loop n1 (by omega) (by omega)
      exact ⟨v, μ', g1, g2, h0.eqA g3⟩
