/-! convert, 2 -/
theorem br1_c : ∀ t, t < 13 → ∀ k, k < 8 → (br1 (nI t) (nI k) = some 0 ∧ t < 8 ∧ fX8_widens (nI k) (nI t) = some 1) ∨ br1 (nI t) (nI k) = some 2 ∨ br1 (nI t) (nI k) = some 4 := by decide +kernel
/-- got and put -/
theorem cv_get {μx μm : Mm} {mc r1 r2 q1 q2 t1 t2 i : Nat} {how : Int32} (hr1 : r1 < 26) (hr2 : r2 < 26) (hq1 : q1 < 11) (hq2 : q2 < 11) (ht1 : t1 ≤ 12) (ht2 : t2 ≤ 12) (hi : i < 6) (e1 : μx.1 11 r1 = nI t1) (e2 : μx.1 11 r2 = nI t2) (m1 : μm.1 4 q1 = nI t1) (m2 : μm.1 4 q2 = nI t2)
    (hc : Ce mc (μm.1 10) t1 (μx.1 13 (6 * r1 + i)) (μx.2 14 (6 * r1 + i)) (μm.1 6 (6 * q1 + i)) (μm.1 7 (6 * q1 + i)) (μm.2 8 (6 * q1 + i))) (hh : how = 0 ∨ how = 1) : CvS μx μm mc r1 r2 q1 q2 t2 i how := by
  obtain ⟨own, hown, ho13⟩ : ∃ own, own = (if how = 0 then t1 else t2) ∧ own < 13 := ⟨_, rfl, by split <;> omega⟩
  obtain ⟨k, hk, hk8⟩ : ∃ k, k = (if own < 8 then own else 4) ∧ k < 8 := ⟨_, rfl, by split <;> omega⟩
  have h1 : ¬ (1 : Int32) < how := by rcases hh with rfl | rfl <;> decide
  have h2 : ¬ (2 : Int32) ≤ how := by rcases hh with rfl | rfl <;> decide
  have h3 : ¬ how = 3 := by rcases hh with rfl | rfl <;> decide
  have ib : inb (nI (6 * q1 + i)) 66 = true := inb_nI (show 6 * q1 + i < 66 by omega) (by decide)
  have hcl : (nI (6 * q1 + i)).toNatClampNeg = 6 * q1 + i := cl (by omega)
  have xpre : fX7_convertReason (nI r1) (nI r2) (nI i) how μx = fX7_convertReason_b67 μx (nI t1) (nI t2) (nI k) := by
    have hb51 : fX7_convertReason_b51 μx (nI t1) (nI t2) (nI own) = fX7_convertReason_b67 μx (nI t1) (nI t2) (nI k) := by
      have hp : fX7_isPrimitive (nI own) = some (if own < 8 then 1 else 0) := by
        have g : ∀ t, t < 13 → fX7_isPrimitive (nI t) = some (if t < 8 then 1 else 0) := by decide +kernel
        exact g own ho13
      unfold fX7_convertReason_b51
      rw [bd hp, hk]
      by_cases z : own < 8
      · rw [if_pos z, if_neg one_ne, if_pos z]
      · rw [if_neg z, if_pos rfl, if_neg z]
        rfl
    rw [← hb51, hown]
    unfold fX7_convertReason
    rw [if_pos (inb26 hr1), if_pos (inb26 hr2), bd (x_typeAt hr1 hi μx), if_neg h1, cl (show r1 < 1000 by omega), cl (show r2 < 1000 by omega), e1, e2]
    by_cases z : how = 0
    · rw [if_pos z, if_pos z]
    · rw [if_neg z, if_neg z]
  have mpre : fX8_convertCell (nI q1) (nI q2) (nI i) how μm = fX8_convertCell_b50 (nI q1) (nI i) how (nI t1) (nI t2) (nI k) μm := by
    have hb34 : fX8_convertCell_b34 (nI q1) (nI i) how (nI t1) (nI t2) (nI own) μm = fX8_convertCell_b50 (nI q1) (nI i) how (nI t1) (nI t2) (nI k) μm := by
      unfold fX8_convertCell_b34
      rw [bd (pl_c own ho13), hk]
      by_cases z : own < 8
      · rw [if_pos z, if_neg one_ne, if_pos z]
      · rw [if_neg z, if_pos rfl, if_neg z]
        rfl
    rw [← hb34, hown]
    unfold fX8_convertCell
    rw [if_pos (inb11 hq1), if_pos (inb11 hq2), if_neg h2, cl (show q1 < 1000 by omega), cl (show q2 < 1000 by omega), m1, m2]
    by_cases z : how = 0
    · rw [if_pos z, if_pos z]
    · rw [if_neg z, if_neg z]
  have hgf := fit_get t1 (by omega) k hk8
  have hnotfine : ∀ ρ : Int32, ¬ ρ = 0 → fX8_takeFrom (nI t1) (nI k) = some ρ → CvS μx μm mc r1 r2 q1 q2 t2 i how := by
    intro ρ h0 hρ
    refine ⟨ρ, μm, ?_, ?_, EqM.rf, fun z => absurd z h0⟩
    · rw [xpre]
      unfold fX7_convertReason_b67
      rw [hgf, bd hρ, if_neg h0]
    · rw [mpre]
      unfold fX8_convertCell_b50
      rw [bd hρ, if_neg h0]
  rcases tf_cases t1 (by omega) k hk8 with ⟨z, ht8, hw⟩ | z | z
  · obtain ⟨v1, v2, v3, v4, v5⟩ := hc.val ht8
    obtain ⟨c1, w1, w2, μ97, w3, w4⟩ := n_wid ht8 hk8 hw v5 (wI (wI μm 0 37 1) 0 38 (nI k))
    have hE : EqM μm (wL μ97 0 39 c1) := (((EqM.rf.wI rfl).wI rfl).tr w4.m).wL (by omega)
    have g37 : (wL μ97 0 39 c1).1 0 37 = 1 := (w4.1 0 37 (by decide))
    have g38 : (wL μ97 0 39 c1).1 0 38 = nI k := (w4.1 0 38 (by decide))
    have g39 : (wL μ97 0 39 c1).2 0 39 = c1 := by rw [wL_2, if_pos ⟨rfl, rfl⟩]
    have hmv : (wI (wI μm 0 37 1) 0 38 (nI k)).2 8 (6 * q1 + i) = μx.2 14 (6 * r1 + i) := v3.symm
    have hcell : fX8_convertCell (nI q1) (nI q2) (nI i) how μm = (br1 (nI t2) (nI k)).bind fun r => some (r, wL μ97 0 39 c1) := by
      rw [mpre]
      unfold fX8_convertCell_b50
      rw [bd z, if_pos rfl, ix6', if_pos ib, hcl, hmv, bn w3]
      unfold fX8_convertCell_b112 fX8_convertCell_b150 fX8_convertCell_b151
      rw [if_neg h3, if_pos rfl, g37, g38, g39, m_bring1]
    have hreason : fX7_convertReason (nI r1) (nI r2) (nI i) how μx = (br1 (nI t2) (nI k)).bind fun r => some r := by
      rw [xpre]
      unfold fX7_convertReason_b67
      rw [hgf, bd z, if_pos rfl, fit_put1 t2 (by omega) k hk8]
    rcases br1_c t2 (by omega) k hk8 with ⟨y, t28, hkt⟩ | y | y
    · have hw12 : fX8_widens (nI t1) (nI t2) = some 1 := by
        rcases wid_t t1 ht8 k hk8 t2 t28 with u | u | u
        · exact absurd hw u
        · exact absurd hkt u
        · exact u
      obtain ⟨c', u1, u2, -⟩ := n_wid ht8 t28 hw12 v5 μ0M
      have hkcase : (k = t1 ∧ c1 = μx.2 14 (6 * r1 + i)) ∨ (k = t2 ∧ c1 = c') := by
        rcases hh with rfl | rfl
        · left
          rw [if_pos rfl] at hown
          subst hown
          rw [if_pos ht8] at hk
          subst hk
          refine ⟨rfl, ?_⟩
          rw [wid_self] at w1
          exact (Option.some.inj w1).symm
        · right
          rw [if_neg (by decide)] at hown
          subst hown
          rw [if_pos t28] at hk
          subst hk
          refine ⟨rfl, ?_⟩
          rw [u1] at w1
          exact (Option.some.inj w1).symm
      have hpc : ptC t2 (μx.1 13 (6 * r1 + i)) (μx.2 14 (6 * r1 + i)) = c' := by
        unfold ptC
        rw [if_pos t28, v1, u1]
        rfl
      refine ⟨0, wL μ97 0 39 c1, by rw [hreason, bd y], by rw [hcell, bd y], hE, fun _ => ⟨nI t2, c', 1, nI t2, c', ⟨fun _ => ⟨rfl, rfl⟩, fun z => absurd z (by omega), Or.inr (Or.inl ⟨Or.inl rfl, rfl, rfl, t2, t28, rfl, u2⟩)⟩, fun μx' y1 y2 y3 => ?_, fun μ2 y1 y2 y3 y4 => ?_⟩⟩
      · have := ce_put (how := how) hr1 hr2 ht2 hi y1 y2 y3 (fun _ => ⟨c', by rw [v1]; exact u1⟩) (fun q => absurd q h3)
        rw [hpc] at this
        unfold ptT at this
        rw [if_pos t28] at this
        exact this
      · rw [y1, y2, y3, g37, g38, g39]
        rcases hkcase with ⟨q, hq⟩ | ⟨q, hq⟩
        · subst q
          rw [hq]
          exact m_put8 hq2 t28 hi hk8 y4 hkt v5 u1 1
        · subst q
          rw [hq]
          exact m_put8 hq2 t28 hi hk8 y4 hkt u2 (wid_self c' k) 1
    · exact ⟨2, wL μ97 0 39 c1, by rw [hreason, bd y], by rw [hcell, bd y], hE, fun q => absurd q (by decide)⟩
    · exact ⟨4, wL μ97 0 39 c1, by rw [hreason, bd y], by rw [hcell, bd y], hE, fun q => absurd q (by decide)⟩
  · exact hnotfine 2 (by decide) z
  · exact hnotfine 4 (by decide) z
/-- the cells of a slot's array, from the relation -/
theorem row_ce {μx μm : Mm} {mc a r q t n : Nat} (hC : RCo μx μm mc) (ha : a < 10) (hr : r < 26) (hq : q < 11) (ht : t ≤ 12) (hn : n ≤ 6) (e1 : μx.1 6 a = nI r) (m1 : μm.1 3 a = nI q) (e2 : μx.1 11 r = nI t) (x1 : μx.1 12 r = nI n) : μm.1 4 q = nI t ∧ μm.1 5 q = nI n ∧ ∀ i, i < n → Ce mc (μm.1 10) t (μx.1 13 (6 * r + i)) (μx.2 14 (6 * r + i)) (μm.1 6 (6 * q + i)) (μm.1 7 (6 * q + i)) (μm.2 8 (6 * q + i)) := by
  obtain ⟨r', t', hr', ht', a1, a2, a3, hA⟩ := slotR hC ha
  have z1 : r' = r := (nI_eq (by omega) (by omega)).mp (a1.symm.trans e1)
  subst z1
  have z2 : t' = t := (nI_eq (by omega) (by omega)).mp (a2.symm.trans e2)
  subst z2
  rcases hA with ⟨h12, q', n', hq', hn', b1, b2, b3, b4, hce⟩ | ⟨h13, -, -⟩
  · have z3 : q' = q := (nI_eq (by omega) (by omega)).mp (b1.symm.trans m1)
    subst z3
    have z4 : n' = n := (nI_eq (by omega) (by omega)).mp (b3.symm.trans x1)
    subst z4
    exact ⟨b2, b4, hce⟩
  · omega
theorem Rq.rep {μx μm : Mm} {mc : Nat} (h : Rq μx μm mc) (i : Nat) (ρ : Int32) : Rq (wI μx 7 i ρ) (wI μm 11 i ρ) mc :=
  ⟨h.1, h.2.1, h.2.2.1, h.2.2.2.1, h.2.2.2.2.1, RLg_c h.2.2.2.2.2 rfl rfl rfl rfl rfl rfl rfl rfl rfl rfl rfl rfl rfl rfl rfl rfl rfl rfl rfl rfl rfl rfl rfl rfl rfl rfl⟩
theorem Rq.cnt {μx μm : Mm} {mc : Nat} (h : Rq μx μm mc) (s : Int32) : Rq (wI μx 0 7 s) (wI μm 0 16 s) mc :=
  ⟨h.1, h.2.1, h.2.2.1, h.2.2.2.1, h.2.2.2.2.1, RLg_c h.2.2.2.2.2 rfl rfl rfl rfl rfl rfl rfl rfl rfl rfl rfl rfl rfl rfl rfl rfl rfl rfl rfl rfl rfl rfl rfl rfl rfl rfl⟩
theorem cv_loop {mc a b r1 r2 q1 q2 t1 t2 n1 n2 s : Nat} {how : Int32} (ha : a < 10) (hb : b < 10) (hr1 : r1 < 26) (hr2 : r2 < 26) (hq1 : q1 < 11) (hq2 : q2 < 11) (ht1 : t1 ≤ 12) (ht2 : t2 ≤ 12) (hn1 : n1 ≤ 6) (hn2 : n2 ≤ 6) (hs1 : s ≤ n1) (hs2 : s ≤ n2) (hh : how = 0 ∨ how = 1 ∨ how = 2 ∨ how = 3) :
    ∀ m f i φ (μx μm : Mm), i + m = s → m < f → φ ≤ i → Rq μx μm mc → (φ = 0 ∨ LA r2 μx) → μx.1 6 a = nI r1 → μx.1 6 b = nI r2 → μm.1 3 a = nI q1 → μm.1 3 b = nI q2 → μx.1 11 r1 = nI t1 → μx.1 11 r2 = nI t2 → μx.1 12 r1 = nI n1 → μx.1 12 r2 = nI n2 → μx.1 0 7 = nI s → μm.1 0 16 = nI s → (∀ j, j < i → μx.1 7 j = μm.1 11 j) →
    ∃ v μx' μm', fX7_convert_b96 f how (nI r1) (nI r2) (nI φ) (nI i) μx = some (v, μx') ∧ fX8_convert_b114 f how (nI q1) (nI q2) (nI s) (nI φ) (nI i) μm = some (v, μm') ∧ Rel μx' μm' := by
  intro m
  induction m with
  | zero =>
    intro f i φ μx μm he hf hφ hR hL e1 e1' m1 m1' e2 e2' x1 x1' c1 c2 hP
    obtain ⟨f, rfl⟩ : ∃ g, f = g + 1 := ⟨f - 1, by omega⟩
    have : i = s := by omega
    subst this
    refine ⟨nI φ, μx, μm, ?_, ?_, hR.rel ⟨i, by omega, c1, c2, hP⟩⟩
    · unfold fX7_convert_b96
      rw [c1, if_pos (nI_le (by omega) (by omega))]
    · unfold fX8_convert_b114
      rw [if_pos (nI_le (by omega) (by omega))]
  | succ m ih =>
    intro f i φ μx μm he hf hφ hR hL e1 e1' m1 m1' e2 e2' x1 x1' c1 c2 hP
    obtain ⟨f, rfl⟩ : ∃ g, f = g + 1 := ⟨f - 1, by omega⟩
    have hmc : mc ≤ 20 := hR.2.2.1.1
    obtain ⟨k4, k5, hce1⟩ := row_ce hR.2.2.2.2.1 ha hr1 hq1 ht1 hn1 e1 m1 e2 x1
    obtain ⟨k4', k5', hce2⟩ := row_ce hR.2.2.2.2.1 hb hr2 hq2 ht2 hn2 e1' m1' e2' x1'
    have i6 : inb (nI i) 6 = true := inb_nI (show i < 6 by omega) (by decide)
    have hst : CvS μx μm mc r1 r2 q1 q2 t2 i how := by
      rcases hh with h | h | h | h
      · exact cv_get hr1 hr2 hq1 hq2 ht1 ht2 (by omega) e2 e2' k4 k4' (hce1 i (by omega)) (Or.inl h)
      · exact cv_get hr1 hr2 hq1 hq2 ht1 ht2 (by omega) e2 e2' k4 k4' (hce1 i (by omega)) (Or.inr h)
      · exact cv_fetch hmc hr1 hr2 hq1 hq2 ht2 (by omega) e2' k4' (hce1 i (by omega)) (Or.inl h)
      · exact cv_fetch hmc hr1 hr2 hq1 hq2 ht2 (by omega) e2' k4' (hce1 i (by omega)) (Or.inr h)
    obtain ⟨ρ, μ1, s1, s2, s3, s4⟩ := hst
    have hR1 : Rq (wI μx 7 i ρ) (wI μ1 11 i ρ) mc := (hR.eqM s3).rep i ρ
    have u3 : μ1.1 3 = μm.1 3 := funext fun k => s3.1 3 k rfl
    have u11 : μ1.1 11 = μm.1 11 := funext fun k => s3.1 11 k rfl
    have u16 : μ1.1 0 16 = μm.1 0 16 := s3.1 0 16 rfl
    have hP1 : ∀ j, j < i + 1 → (wI μx 7 i ρ).1 7 j = (wI μ1 11 i ρ).1 11 j := by
      intro j hj
      show (if 7 = 7 ∧ j = i then ρ else μx.1 7 j) = if 11 = 11 ∧ j = i then ρ else μ1.1 11 j
      by_cases z : j = i
      · rw [if_pos ⟨rfl, z⟩, if_pos ⟨rfl, z⟩]
      · rw [if_neg (fun y => z y.2), if_neg (fun y => z y.2), u11]
        exact hP j (by omega)
    have z11 : (wI μ1 11 i ρ).1 11 i = ρ := by rw [wI_1, if_pos ⟨rfl, rfl⟩]
    unfold fX7_convert_b96 fX8_convert_b114
    rw [c1, if_neg (nI_ge (by omega) (by omega)), if_neg (nI_ge (by omega) (by omega)), bd s1, bn s2, if_pos i6, if_pos i6, if_pos i6, cl (show i < 1000 by omega), z11]
    by_cases h0 : ρ = 0
    · obtain ⟨xt', xc', f', mk', mv', p1, p2, p3⟩ := s4 h0
      -- the element is changed, over memories that have kept the cells
      have go : ∀ (μxa μma : Mm), Rq μxa μma mc → LA r2 μxa → (∀ o, o ∉ [3, 15, 16, 17, 18, 19] → μxa.1 o = (wI μx 7 i ρ).1 o) → (∀ o, o ≠ 20 → μxa.2 o = μx.2 o) → (∀ o, o ∈ [3, 4] → μma.1 o = μ1.1 o) → μma.1 10 = μ1.1 10 → μma.1 11 = (wI μ1 11 i ρ).1 11 → (∀ k, k ≠ 26 → k ≠ 27 → μma.1 0 k = μ1.1 0 k) → μma.2 0 = μ1.2 0 →
          ∃ v μx' μm', fX7_convert_b150 (fX7_convert_b96 f) how (nI r1) (nI r2) (nI φ) (nI i) μxa = some (v, μx') ∧ fX8_convert_b158 (fX8_convert_b114 f) how (nI q1) (nI q2) (nI s) (nI φ) (nI i) μma = some (v, μm') ∧ Rel μx' μm' := by
        intro μxa μma hRa hLa a5 a6 a7 a8 a9 a10 a11
        have y13 : μxa.1 13 (6 * r1 + i) = μx.1 13 (6 * r1 + i) := by rw [a5 13 (by decide)]; rfl
        have y14 : μxa.2 14 (6 * r1 + i) = μx.2 14 (6 * r1 + i) := by rw [a6 14 (by decide)]
        have y11 : μxa.1 11 = μx.1 11 := by rw [a5 11 (by decide)]; rfl
        have y12 : μxa.1 12 = μx.1 12 := by rw [a5 12 (by decide)]; rfl
        have y6 : μxa.1 6 = μx.1 6 := by rw [a5 6 (by decide)]; rfl
        have y0 : μxa.1 0 = μx.1 0 := by rw [a5 0 (by decide)]; rfl
        have y7 : μxa.1 7 = (wI μx 7 i ρ).1 7 := a5 7 (by decide)
        have w3 : μma.1 3 = μm.1 3 := (a7 3 (by decide)).trans u3
        have w4 : μma.1 4 q2 = nI t2 := by rw [a7 4 (by decide), s3.1 4 q2 rfl]; exact k4'
        have w10 : μma.1 10 = μm.1 10 := a8.trans (funext fun k => s3.1 10 k rfl)
        obtain ⟨μ3, p4, p5⟩ := p3 μma (a10 37 (by decide) (by decide)) (a10 38 (by decide) (by decide)) (by rw [a11]) w4
        have p6 := p2 μxa y13 y14 (by rw [y11]; exact e2')
        obtain ⟨d1, d2⟩ := set_cell (i := i) hRa hLa hb hr2 hq2 ht2 hn2 (show i < 6 by omega) (by rw [y6]; exact e1') (by rw [w3]; exact m1') (by rw [y11]; exact e2') (by rw [w10]; exact p1) p5
        have v3 : μ3.1 3 = μma.1 3 := funext fun k => by rw [p5.1 3 k rfl, if_neg (by omega), if_neg (by omega)]
        have v16 : μ3.1 0 16 = μma.1 0 16 := by rw [p5.1 0 16 rfl, if_neg (by omega), if_neg (by omega)]
        have v11 : μ3.1 11 = μma.1 11 := funext fun k => by rw [p5.1 11 k rfl, if_neg (by omega), if_neg (by omega)]
        obtain ⟨v, μx', μm', g1, g2, g3⟩ := ih f (i + 1) (φ + 1) (wL (wI μxa 13 (6 * r2 + i) xt') 14 (6 * r2 + i) xc') μ3 (by omega) (by omega) (by omega) d1 (Or.inr d2) (show μxa.1 6 a = nI r1 by rw [y6]; exact e1) (show μxa.1 6 b = nI r2 by rw [y6]; exact e1') (by rw [v3, w3]; exact m1) (by rw [v3, w3]; exact m1') (show μxa.1 11 r1 = nI t1 by rw [y11]; exact e2) (show μxa.1 11 r2 = nI t2 by rw [y11]; exact e2') (show μxa.1 12 r1 = nI n1 by rw [y12]; exact x1) (show μxa.1 12 r2 = nI n2 by rw [y12]; exact x1') (show μxa.1 0 7 = nI s by rw [y0]; exact c1) (by rw [v16, a10 16 (by decide) (by decide), u16]; exact c2) (fun j hj => by
          show μxa.1 7 j = μ3.1 11 j
          rw [y7, v11, a9]
          exact hP1 j hj)
        refine ⟨v, μx', μm', ?_, ?_, g3⟩
        · unfold fX7_convert_b150 fX7_convert_b164
          rw [bd p6, nI_1, nI_1]
          exact g1
        · unfold fX8_convert_b158 fX8_convert_b181
          rw [bd p4, nI_1, nI_1]
          exact g2
      rw [if_pos h0, if_pos h0]
      by_cases hφ0 : φ = 0
      · have f0 : nI φ = 0 := by rw [hφ0]; rfl
        obtain ⟨μx2, μm2, b1, b2, b3, b4, b5, b6, b7, b8, b9, b10, b11⟩ := act_cells hR1 hr2
        rw [if_pos f0, if_pos f0, bd b1, bd b2]
        exact go μx2 μm2 b3 b4 b5 b6 (fun o ho => by
          simp only [List.mem_cons, List.not_mem_nil, or_false] at ho
          rcases ho with rfl | rfl
          · exact b7 3 (by decide)
          · exact b7 4 (by decide)) b8 b9 (fun k k1 k2 => b10 k k1 k2) (b11 0 (by decide))
      · have f0 : ¬ nI φ = 0 := nI_ne (b := 0) (by omega) (by decide) hφ0
        rw [if_neg f0, if_neg f0]
        have hLA : LA r2 (wI μx 7 i ρ) := by
          rcases hL with z | z
          · exact absurd z hφ0
          · exact z
        exact go (wI μx 7 i ρ) (wI μ1 11 i ρ) hR1 hLA (fun o _ => rfl) (fun o _ => rfl) (fun o ho => by
          simp only [List.mem_cons, List.not_mem_nil, or_false] at ho
          rcases ho with rfl | rfl <;> rfl) rfl rfl (fun k _ _ => rfl) rfl
    · rw [if_neg h0, if_neg h0]
      unfold fX7_convert_b164 fX8_convert_b181
      rw [nI_1]
      exact ih f (i + 1) φ (wI μx 7 i ρ) (wI μ1 11 i ρ) (by omega) (by omega) (by omega) hR1 hL e1 e1' (show μ1.1 3 a = nI q1 by rw [u3]; exact m1) (show μ1.1 3 b = nI q2 by rw [u3]; exact m1') e2 e2' x1 x1' c1 (show μ1.1 0 16 = nI s by rw [u16]; exact c2) hP1
theorem st_convert : St_convert Rel := by
  intro p1 p2 p3 μx μm h
  have h0 := h
  obtain ⟨hRp, mc, hq⟩ := h.q
  have hq0 := hq
  obtain ⟨hT, hV, hM, hH, hC, hG⟩ := hq
  have hin : fX8_in (Int32.toInt64 p3) 0 3 = _ := in32 p3 0 3
  rcases slot_cases p1 with hp | ⟨a, ha, rfl⟩
  · exact ⟨-1, μx, μm, by unfold fX7_convert; rw [x_isSlot, bz_f hp]; rfl, by unfold fX8_convert; rw [m_isSlot, bz_f hp]; rfl, h0⟩
  have hs := slot_ok ha
  rcases slot_cases p2 with hp | ⟨b, hb, rfl⟩
  · exact ⟨-1, μx, μm, by unfold fX7_convert; rw [x_isSlot, bz_t hs, bd rfl, if_neg one_ne, x_isSlot, bz_f hp]; rfl, by unfold fX8_convert; rw [m_isSlot, bz_t hs, bd rfl, if_neg one_ne, m_isSlot, bz_f hp]; rfl, h0⟩
  have hs2 := slot_ok hb
  obtain ⟨r1, t1, hr1, ht1, e1, e2, e3, hA⟩ := slotR hC ha
  obtain ⟨r2, t2, hr2, ht2, e1', e2', e3', hA2⟩ := slotR hC hb
  rcases hA.symm with ⟨h13, m1, x1⟩ | ⟨h12, q1, n1, hq1, hn1, m1, m2, x1, m3, hce1⟩
  · refine ⟨-3, μx, μm, ?_, ?_, h0⟩
    · unfold fX7_convert
      rw [x_isSlot, bz_t hs, bd rfl, if_neg one_ne, x_isSlot, bz_t hs2, bd rfl, if_neg one_ne, x_holds ha hr1 ht1 e1 e2, bz_f (by omega), bd rfl, if_pos rfl]
    · unfold fX8_convert
      rw [m_isSlot, bz_t hs, bd rfl, if_neg one_ne, m_isSlot, bz_t hs2, bd rfl, if_neg one_ne, m_holds ha ht1 e3, bz_f (by omega), bd rfl, if_pos rfl]
  rcases hA2.symm with ⟨h13, m1', x1'⟩ | ⟨h12', q2, n2, hq2, hn2, m1', m2', x1', m3', hce2⟩
  · refine ⟨-3, μx, μm, ?_, ?_, h0⟩
    · unfold fX7_convert
      rw [x_isSlot, bz_t hs, bd rfl, if_neg one_ne, x_isSlot, bz_t hs2, bd rfl, if_neg one_ne, x_holds ha hr1 ht1 e1 e2, bz_t h12, bd rfl, if_neg one_ne, x_holds hb hr2 ht2 e1' e2', bz_f (by omega), bd rfl, if_pos rfl]
    · unfold fX8_convert
      rw [m_isSlot, bz_t hs, bd rfl, if_neg one_ne, m_isSlot, bz_t hs2, bd rfl, if_neg one_ne, m_holds ha ht1 e3, bz_t h12, bd rfl, if_neg one_ne, m_holds hb ht2 e3', bz_f (by omega), bd rfl, if_pos rfl]
  rcases rng p3 3 (n := 3) rfl with hp3 | ⟨w, hw, rfl⟩
  · refine ⟨-2, μx, μm, ?_, ?_, h0⟩
    · unfold fX7_convert
      rw [x_isSlot, bz_t hs, bd rfl, if_neg one_ne, x_isSlot, bz_t hs2, bd rfl, if_neg one_ne, x_holds ha hr1 ht1 e1 e2, bz_t h12, bd rfl, if_neg one_ne, x_holds hb hr2 ht2 e1' e2', bz_t h12', bd rfl, if_neg one_ne]
      rcases not_rng hp3 with z | ⟨z, z2⟩
      · rw [if_pos z]
      · rw [if_neg z, if_neg z2]
    · unfold fX8_convert
      rw [m_isSlot, bz_t hs, bd rfl, if_neg one_ne, m_isSlot, bz_t hs2, bd rfl, if_neg one_ne, m_holds ha ht1 e3, bz_t h12, bd rfl, if_neg one_ne, m_holds hb ht2 e3', bz_t h12', bd rfl, if_neg one_ne, hin, bz_f hp3, bd rfl, if_pos rfl]
  have hp3 := rng_ok (M := 3) (n := 3) rfl (by decide) hw
  have xpre : fX7_convert (nI a) (nI b) (nI w) μx = ((fJ9_min_7cf53 (nI n1) (nI n2)).bind fun r87 => fX7_convert_b96 100 (nI w) (nI r1) (nI r2) (0 : Int32) (0 : Int32) (wI μx 0 7 r87)) := by
    unfold fX7_convert
    rw [x_isSlot, bz_t hs, bd rfl, if_neg one_ne, x_isSlot, bz_t hs2, bd rfl, if_neg one_ne, x_holds ha hr1 ht1 e1 e2, bz_t h12, bd rfl, if_neg one_ne, x_holds hb hr2 ht2 e1' e2', bz_t h12', bd rfl, if_neg one_ne, if_neg (Int32.not_lt.mpr hp3.1), if_pos hp3.2, if_pos (inb10 ha), if_pos (inb10 hb), cl (show a < 1000 by omega), cl (show b < 1000 by omega), e1, e1', if_pos (inb26 hr1), if_pos (inb26 hr2), cl (show r1 < 1000 by omega), cl (show r2 < 1000 by omega), x1, x1']
  have mpre : fX8_convert (nI a) (nI b) (nI w) μm = (if nI n2 ≤ nI n1 then fX8_convert_b114 100 (nI w) (nI q1) (nI q2) (nI n2) 0 0 (wI μm 0 16 (nI n2)) else fX8_convert_b114 100 (nI w) (nI q1) (nI q2) (nI n1) 0 0 (wI μm 0 16 (nI n1))) := by
    unfold fX8_convert
    rw [m_isSlot, bz_t hs, bd rfl, if_neg one_ne, m_isSlot, bz_t hs2, bd rfl, if_neg one_ne, m_holds ha ht1 e3, bz_t h12, bd rfl, if_neg one_ne, m_holds hb ht2 e3', bz_t h12', bd rfl, if_neg one_ne, hin, bz_t hp3, bd rfl, if_neg one_ne, if_pos (inb10 ha), if_pos (inb10 hb), cl (show a < 1000 by omega), cl (show b < 1000 by omega), m1, m1', if_pos (inb11 hq1), if_pos (inb11 hq2), if_pos (inb11 hq1), if_pos (inb11 hq2), cl (show q1 < 1000 by omega), cl (show q2 < 1000 by omega), m3, m3']
    rfl
  have hh : nI w = 0 ∨ nI w = 1 ∨ nI w = 2 ∨ nI w = 3 := by
    have g : w = 0 ∨ w = 1 ∨ w = 2 ∨ w = 3 := by omega
    rcases g with rfl | rfl | rfl | rfl
    · exact Or.inl rfl
    · exact Or.inr (Or.inl rfl)
    · exact Or.inr (Or.inr (Or.inl rfl))
    · exact Or.inr (Or.inr (Or.inr rfl))
  have loop := fun s hs1 hs2 => cv_loop (s := s) ha hb hr1 hr2 hq1 hq2 h12 h12' hn1 hn2 hs1 hs2 hh s 100 0 0 (wI μx 0 7 (nI s)) (wI μm 0 16 (nI s)) (by omega) (by omega) (by omega) (hq0.cnt (nI s)) (Or.inl rfl) e1 e1' m1 m1' e2 e2' x1 x1' rfl rfl (fun j hj => by omega)
  rw [xpre, mpre]
  unfold fJ9_min_7cf53
  by_cases z : n2 < n1
  · rw [if_pos (nI_lt z (by omega)), if_pos (nI_le (by omega) (by omega))]
    exact loop n2 (by omega) (by omega)
  · rw [if_neg (nI_nlt (by omega) (by omega))]
    by_cases y : n2 = n1
    · subst y
      rw [if_pos (nI_le (by omega) (by omega))]
      exact loop n2 (by omega) (by omega)
    · rw [if_neg (nI_ge (by omega) (by omega))]
      exact loop n1 (by omega) (by omega)
