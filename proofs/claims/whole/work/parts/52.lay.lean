/-! lay, scatter -/
theorem brg_c : ∀ t, t < 13 → ∀ k, k < 8 → (br1 (nI t) (nI k) = some 0 ∨ br1 (nI t) (nI k) = some 2 ∨ br1 (nI t) (nI k) = some 4) ∧ (br2 (nI t) (nI k) = some 0 ∨ br2 (nI t) (nI k) = some 2) := by decide +kernel
theorem pl_c : ∀ t, t < 13 → fX8_isPlain (nI t) = some (if t < 8 then 1 else 0) := by decide +kernel
theorem bring_c {mc : Nat} {μ : Mm} (hmc : mc ≤ 20) {f xt mk : Int32} {xc mv : Int64} (h : It mc (μ.1 10) f xt xc mk mv) {t : Nat} (ht : t < 13) : fX8_bring (nI t) f mk mv μ = some 0 ∨ fX8_bring (nI t) f mk mv μ = some 2 ∨ fX8_bring (nI t) f mk mv μ = some 4 ∨ fX8_bring (nI t) f mk mv μ = some 7 := by
  rcases h with ⟨rfl, rfl, rfl⟩ | ⟨hf, rfl, rfl, k, hk, rfl, hv⟩ | ⟨rfl, j, hj, rfl, rfl, h2⟩ | ⟨rfl, rfl, rfl, -⟩
  · rw [m_bring0, pl_c t ht]
    split
    · right; right; right; rfl
    · left; rfl
  · rcases hf with rfl | rfl
    · rw [m_bring1]
      rcases (brg_c t ht k hk).1 with z | z | z
      · exact Or.inl z
      · exact Or.inr (Or.inl z)
      · exact Or.inr (Or.inr (Or.inl z))
    · rw [m_bring2]
      rcases (brg_c t ht k hk).2 with z | z
      · exact Or.inl z
      · exact Or.inr (Or.inl z)
  · rw [m_bring3 _ _ _ _ (show j < 20 by omega) rfl, pl_c t ht, bd rfl]
    repeat' split
    all_goals first | exact Or.inl rfl | exact Or.inr (Or.inl rfl)
  · rw [m_bring4, pl_c t ht, bd rfl]
    repeat' split
    all_goals first | exact Or.inl rfl | exact Or.inr (Or.inl rfl)
/-- what can be laid into an array of objects is no bare value -/
theorem bring_8 {μ : Mm} {t : Nat} (ht : t < 13) (h8 : 8 ≤ t) {f mk : Int32} {mv : Int64} (hb : fX8_bring (nI t) f mk mv μ = some 0) : f ≠ 1 := by
  intro z
  subst z
  rw [m_bring1] at hb
  unfold br1 at hb
  rw [pl_c t ht, if_neg (by omega), bd rfl, if_pos rfl] at hb
  exact absurd hb (by decide)
theorem put_both {μx μm : Mm} {mc r q t i : Nat} (hmc : mc ≤ 20) (hr : r < 26) (hq : q < 11) (ht : t ≤ 12) (hi : i < 6) (e2 : μx.1 11 r = nI t) (m2 : μm.1 4 q = nI t) {f xt mk : Int32} {xc mv : Int64} (h : It mc (μm.1 10) f xt xc mk mv) (hb : fX8_bring (nI t) f mk mv μm = some 0) :
    ∃ xt' xc' f' mk' mv' μm', fX5_put (nI r) (nI i) xt xc μx = some (wL (wI μx 13 (6 * r + i) xt') 14 (6 * r + i) xc') ∧ fX8_put (nI q) (nI i) f mk mv μm = some μm' ∧ CM μm μm' (6 * q + i) f' mk' mv' ∧ Ce mc (μm.1 10) t xt' xc' f' mk' mv' := by
  have ib : inb (nI (6 * q + i)) 66 = true := inb_nI (show 6 * q + i < 66 by omega) (by decide)
  have hcl : (nI (6 * q + i)).toNatClampNeg = 6 * q + i := cl (by omega)
  have hcq : (nI q).toNatClampNeg = q := cl (by omega)
  have hcr : (nI r).toNatClampNeg = r := cl (by omega)
  by_cases h8 : t < 8
  · obtain ⟨b1, k, hk, b2, b3, b4, b5, b6⟩ := bring_0 hmc h h8 hb
    obtain ⟨c', w1, w2, μ1, w3, w4⟩ := n_wid hk h8 b6 b5 (wI μm 6 (6 * q + i) 1)
    refine ⟨nI t, c', 1, nI t, c', wI (wL μ1 8 (6 * q + i) c') 7 (6 * q + i) (nI t), ?_, ?_, ⟨fun o j hs => ?_, fun o j hs => ?_⟩, fun _ => ⟨rfl, rfl⟩, fun z => absurd z (by omega), Or.inr (Or.inl ⟨Or.inl rfl, rfl, rfl, t, h8, rfl, w2⟩)⟩
    · unfold fX5_put
      rw [if_pos (inb26 hr), hcr, e2, x_prim1 h8, bd rfl, if_neg one_ne, b2, bd w1, bd (x_set hr hi (nI t) c' μx)]
    · have hp : fX8_isPlain (nI t) = some 1 := by rw [pl_c t (by omega), if_pos h8]
      have z4 : (wI μm 6 (6 * q + i) 1).1 4 q = nI t := m2
      have y4 : (wL μ1 8 (6 * q + i) c').1 4 q = nI t := by
        rw [wL_1, w4.1 4 q (by omega)]
        exact z4
      unfold fX8_put
      rw [if_pos (inb11 hq), hcq, m2, hp, bd rfl, if_neg one_ne, ix6']
      unfold fX8_put_b35
      rw [if_pos ib, if_neg one_ne, if_pos (inb11 hq), hcl, hcq, z4, b3, ← b4, bn w3]
      unfold fX8_put_b66
      rw [if_pos ib, if_neg one_ne, if_pos (inb11 hq), if_pos ib, hcl, hcq, y4]
    · rw [wI_1, wL_1]
      by_cases z7 : o = 7 ∧ j = 6 * q + i
      · rw [if_pos z7, if_neg (by omega), if_pos z7]
      · rw [if_neg z7, if_neg z7]
        have : ¬ (o = 0 ∧ j = 43) := fun z => by rw [z.1, z.2] at hs; exact absurd hs (by decide)
        rw [w4.1 o j this, wI_1]
    · rw [wI_2, wL_2]
      by_cases z8 : o = 8 ∧ j = 6 * q + i
      · rw [if_pos z8, if_pos z8]
      · rw [if_neg z8, if_neg z8, w4.2 o j (by omega), wI_2]
  · have hf := bring_8 (by omega) (by omega) hb
    refine ⟨xt, xc, f, mk, mv, wI (wL (wI μm 6 (6 * q + i) f) 8 (6 * q + i) mv) 7 (6 * q + i) mk, ?_, ?_, ⟨fun o j hs => ?_, fun o j hs => ?_⟩, fun z => absurd z h8, fun _ => hf, h⟩
    · have hp : fX7_isPrimitive (nI t) = some 0 := by
        have g : ∀ t, t < 13 → t < 8 ∨ fX7_isPrimitive (nI t) = some 0 := by decide +kernel
        rcases g t (by omega) with z | z
        · omega
        · exact z
      unfold fX5_put
      rw [if_pos (inb26 hr), hcr, e2, hp, bd rfl, if_pos rfl, bd (x_set hr hi xt xc μx)]
    · have hp : fX8_isPlain (nI t) = some 0 := by rw [pl_c t (by omega), if_neg h8]
      unfold fX8_put
      rw [if_pos (inb11 hq), hcq, m2, hp, bd rfl, if_pos rfl, ix6']
      unfold fX8_put_b35
      rw [if_pos ib, if_pos rfl, hcl]
      unfold fX8_put_b66
      rw [if_pos ib, if_pos rfl, if_pos ib, hcl]
    · rw [wI_1, wL_1, wI_1]
      by_cases z7 : o = 7 ∧ j = 6 * q + i
      · rw [if_pos z7, if_neg (by omega), if_pos z7]
      · rw [if_neg z7, if_neg z7]
    · rw [wI_2, wL_2, wI_2]
theorem st_lay : St_lay Rel := by
  intro p1 p2 μx μm h
  have h0 := h
  obtain ⟨hRp, mc, hq⟩ := h.q
  have hq0 := hq
  obtain ⟨hT, hV, hM, ⟨hf, hI⟩, hC, hG⟩ := hq
  rcases slot_cases p1 with hp | ⟨a, ha, rfl⟩
  · exact ⟨-1, μx, μm, by unfold fX7_lay; rw [x_isSlot, bz_f hp]; rfl, by unfold fX8_lay; rw [m_isSlot, bz_f hp]; rfl, h0⟩
  have hs := slot_ok ha
  obtain ⟨r, t, hr, ht, e1, e2, e3, hA⟩ := slotR hC ha
  have xpre : fX7_lay (nI a) p2 μx = ((fX4_putFit (nI t) (μx.1 0 8) (μx.1 0 9)).bind fun r29 => ((fX5_has (nI r) p2 μx).bind fun r42 => ((fX4_placed r29 r42).bind fun r45 => (if r45 = 0 then ((fX0_keepCells (nI r) μx).bind fun μ64 => ((fX5_put (nI r) p2 (μ64.1 0 9) (μ64.2 0 10) μ64).bind fun μ81 => some (r45, μ81))) else some (r45, μx))))) := by
    unfold fX7_lay
    rw [x_isSlot, bz_t hs, bd rfl, if_neg one_ne, if_pos (inb10 ha), cl (by omega), e1, bd (x_thingIn ha hr e1 e2)]
  have mpre : fX8_lay (nI a) p2 μm = ((fX8_reasonToLay (nI a) p2 (μm.1 0 12) (μm.1 0 13) (μm.2 0 14) μm).bind fun r24 => (if r24 = 0 then ((fX8_note μm).bind fun μ33 => (if inb (nI a) 10 = true then ((fX8_put (μ33.1 3 a) p2 (μ33.1 0 12) (μ33.1 0 13) (μ33.2 0 14) μ33).bind fun μ56 => some (r24, μ56)) else none)) else some (r24, μm))) := by
    unfold fX8_lay
    rw [m_isSlot, bz_t hs, bd rfl, if_neg one_ne, cl (by omega)]
  rw [xpre, mpre]
  rcases hA.symm with ⟨h13, m1, x1⟩ | ⟨h12, q, n, hq', hn, m1, m2, x1, m3, hce⟩
  · obtain ⟨-, -, k3, k4⟩ := fetch_no ha hr ht e1 e2 e3 h13 x1 p2
    have hpl : ¬ (0 ≤ p2 ∧ p2 ≤ nI 0 - 1) := by
      rcases pos_cases p2 (show 0 ≤ 6 by decide) with hp | ⟨i, hi, -⟩
      · exact hp
      · omega
    refine ⟨if t = 15 then 5 else 3, μx, μm, ?_, ?_, h0⟩
    · unfold fX4_putFit
      rw [bd k4, if_neg (f53 t), bd rfl, x_has hr (show 0 ≤ 6 by decide) x1, bz_f hpl, bd rfl, bd (pl_no t), if_neg (f53 t)]
    · unfold fX8_reasonToLay
      rw [bd k3, if_neg (f53 t), bd rfl, if_neg (f53 t)]
  · obtain ⟨-, -, k3, k4⟩ := fetch_ok ha hr ht e1 e2 e3 h12 hq' hn m1 x1 m3 p2
    have hin : fX8_in (Int32.toInt64 p2) 0 (Int32.toInt64 (nI n - 1)) = _ := in32 p2 0 (nI n - 1)
    have hI2 := hI
    rw [hf] at hI2
    have hfit := fit_put hM.1 hI2 (show t < 13 by omega)
    have hrl : fX8_reasonToLay (nI a) p2 (μm.1 0 12) (μm.1 0 13) (μm.2 0 14) μm = ((fX8_bring (nI t) (μm.1 0 12) (μm.1 0 13) (μm.2 0 14) μm).bind fun r36 => (if r36 = (7 : Int32) then some r36 else if bz (0 ≤ p2 ∧ p2 ≤ nI n - 1) = 0 then fX8_reasonToLay_b79 μm (1 : Int32) r36 else fX8_reasonToLay_b79 μm (0 : Int32) r36)) := by
      unfold fX8_reasonToLay
      rw [bd k3, if_pos rfl, if_pos (inb10 ha), cl (by omega), m1, if_pos (inb11 hq'), cl (by omega), m2, m3, hin]
      congr 1
      funext r36
      rw [if_pos (inb11 hq')]
      rfl
    rw [hrl, hf, hfit, x_has hr hn x1]
    rcases pos_cases p2 hn with hp | ⟨i, hi, rfl, hp⟩
    · rw [bz_f hp]
      rcases bring_c hM.1 hI2 (show t < 13 by omega) with z | z | z | z
      · exact ⟨1, μx, μm, by rw [z]; rfl, by rw [z]; rfl, h0⟩
      · exact ⟨6, μx, μm, by rw [z]; rfl, by rw [z]; rfl, h0⟩
      · exact ⟨6, μx, μm, by rw [z]; rfl, by rw [z]; rfl, h0⟩
      · exact ⟨7, μx, μm, by rw [z]; rfl, by rw [z]; rfl, h0⟩
    · rw [bz_t hp]
      rcases bring_c hM.1 hI2 (show t < 13 by omega) with z | z | z | z
      · obtain ⟨μx1, μm1, a1, a2, a3, a4, a5, a6, a7, a8, a9, a10, a11⟩ := act_cells hq0 hr
        have i12 : μm1.1 0 12 = μm.1 0 12 := a10 12 (by decide) (by decide)
        have i13 : μm1.1 0 13 = μm.1 0 13 := a10 13 (by decide) (by decide)
        have i14 : μm1.2 0 = μm.2 0 := a11 0 (by decide)
        have j9 : μx1.1 0 = μx.1 0 := a5 0 (by decide)
        have j10 : μx1.2 0 = μx.2 0 := a6 0 (by decide)
        have q3 : μm1.1 3 = μm.1 3 := a7 3 (by decide)
        have q4 : μm1.1 4 = μm.1 4 := a7 4 (by decide)
        have hI3 : It mc (μm1.1 10) (μm.1 0 12) (μx.1 0 9) (μx.2 0 10) (μm.1 0 13) (μm.2 0 14) := by rw [a8]; exact hI2
        have z' : fX8_bring (nI t) (μm.1 0 12) (μm.1 0 13) (μm.2 0 14) μm1 = some 0 := by
          have y1 := fit_put hM.1 hI3 (show t < 13 by omega)
          rw [← y1, hfit]
          exact z
        obtain ⟨xt', xc', f', mk', mv', μm', b1, b2, b3, b4⟩ := put_both (μx := μx1) (i := i) hM.1 hr hq' h12 (show i < 6 by omega) (by rw [a5 11 (by decide)]; exact e2) (by rw [q4]; exact m2) hI3 z'
        obtain ⟨c1, c2⟩ := set_cell (i := i) a3 a4 ha hr hq' h12 hn (show i < 6 by omega) (by rw [a5 6 (by decide)]; exact e1) (by rw [q3]; exact m1) (by rw [a5 11 (by decide)]; exact e2) b4 b3
        refine ⟨0, _, μm', ?_, ?_, c1.rel ?_⟩
        · rw [bd z, bd rfl, bd (show fX4_placed 0 1 = some 0 from rfl), if_pos rfl, bd a1, j9, j10, bd b1]
        · rw [bd z, if_neg (by decide), if_neg one_ne, bd (show fX8_reasonToLay_b79 μm 0 0 = some 0 from rfl), if_pos rfl, bd a2, if_pos (inb10 ha), q3, m1, i12, i13, i14, bd b2]
        · have r1 : μm'.1 0 16 = μm.1 0 16 := by rw [b3.1 0 16 rfl, if_neg (by omega), if_neg (by omega), a10 16 (by decide) (by decide)]
          have r2 : μm'.1 11 = μm.1 11 := funext fun k => by rw [b3.1 11 k rfl, if_neg (by omega), if_neg (by omega), a9]
          have s1 : (wL (wI μx1 13 (6 * r + i) xt') 14 (6 * r + i) xc').1 0 = μx.1 0 := j9
          have s2 : (wL (wI μx1 13 (6 * r + i) xt') 14 (6 * r + i) xc').1 7 = μx.1 7 := a5 7 (by decide)
          simp only [RRp, r1, r2, s1, s2]
          exact hRp
      · exact ⟨2, μx, μm, by rw [z]; rfl, by rw [z]; rfl, h0⟩
      · exact ⟨4, μx, μm, by rw [z]; rfl, by rw [z]; rfl, h0⟩
      · exact ⟨7, μx, μm, by rw [z]; rfl, by rw [z]; rfl, h0⟩
/-! scatter -/
theorem sc_loop {mc r q t n a : Nat} (ha : a < 10) (hr : r < 26) (hq : q < 11) (ht : t < 8) (hn : n ≤ 6) :
    ∀ m f i (s : Int64) (μx μm : Mm), i + m = n → m < f → Rq μx μm mc → LA r μx → μx.1 6 a = nI r → μm.1 3 a = nI q → μx.1 11 r = nI t → μm.1 4 q = nI t → μm.1 5 q = nI n → (∀ j, j < n → Ce mc (μm.1 10) t (μx.1 13 (6 * r + j)) (μx.2 14 (6 * r + j)) (μm.1 6 (6 * q + j)) (μm.1 7 (6 * q + j)) (μm.2 8 (6 * q + j))) → RRp μx μm →
    ∃ μx' μm', fX7_scatter_b66 f (nI t) (nI r) (nI n) s (nI i) μx = some (nI n, μx') ∧ fX8_scatter_b38 f (nI q) s (nI i) μm = some (nI n, μm') ∧ Rel μx' μm' := by
  intro m
  induction m with
  | zero =>
    intro f i s μx μm he hf hR hL e1 m1 e2 m2 m3 hce hP
    obtain ⟨f, rfl⟩ : ∃ g, f = g + 1 := ⟨f - 1, by omega⟩
    refine ⟨μx, μm, ?_, ?_, hR.rel hP⟩
    · unfold fX7_scatter_b66
      rw [if_pos (nI_le (by omega) (by omega))]
    · unfold fX8_scatter_b38
      rw [if_pos (inb11 hq), cl (by omega), m3, if_pos (nI_le (by omega) (by omega)), if_pos (inb11 hq)]
  | succ m ih =>
    intro f i s μx μm he hf hR hL e1 m1 e2 m2 m3 hce hP
    obtain ⟨f, rfl⟩ : ∃ g, f = g + 1 := ⟨f - 1, by omega⟩
    have hi : i < n := by omega
    obtain ⟨c, c1, c2, c3⟩ := n_made ht (jlshr ((s * (6364136223846793005 : Int64)) + (1442695040888963407 : Int64)) (20 : Int32))
    obtain ⟨v1, v2, v3, v4, v5⟩ := (hce i hi).val ht
    have hm : CM μm (wL μm 8 (6 * q + i) c) (6 * q + i) 1 (nI t) c := by
      refine ⟨fun o j _ => ?_, fun o j _ => by rw [wL_2]⟩
      rw [wL_1]
      by_cases z : o = 6 ∧ j = 6 * q + i
      · rw [if_pos z, z.1, z.2, v4]
      · rw [if_neg z]
        by_cases y : o = 7 ∧ j = 6 * q + i
        · rw [if_pos y, y.1, y.2, v2]
        · rw [if_neg y]
    have hcN : Ce mc (μm.1 10) t (nI t) c 1 (nI t) c := ⟨fun _ => ⟨rfl, rfl⟩, fun z => absurd z (by omega), Or.inr (Or.inl ⟨Or.inl rfl, rfl, rfl, t, ht, rfl, c3⟩)⟩
    obtain ⟨d1, d2⟩ := set_cell (i := i) hR hL ha hr hq (show t ≤ 12 by omega) hn (show i < 6 by omega) e1 m1 e2 hcN hm
    have ix := ih f (i + 1) ((s * (6364136223846793005 : Int64)) + (1442695040888963407 : Int64)) (wL (wI μx 13 (6 * r + i) (nI t)) 14 (6 * r + i) c) (wL μm 8 (6 * q + i) c) (by omega) (by omega) d1 d2 e1 m1 e2 m2 m3 (fun j hj => by
      by_cases z : j = i
      · subst z
        have y1 : (wL (wI μx 13 (6 * r + j) (nI t)) 14 (6 * r + j) c).1 13 (6 * r + j) = nI t := by rw [wL_1, wI_1, if_pos ⟨rfl, rfl⟩]
        have y2 : (wL (wI μx 13 (6 * r + j) (nI t)) 14 (6 * r + j) c).2 14 (6 * r + j) = c := by rw [wL_2, if_pos ⟨rfl, rfl⟩]
        have y3 : (wL μm 8 (6 * q + j) c).2 8 (6 * q + j) = c := by rw [wL_2, if_pos ⟨rfl, rfl⟩]
        rw [y1, y2, y3]
        show Ce mc (μm.1 10) t (nI t) c (μm.1 6 (6 * q + j)) (μm.1 7 (6 * q + j)) c
        rw [v4, v2]
        exact hcN
      · have y1 : (wL (wI μx 13 (6 * r + i) (nI t)) 14 (6 * r + i) c).1 13 (6 * r + j) = μx.1 13 (6 * r + j) := by rw [wL_1, wI_1, if_neg (by omega)]
        have y2 : (wL (wI μx 13 (6 * r + i) (nI t)) 14 (6 * r + i) c).2 14 (6 * r + j) = μx.2 14 (6 * r + j) := by rw [wL_2, if_neg (by omega)]; rfl
        have y3 : (wL μm 8 (6 * q + i) c).2 8 (6 * q + j) = μm.2 8 (6 * q + j) := by rw [wL_2, if_neg (by omega)]
        rw [y1, y2, y3]
        exact hce j hj) hP
    obtain ⟨μx', μm', g1, g2, g3⟩ := ix
    refine ⟨μx', μm', ?_, ?_, g3⟩
    · unfold fX7_scatter_b66
      rw [if_neg (nI_ge (by omega) (by omega)), bd c1, bd (x_set hr (by omega) (nI t) c μx), nI_1]
      exact g1
    · unfold fX8_scatter_b38
      rw [if_pos (inb11 hq), cl (by omega), m3, if_neg (nI_ge (by omega) (by omega)), if_pos (inb11 hq), m2, bd c2, ix6', if_pos (inb_nI (show 6 * q + i < 66 by omega) (by decide)), cl (by omega), nI_1]
      exact g2
theorem st_scatter : St_scatter Rel := by
  intro p1 x μx μm h
  have h0 := h
  obtain ⟨hRp, mc, hq⟩ := h.q
  have hq0 := hq
  obtain ⟨hT, hV, hM, hH, hC, hG⟩ := hq
  rcases slot_cases p1 with hp | ⟨a, ha, rfl⟩
  · exact ⟨-1, μx, μm, by unfold fX7_scatter; rw [x_isSlot, bz_f hp]; rfl, by unfold fX8_scatter; rw [m_isSlot, bz_f hp]; rfl, h0⟩
  have hs := slot_ok ha
  obtain ⟨r, t, hr, ht, e1, e2, e3, hA⟩ := slotR hC ha
  have hpx : fX7_isPrimitive (nI t) = some (if t < 8 then 1 else 0) := by
    have g : ∀ t, t < 16 → fX7_isPrimitive (nI t) = some (if t < 8 then 1 else 0) := by decide +kernel
    exact g t ht
  have hpm : fX8_holdsPlain (nI a) μm = some (if t < 8 then 1 else 0) := by
    rw [m_hPl ha, e3]
    have g : ∀ t, t < 16 → bz (0 ≤ nI t ∧ nI t ≤ 7) = if t < 8 then 1 else 0 := by decide +kernel
    rw [g t ht]
  by_cases h8 : t < 8
  · rw [if_pos h8] at hpx hpm
    rcases hA with ⟨h12, q, n, hq', hn, m1, m2, x1, m3, hce⟩ | ⟨h13, -, -⟩
    · obtain ⟨μx1, μm1, a1, a2, a3, a4, a5, a6, a7, a8, a9, a10, a11⟩ := act_cells hq0 hr
      have q3 : μm1.1 3 = μm.1 3 := a7 3 (by decide)
      have q4 : μm1.1 4 = μm.1 4 := a7 4 (by decide)
      have q5 : μm1.1 5 = μm.1 5 := a7 5 (by decide)
      obtain ⟨μx', μm', g1, g2, g3⟩ := sc_loop ha hr hq' h8 hn n 100 0 x μx1 μm1 (by omega) (by omega) a3 a4 (by rw [a5 6 (by decide)]; exact e1) (by rw [q3]; exact m1) (by rw [a5 11 (by decide)]; exact e2) (by rw [q4]; exact m2) (by rw [q5]; exact m3) (by rw [a8, a5 13 (by decide), a6 14 (by decide), a7 6 (by decide), a7 7 (by decide), a11 8 (by decide)]; exact hce) (by
        have s1 : μx1.1 0 = μx.1 0 := a5 0 (by decide)
        have s2 : μx1.1 7 = μx.1 7 := a5 7 (by decide)
        simp only [RRp, s1, s2, a10 16 (by decide) (by decide), a9]
        exact hRp)
      refine ⟨nI n, μx', μm', ?_, ?_, g3⟩
      · unfold fX7_scatter
        rw [x_isSlot, bz_t hs, bd rfl, if_neg one_ne, bd (x_thingIn ha hr e1 e2), bd hpx, if_neg one_ne, if_pos (inb10 ha), cl (by omega), e1, if_pos (inb26 hr), bd a1, cl (by omega), x1]
        exact g1
      · unfold fX8_scatter
        rw [m_isSlot, bz_t hs, bd rfl, if_neg one_ne, bd hpm, if_neg one_ne, bd a2, if_pos (inb10 ha), cl (by omega), q3, m1]
        exact g2
    · omega
  · rw [if_neg h8] at hpx hpm
    refine ⟨-3, μx, μm, ?_, ?_, h0⟩
    · unfold fX7_scatter
      rw [x_isSlot, bz_t hs, bd rfl, if_neg one_ne, bd (x_thingIn ha hr e1 e2), bd hpx, if_pos rfl]
    · unfold fX8_scatter
      rw [m_isSlot, bz_t hs, bd rfl, if_neg one_ne, bd hpm, if_pos rfl]
