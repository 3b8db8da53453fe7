/-! convert, 1: one element -/
theorem m_put8 {μm : Mm} {q t i k : Nat} (hq : q < 11) (ht : t < 8) (hi : i < 6) (hk : k < 8) (m2 : μm.1 4 q = nI t) (hw : fX8_widens (nI k) (nI t) = some 1) {mv c' : Int64} (hv : VC k mv) (hc : fX2_widened mv (nI k) (nI t) = some c') (f : Int32) : ∃ μm', fX8_put (nI q) (nI i) f (nI k) mv μm = some μm' ∧ CM μm μm' (6 * q + i) 1 (nI t) c' := by
  have ib : inb (nI (6 * q + i)) 66 = true := inb_nI (show 6 * q + i < 66 by omega) (by decide)
  have hcl : (nI (6 * q + i)).toNatClampNeg = 6 * q + i := cl (by omega)
  have hcq : (nI q).toNatClampNeg = q := cl (by omega)
  obtain ⟨μ1, w3, w4⟩ := enD_m hk ht hw hv hc (wI μm 6 (6 * q + i) 1)
  refine ⟨wI (wL μ1 8 (6 * q + i) c') 7 (6 * q + i) (nI t), ?_, ⟨fun o j hs => ?_, fun o j hs => ?_⟩⟩
  · have hp : fX8_isPlain (nI t) = some 1 := by rw [pl_c t (by omega), if_pos ht]
    have z4 : (wI μm 6 (6 * q + i) 1).1 4 q = nI t := m2
    have y4 : (wL μ1 8 (6 * q + i) c').1 4 q = nI t := by
      rw [wL_1, w4.1 4 q (by omega)]
      exact z4
    unfold fX8_put
    rw [if_pos (inb11 hq), hcq, m2, hp, bd rfl, if_neg one_ne, ix6']
    unfold fX8_put_b35
    rw [if_pos ib, if_neg one_ne, if_pos (inb11 hq), hcl, hcq, z4, bn w3]
    unfold fX8_put_b66
    rw [if_pos ib, if_neg one_ne, if_pos (inb11 hq), if_pos ib, hcl, hcq, y4]
  · rw [wI_1, wL_1]
    by_cases z7 : o = 7 ∧ j = 6 * q + i
    · rw [if_pos z7, if_neg (by omega), if_pos z7]
    · rw [if_neg z7, if_neg z7]
      have : ¬ (o = 0 ∧ j = 43) := fun z => by rw [z.1, z.2] at hs; exact absurd hs (by decide)
      rw [w4.1 o j this, wI_1]
  · rw [wI_2, wL_2]
    by_cases z8 : o = 8 ∧ j = 6 * q + i
    · rw [if_pos z8, if_pos z8]
    · rw [if_neg z8, if_neg z8, w4.2 o j (by omega), wI_2]
theorem m_put9 {μm : Mm} {q t i : Nat} (hq : q < 11) (ht : t ≤ 12) (h8 : 8 ≤ t) (hi : i < 6) (m2 : μm.1 4 q = nI t) (f mk : Int32) (mv : Int64) : ∃ μm', fX8_put (nI q) (nI i) f mk mv μm = some μm' ∧ CM μm μm' (6 * q + i) f mk mv := by
  have ib : inb (nI (6 * q + i)) 66 = true := inb_nI (show 6 * q + i < 66 by omega) (by decide)
  have hcl : (nI (6 * q + i)).toNatClampNeg = 6 * q + i := cl (by omega)
  have hcq : (nI q).toNatClampNeg = q := cl (by omega)
  refine ⟨wI (wL (wI μm 6 (6 * q + i) f) 8 (6 * q + i) mv) 7 (6 * q + i) mk, ?_, ⟨fun o j hs => ?_, fun o j hs => ?_⟩⟩
  · have hp : fX8_isPlain (nI t) = some 0 := by rw [pl_c t (by omega), if_neg (by omega)]
    unfold fX8_put
    rw [if_pos (inb11 hq), hcq, m2, hp, bd rfl, if_pos rfl, ix6']
    unfold fX8_put_b35
    rw [if_pos ib, if_pos rfl, hcl]
    unfold fX8_put_b66
    rw [if_pos ib, if_pos rfl, if_pos ib, hcl]
  · rw [wI_1, wL_1, wI_1]
    by_cases z7 : o = 7 ∧ j = 6 * q + i
    · rw [if_pos z7, if_neg (by omega), if_pos z7]
    · rw [if_neg z7, if_neg z7]
  · rw [wI_2, wL_2, wI_2]
/-- what an element that may be put becomes, on both sides -/
theorem cv_put {mc t : Nat} {μm : Mm} (hmc : mc ≤ 20) (ht : t ≤ 12) {f xt mk : Int32} {xc mv : Int64} (h : It mc (μm.1 10) f xt xc mk mv) (hb : fX8_bring (nI t) f mk mv μm = some 0) :
    (t < 8 → ∃ c, fX2_widened xc xt (nI t) = some c) ∧ ∃ f' mk' mv', Ce mc (μm.1 10) t (ptT t xt) (ptC t xt xc) f' mk' mv' ∧ ∀ (μ2 : Mm) (q i : Nat), q < 11 → i < 6 → μ2.1 4 q = nI t → ∃ μ3, fX8_put (nI q) (nI i) f mk mv μ2 = some μ3 ∧ CM μ2 μ3 (6 * q + i) f' mk' mv' := by
  by_cases h8 : t < 8
  · obtain ⟨b1, k, hk, b2, b3, b4, b5, b6⟩ := bring_0 hmc h h8 hb
    obtain ⟨c', w1, w2, -⟩ := n_wid hk h8 b6 b5 μ0M
    have hpc : ptC t xt xc = c' := by
      unfold ptC
      rw [if_pos h8, b2, w1]
      rfl
    refine ⟨fun _ => ⟨c', by rw [b2]; exact w1⟩, 1, nI t, c', ?_, fun μ2 q i hq hi m2 => ?_⟩
    · rw [hpc]
      unfold ptT
      rw [if_pos h8]
      exact ⟨fun _ => ⟨rfl, rfl⟩, fun z => absurd z (by omega), Or.inr (Or.inl ⟨Or.inl rfl, rfl, rfl, t, h8, rfl, w2⟩)⟩
    · rw [b3, ← b4]
      exact m_put8 hq h8 hi hk m2 b6 b5 w1 f
  · have hf := bring_8 (by omega) (by omega) hb
    refine ⟨fun z => absurd z h8, f, mk, mv, ?_, fun μ2 q i hq hi m2 => m_put9 hq ht (by omega) hi m2 f mk mv⟩
    unfold ptT ptC
    rw [if_neg h8, if_neg h8]
    exact ⟨fun z => absurd z h8, fun _ => hf, h⟩
theorem num_c : ∀ k, k < 8 → fX4_isNumeric (nI k) = some (if 1 ≤ k then 1 else 0) := by decide +kernel
theorem num_t : ∀ t, t < 13 → fX4_isNumeric (nI t) = some (if 1 ≤ t ∧ t ≤ 7 then 1 else 0) ∧ fX8_in (Int32.toInt64 (nI t)) 1 7 = some (if 1 ≤ t ∧ t ≤ 7 then 1 else 0) := by decide +kernel
/-- the result of one element: its reason, and what both sides do if it is fine -/
def CvS (μx μm : Mm) (mc r1 r2 q1 q2 t2 i : Nat) (how : Int32) : Prop := ∃ ρ μ1, fX7_convertReason (nI r1) (nI r2) (nI i) how μx = some ρ ∧ fX8_convertCell (nI q1) (nI q2) (nI i) how μm = some (ρ, μ1) ∧ EqM μm μ1 ∧ (ρ = 0 → ∃ xt' xc' f' mk' mv', Ce mc (μm.1 10) t2 xt' xc' f' mk' mv' ∧
    (∀ μx' : Mm, μx'.1 13 (6 * r1 + i) = μx.1 13 (6 * r1 + i) → μx'.2 14 (6 * r1 + i) = μx.2 14 (6 * r1 + i) → μx'.1 11 r2 = nI t2 → fX7_convertElement (nI r1) (nI r2) (nI i) how μx' = some (wL (wI μx' 13 (6 * r2 + i) xt') 14 (6 * r2 + i) xc')) ∧
    (∀ μ2 : Mm, μ2.1 0 37 = μ1.1 0 37 → μ2.1 0 38 = μ1.1 0 38 → μ2.2 0 39 = μ1.2 0 39 → μ2.1 4 q2 = nI t2 → ∃ μ3, fX8_put (nI q2) (nI i) (μ2.1 0 37) (μ2.1 0 38) (μ2.2 0 39) μ2 = some μ3 ∧ CM μ2 μ3 (6 * q2 + i) f' mk' mv'))
/-- class: an element put, not as a number -/
theorem ce_put {μ : Mm} {r1 r2 t2 i : Nat} {how : Int32} (hr1 : r1 < 26) (hr2 : r2 < 26) (ht2 : t2 ≤ 12) (hi : i < 6) {xt : Int32} {xc : Int64} (e1 : μ.1 13 (6 * r1 + i) = xt) (e2 : μ.2 14 (6 * r1 + i) = xc) (e3 : μ.1 11 r2 = nI t2) (hw : t2 < 8 → ∃ c, fX2_widened xc xt (nI t2) = some c) (hn : how = 3 → fX4_isNumeric xt = some 0 ∨ (fX4_isNumeric xt = some 1 ∧ fX4_isNumeric (nI t2) = some 0)) :
    fX7_convertElement (nI r1) (nI r2) (nI i) how μ = some (wL (wI μ 13 (6 * r2 + i) (ptT t2 xt)) 14 (6 * r2 + i) (ptC t2 xt xc)) := by
  have hb : fX7_convertElement_b78 (nI r2) (nI i) xt xc μ = some (wL (wI μ 13 (6 * r2 + i) (ptT t2 xt)) 14 (6 * r2 + i) (ptC t2 xt xc)) := by
    unfold fX7_convertElement_b78
    rw [bd (x_put1 hr2 ht2 hi e3 xt xc hw)]
  unfold fX7_convertElement
  rw [if_pos (inb26 hr2), bd (x_typeAt hr1 hi μ), bd (x_codeAt hr1 hi μ), e1, e2, cl (by omega), e3, hb]
  by_cases h3 : how = 3
  · rw [if_pos h3]
    rcases hn h3 with z | ⟨z, z2⟩
    · rw [bd z, if_pos rfl]
    · rw [bd z, if_neg one_ne, bd z2, if_pos rfl]
  · rw [if_neg h3]
/-- fetched and put -/
theorem cv_fetch {μx μm : Mm} {mc r1 r2 q1 q2 t1 t2 i : Nat} {how : Int32} (hmc : mc ≤ 20) (hr1 : r1 < 26) (hr2 : r2 < 26) (hq1 : q1 < 11) (hq2 : q2 < 11) (ht2 : t2 ≤ 12) (hi : i < 6) (e2 : μx.1 11 r2 = nI t2) (m2 : μm.1 4 q2 = nI t2)
    (hc : Ce mc (μm.1 10) t1 (μx.1 13 (6 * r1 + i)) (μx.2 14 (6 * r1 + i)) (μm.1 6 (6 * q1 + i)) (μm.1 7 (6 * q1 + i)) (μm.2 8 (6 * q1 + i))) (hh : how = 2 ∨ how = 3) : CvS μx μm mc r1 r2 q1 q2 t2 i how := by
  have hI := got_it hc
  have g37 : (gotM μm (6 * q1 + i)).1 0 37 = if μm.1 6 (6 * q1 + i) = 1 then 2 else μm.1 6 (6 * q1 + i) := rfl
  have g38 : (gotM μm (6 * q1 + i)).1 0 38 = μm.1 7 (6 * q1 + i) := rfl
  have g39 : (gotM μm (6 * q1 + i)).2 0 39 = μm.2 8 (6 * q1 + i) := rfl
  have hI' : It mc ((gotM μm (6 * q1 + i)).1 10) (if μm.1 6 (6 * q1 + i) = 1 then 2 else μm.1 6 (6 * q1 + i)) (μx.1 13 (6 * r1 + i)) (μx.2 14 (6 * r1 + i)) (μm.1 7 (6 * q1 + i)) (μm.2 8 (6 * q1 + i)) := hI
  have h1 : (1 : Int32) < how := by rcases hh with rfl | rfl <;> decide
  have h2 : (2 : Int32) ≤ how := by rcases hh with rfl | rfl <;> decide
  have hff := x_fform hI (got_ne _)
  have xpre : fX7_convertReason (nI r1) (nI r2) (nI i) how μx = (if how = (3 : Int32) then ((fX4_isNumeric (μx.1 13 (6 * r1 + i))).bind fun r105 => (if r105 = 0 then fX7_convertReason_b145 μx (nI t2) (μx.1 13 (6 * r1 + i)) else ((fX4_isNumeric (nI t2)).bind fun r113 => (if r113 = 0 then fX7_convertReason_b145 μx (nI t2) (μx.1 13 (6 * r1 + i)) else ((fX2_hasNumber (μx.2 14 (6 * r1 + i)) (μx.1 13 (6 * r1 + i)) (nI t2)).bind fun r132 => (if r132 = 0 then some (8 : Int32) else some (0 : Int32))))))) else fX7_convertReason_b145 μx (nI t2) (μx.1 13 (6 * r1 + i))) := by
    unfold fX7_convertReason
    rw [if_pos (inb26 hr1), if_pos (inb26 hr2), bd (x_typeAt hr1 hi μx), if_pos h1, cl (show r2 < 1000 by omega), e2]
    congr 1
    congr 1
    funext r105
    congr 1
    congr 1
    funext r113
    rw [bd (x_codeAt hr1 hi μx)]
  have mpre : fX8_convertCell (nI q1) (nI q2) (nI i) how μm = fX8_convertCell_b112 how (nI t2) (gotM μm (6 * q1 + i)) := by
    unfold fX8_convertCell
    rw [if_pos (inb11 hq1), if_pos (inb11 hq2), if_pos h2, bd (m_get hq1 hi μm), cl (show q2 < 1000 by omega), m2]
  have hfit := fit_put hmc hI' (show t2 < 13 by omega)
  obtain ⟨ρ, hρ⟩ := fit_put_some hmc hI' (show t2 < 13 by omega)
  -- not as a number
  have plain : fX7_convertReason (nI r1) (nI r2) (nI i) how μx = fX7_convertReason_b145 μx (nI t2) (μx.1 13 (6 * r1 + i)) → fX8_convertCell (nI q1) (nI q2) (nI i) how μm = fX8_convertCell_b150 (nI t2) (gotM μm (6 * q1 + i)) → (how = 3 → fX4_isNumeric (μx.1 13 (6 * r1 + i)) = some 0 ∨ (fX4_isNumeric (μx.1 13 (6 * r1 + i)) = some 1 ∧ fX4_isNumeric (nI t2) = some 0)) → CvS μx μm mc r1 r2 q1 q2 t2 i how := by
    intro hx hm hn
    refine ⟨ρ, gotM μm (6 * q1 + i), ?_, ?_, gotM_eq _ _, fun h0 => ?_⟩
    · rw [hx]
      unfold fX7_convertReason_b145
      rw [bd hff, hfit, bd hρ]
    · rw [hm]
      unfold fX8_convertCell_b150 fX8_convertCell_b151
      rw [if_pos rfl, g37, g38, g39, bd hρ]
    · rw [h0] at hρ
      obtain ⟨p1, f', mk', mv', p2, p3⟩ := cv_put hmc ht2 hI' hρ
      refine ⟨_, _, f', mk', mv', p2, fun μx' y1 y2 y3 => ce_put hr1 hr2 ht2 hi y1 y2 y3 p1 hn, fun μ2 y1 y2 y3 y4 => ?_⟩
      rw [y1, y2, y3, g37, g38, g39]
      exact p3 μ2 q2 i hq2 hi y4
  rcases hh with rfl | rfl
  · refine plain ?_ ?_ (fun z => absurd z (by decide))
    · rw [xpre, if_neg (by decide)]
    · rw [mpre]
      unfold fX8_convertCell_b112
      rw [if_neg (by decide)]
  · rw [if_pos rfl] at xpre
    have mpre2 : fX8_convertCell (nI q1) (nI q2) (nI i) 3 μm = (if (if μm.1 6 (6 * q1 + i) = 1 then 2 else μm.1 6 (6 * q1 + i)) = (2 : Int32) then (if μm.1 7 (6 * q1 + i) ≤ 0 then fX8_convertCell_b150 (nI t2) (gotM μm (6 * q1 + i)) else ((fX8_in (Int32.toInt64 (nI t2)) (1 : Int64) (7 : Int64)).bind fun r140 => (if r140 = 0 then fX8_convertCell_b150 (nI t2) (gotM μm (6 * q1 + i)) else fX8_convertCell_b151 (nI t2) (1 : Int32) (gotM μm (6 * q1 + i))))) else fX8_convertCell_b150 (nI t2) (gotM μm (6 * q1 + i))) := by
      rw [mpre]
      unfold fX8_convertCell_b112
      rw [if_pos rfl, g37, g38]
    obtain ⟨nt1, nt2⟩ := num_t t2 (by omega)
    rcases it_prim hI with ⟨f12, k, hk, v1, v2, v3, v4⟩ | ⟨f1, f2, f3, f4⟩
    · have hg2 : (if μm.1 6 (6 * q1 + i) = 1 then 2 else μm.1 6 (6 * q1 + i)) = (2 : Int32) := by
        rcases f12 with y | y
        · exact absurd y (got_ne _)
        · exact y
      have hnk : fX4_isNumeric (μx.1 13 (6 * r1 + i)) = some (if 1 ≤ k then 1 else 0) := by rw [v1]; exact num_c k hk
      rw [if_pos hg2, v2, nt2] at mpre2
      by_cases hk1 : 1 ≤ k
      · rw [if_pos hk1] at hnk
        rw [bd hnk, if_neg one_ne, nt1] at xpre
        rw [if_neg (nI_nle (by omega) (by omega))] at mpre2
        by_cases htn : 1 ≤ t2 ∧ t2 ≤ 7
        · rw [if_pos htn, bd rfl, if_neg one_ne, v1] at xpre
          rw [if_pos htn, bd rfl, if_neg one_ne] at mpre2
          obtain ⟨w, w1, w2, w3⟩ := n_one hk1 hk htn.1 (show t2 < 8 by omega) v4
          rw [bd w1] at xpre
          obtain ⟨μ1, k1, k2⟩ := w2 (gotM μm (6 * q1 + i))
          have hcell : fX8_convertCell (nI q1) (nI q2) (nI i) 3 μm = bnd (some (bz (w = true), μ1)) fun r188 μ188 => (if r188 = 0 then some ((8 : Int32), μ188) else (bnd (fX8_asOne (μ188.1 0 38) (μ188.2 0 39) (nI t2) μ188) fun r209 μ209 => some ((0 : Int32), (wI (wL μ209 0 39 r209) 0 38 (nI t2))))) := by
            rw [mpre2]
            unfold fX8_convertCell_b151
            rw [if_neg one_ne, g38, g39, v2, ← v3, k1]
          cases w with
          | false =>
            refine ⟨8, μ1, by rw [xpre]; rfl, by rw [hcell]; rfl, (gotM_eq _ _).tr k2.m, fun z => absurd z (by decide)⟩
          | true =>
            obtain ⟨c', s1, s2, s3⟩ := w3 rfl
            obtain ⟨μ2', s4, s5⟩ := s3 μ1
            have q38 : μ1.1 0 38 = nI k := (k2.1 0 38 (by decide)).trans (g38.trans v2)
            have q39 : μ1.2 0 39 = μx.2 14 (6 * r1 + i) := (k2.2 0 39 (by decide)).trans (g39.trans v3.symm)
            have hE : EqM μm (wI (wL μ2' 0 39 c') 0 38 (nI t2)) := (((gotM_eq _ _).tr (k2.m.tr s5.m)).wL (by omega)).wI rfl
            refine ⟨0, wI (wL μ2' 0 39 c') 0 38 (nI t2), by rw [xpre]; rfl, ?_, hE, fun _ => ⟨nI t2, c', 1, nI t2, c', ?_, fun μx' y1 y2 y3 => ?_, fun μ2 y1 y2 y3 y4 => ?_⟩⟩
            · rw [hcell, bn rfl, bz_t rfl, if_neg one_ne, q38, q39, bn s4]
            · exact ⟨fun _ => ⟨rfl, rfl⟩, fun z => absurd z (by omega), Or.inr (Or.inl ⟨Or.inl rfl, rfl, rfl, t2, by omega, rfl, s2⟩)⟩
            · unfold fX7_convertElement
              rw [if_pos (inb26 hr2), bd (x_typeAt hr1 hi μx'), bd (x_codeAt hr1 hi μx'), y1, y2, cl (by omega), y3, if_pos rfl, bd hnk, if_neg one_ne, nt1, if_pos htn, bd rfl, if_neg one_ne, v1, bd s1, bd (x_set hr2 hi (nI t2) c' μx')]
            · have z38 : (wI (wL μ2' 0 39 c') 0 38 (nI t2)).1 0 38 = nI t2 := rfl
              have z39 : (wI (wL μ2' 0 39 c') 0 38 (nI t2)).2 0 39 = c' := rfl
              rw [y2, y3, z38, z39]
              exact m_put8 hq2 (show t2 < 8 by omega) hi (show t2 < 8 by omega) y4 (wid_f t2 (by omega)).1 s2 (wid_self c' t2) _
        · rw [if_neg htn, bd rfl, if_pos rfl] at xpre mpre2
          exact plain xpre mpre2 (fun _ => Or.inr ⟨hnk, by rw [nt1, if_neg htn]⟩)
      · have hk0 : k = 0 := by omega
        subst hk0
        rw [if_neg hk1] at hnk
        rw [bd hnk, if_pos rfl] at xpre
        rw [if_pos (by decide)] at mpre2
        exact plain xpre mpre2 (fun _ => Or.inl hnk)
    · rw [if_neg f2] at mpre2
      have hnk : fX4_isNumeric (μx.1 13 (6 * r1 + i)) = some 0 := by
        rcases hI with ⟨-, y, -⟩ | ⟨y, -⟩ | ⟨-, j, -, -, -, ⟨y, -⟩ | ⟨y, -⟩⟩ | ⟨-, y, -⟩
        · rw [y]; rfl
        · rcases y with y | y
          · exact absurd y f1
          · exact absurd y f2
        · rw [y]; rfl
        · rw [y]; rfl
        · rw [y]; rfl
      rw [bd hnk, if_pos rfl] at xpre
      exact plain xpre mpre2 (fun _ => Or.inl hnk)
