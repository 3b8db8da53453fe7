/-! cut -/
/-- what putting an element into a row of type T leaves there -/
def ptT (T : Nat) (xt : Int32) : Int32 := if T < 8 then nI T else xt
def ptC (T : Nat) (xt : Int32) (xc : Int64) : Int64 := if T < 8 then (fX2_widened xc xt (nI T)).getD 0 else xc
theorem x_put1 {μ : Mm} {r0 T i : Nat} (hr : r0 < 26) (hT : T ≤ 12) (hi : i < 6) (e : μ.1 11 r0 = nI T) (xt : Int32) (xc : Int64) (hw : T < 8 → ∃ c, fX2_widened xc xt (nI T) = some c) : fX5_put (nI r0) (nI i) xt xc μ = some (wL (wI μ 13 (6 * r0 + i) (ptT T xt)) 14 (6 * r0 + i) (ptC T xt xc)) := by
  unfold fX5_put ptT ptC
  rw [if_pos (inb26 hr), cl (by omega), e]
  by_cases h8 : T < 8
  · obtain ⟨c, hc⟩ := hw h8
    rw [x_prim1 h8, bd rfl, if_neg one_ne, bd hc, bd (x_set hr hi (nI T) c μ), if_pos h8, if_pos h8, hc]
    rfl
  · have hp : fX7_isPrimitive (nI T) = some 0 := by
      have g : ∀ t, t < 13 → t < 8 ∨ fX7_isPrimitive (nI t) = some 0 := by decide +kernel
      rcases g T (by omega) with z | z
      · omega
      · exact z
    rw [hp, bd rfl, if_pos rfl, bd (x_set hr hi xt xc μ), if_neg h8, if_neg h8]
theorem x_putAll {μ : Mm} {r r0 T s d c : Nat} (hr : r < 26) (hr0 : r0 < 26) (hne : r ≠ r0) (hT : T ≤ 12) (hs : s + c ≤ 6) (hd : d + c ≤ 6) (hw : ∀ i, i < c → T < 8 → ∃ v, fX2_widened (μ.2 14 (6 * r + (s + i))) (μ.1 13 (6 * r + (s + i))) (nI T) = some v) :
    ∀ m f i (μ1 : Mm), i + m = c → m < f → BX μ μ1 r0 → μ1.1 11 r0 = nI T → ∃ μ2, fX5_putAll_b3 f (nI r) (nI s) (nI c) (nI r0) (nI d) (nI i) μ1 = some μ2 ∧ BX μ μ2 r0 ∧ (∀ o, o ≠ 13 → μ2.1 o = μ1.1 o) ∧
      ∀ j, j < 6 → (μ2.1 13 (6 * r0 + j) = if d + i ≤ j ∧ j < d + c then ptT T (μ.1 13 (6 * r + (s + (j - d)))) else μ1.1 13 (6 * r0 + j)) ∧ (μ2.2 14 (6 * r0 + j) = if d + i ≤ j ∧ j < d + c then ptC T (μ.1 13 (6 * r + (s + (j - d)))) (μ.2 14 (6 * r + (s + (j - d)))) else μ1.2 14 (6 * r0 + j)) := by
  intro m
  induction m with
  | zero =>
    intro f i μ1 he hf hB h11
    obtain ⟨f, rfl⟩ : ∃ g, f = g + 1 := ⟨f - 1, by omega⟩
    refine ⟨μ1, ?_, hB, fun _ _ => rfl, fun j hj => ⟨by rw [if_neg (by omega)], by rw [if_neg (by omega)]⟩⟩
    unfold fX5_putAll_b3
    rw [if_pos (nI_le (by omega) (by omega))]
  | succ m ih =>
    intro f i μ1 he hf hB h11
    obtain ⟨f, rfl⟩ : ∃ g, f = g + 1 := ⟨f - 1, by omega⟩
    have y1 : μ1.1 13 (6 * r + (s + i)) = μ.1 13 (6 * r + (s + i)) := hB.1 13 _ (by omega) (by omega) (by omega)
    have y2 : μ1.2 14 (6 * r + (s + i)) = μ.2 14 (6 * r + (s + i)) := hB.2 14 _ (by omega)
    have hp := x_put1 (μ := μ1) (i := d + i) hr0 hT (by omega) h11 (μ.1 13 (6 * r + (s + i))) (μ.2 14 (6 * r + (s + i))) (hw i (by omega))
    obtain ⟨μ2, g1, g2, g3, g4⟩ := ih f (i + 1) (wL (wI μ1 13 (6 * r0 + (d + i)) (ptT T (μ.1 13 (6 * r + (s + i))))) 14 (6 * r0 + (d + i)) (ptC T (μ.1 13 (6 * r + (s + i))) (μ.2 14 (6 * r + (s + i))))) (by omega) (by omega) (hB.set (show d + i < 6 by omega) _ _) h11
    refine ⟨μ2, ?_, g2, fun o ho => ?_, fun j hj => ?_⟩
    · unfold fX5_putAll_b3
      rw [if_neg (nI_ge (by omega) (by omega)), nI_add, nI_add, bd (x_typeAt hr (by omega) μ1), bd (x_codeAt hr (by omega) μ1), y1, y2, bd hp, nI_1]
      exact g1
    · rw [g3 o ho]
      funext k
      rw [wL_1, wI_1, if_neg (fun z => ho z.1)]
    · obtain ⟨q1, q2⟩ := g4 j hj
      rw [wL_1, wI_1] at q1
      rw [wL_2, wI_2] at q2
      refine ⟨q1.trans ?_, q2.trans ?_⟩
      · by_cases z : j = d + i
        · subst z
          rw [if_neg (by omega), if_pos ⟨rfl, rfl⟩, if_pos (by omega), show d + i - d = i by omega]
        · by_cases y : d + (i + 1) ≤ j ∧ j < d + c
          · rw [if_pos y, if_pos (by omega)]
          · rw [if_neg y, if_neg (by omega), if_neg (by omega)]
      · by_cases z : j = d + i
        · subst z
          rw [if_neg (by omega), if_pos ⟨rfl, rfl⟩, if_pos (by omega), show d + i - d = i by omega]
        · by_cases y : d + (i + 1) ≤ j ∧ j < d + c
          · rw [if_pos y, if_pos (by omega)]
          · rw [if_neg y, if_neg (by omega), if_neg (by omega)]
theorem wid_self (c : Int64) (t : Nat) : fX2_widened c (nI t) (nI t) = some c := by unfold fX2_widened; rw [if_pos rfl]
theorem ct_m {μ : Mm} {q s c sp : Nat} (b : Int32) (hq : q < 11) (hsc : s + c ≤ 6) (hsp : sp < 2 ^ 31) (h1 : sp / 10 = s) (h2 : sp % 10 = c) (T : Int32) : ∀ m f i (μ1 : Mm), i + m = c → m < f → BM μ μ1 T i (fun i => μ.1 6 (6 * q + (s + i))) (fun i => μ.1 7 (6 * q + (s + i))) (fun i => μ.2 8 (6 * q + (s + i))) → ∃ μ2, fX8_cut_b91 f b (nI sp) (nI q) (nI (s + i)) μ1 = ((fX8_holdNew b μ2).bind fun μ156 => some ((μ156.1 0 32), μ156)) ∧ BM μ μ2 T c (fun i => μ.1 6 (6 * q + (s + i))) (fun i => μ.1 7 (6 * q + (s + i))) (fun i => μ.2 8 (6 * q + (s + i))) := by
  have hsum : jdiv (nI sp) 10 + jrem (nI sp) 10 = nI (s + c) := by rw [dv10 hsp, rm10 hsp, nI_add, h1, h2]
  intro m
  induction m with
  | zero =>
    intro f i μ1 he hf hB
    obtain ⟨f, rfl⟩ : ∃ g, f = g + 1 := ⟨f - 1, by omega⟩
    have : i = c := by omega
    subst this
    refine ⟨μ1, ?_, hB⟩
    unfold fX8_cut_b91
    rw [hsum, if_pos (nI_le (by omega) (by omega))]
  | succ m ih =>
    intro f i μ1 he hf hB
    obtain ⟨f, rfl⟩ : ∃ g, f = g + 1 := ⟨f - 1, by omega⟩
    obtain ⟨p1, p2⟩ := hB.put (by omega)
    obtain ⟨μ2, g1, g2⟩ := ih f (i + 1) _ (by omega) (by omega) p2
    have ib : inb (nI (6 * q + (s + i))) 66 = true := inb_nI (by omega) (by decide)
    have e6 : μ1.1 6 (6 * q + (s + i)) = μ.1 6 (6 * q + (s + i)) := hB.1.1 6 _ (by simp [scM])
    have e7 : μ1.1 7 (6 * q + (s + i)) = μ.1 7 (6 * q + (s + i)) := hB.1.1 7 _ (by simp [scM])
    have e8 : μ1.2 8 (6 * q + (s + i)) = μ.2 8 (6 * q + (s + i)) := hB.1.2 8 _ (Or.inr (Or.inl rfl))
    refine ⟨μ2, ?_, g2⟩
    unfold fX8_cut_b91
    rw [hsum, if_neg (nI_ge (by omega) (by omega)), ix6', if_pos ib, if_pos ib, if_pos ib, cl (by omega), e6, e7, e8, bd p1, nI_1]
    exact g1
theorem st_cut : St_cut Rel := by
  intro p1 p2 p3 μx μm h
  have h0 := h
  obtain ⟨hRp, mc, hq⟩ := h.q
  have hq0 := hq
  obtain ⟨hT, hV, hM, hH, hC, hG⟩ := hq
  have hin : fX8_in (Int32.toInt64 p3) 0 69 = _ := in32 p3 0 69
  rcases slot_cases p1 with hp | ⟨a, ha, rfl⟩
  · exact ⟨-1, μx, μm, by unfold fX7_cut; rw [x_isSlot, bz_f hp]; rfl, by unfold fX8_cut; rw [m_isSlot, bz_f hp]; rfl, h0⟩
  have hs := slot_ok ha
  rcases slot_cases p2 with hp | ⟨b, hb, rfl⟩
  · exact ⟨-1, μx, μm, by unfold fX7_cut; rw [x_isSlot, bz_t hs, bd rfl, if_neg one_ne, x_isSlot, bz_f hp]; rfl, by unfold fX8_cut; rw [m_isSlot, bz_t hs, bd rfl, if_neg one_ne, m_isSlot, bz_f hp]; rfl, h0⟩
  have hs2 := slot_ok hb
  obtain ⟨r, t, hr, ht, e1, e2, e3, hA⟩ := slotR hC ha
  rcases hA.symm with ⟨h13, m1, x1⟩ | ⟨h12, q, n, hq', hn, m1, m2, x1, m3, hce⟩
  · refine ⟨-3, μx, μm, ?_, ?_, h0⟩
    · unfold fX7_cut
      rw [x_isSlot, bz_t hs, bd rfl, if_neg one_ne, x_isSlot, bz_t hs2, bd rfl, if_neg one_ne, x_holds ha hr ht e1 e2, bz_f (by omega), bd rfl, if_pos rfl]
    · unfold fX8_cut
      rw [m_isSlot, bz_t hs, bd rfl, if_neg one_ne, m_isSlot, bz_t hs2, bd rfl, if_neg one_ne, m_holds ha ht e3, bz_f (by omega), bd rfl, if_pos rfl]
  have xpre : fX7_cut (nI a) (nI b) p3 μx = (if p3 < 0 then some ((-2 : Int32), μx) else (if ((jdiv p3 (10 : Int32)) + (jrem p3 (10 : Int32))) ≤ nI n then (bnd (fX7_newRow (nI t) (jrem p3 (10 : Int32)) μx) fun r84 μ84 => ((fX5_putAll (nI r) (jdiv p3 (10 : Int32)) (jrem p3 (10 : Int32)) r84 (0 : Int32) μ84).bind fun μ102 => ((fX7_replace (nI b) r84 μ102).bind fun μ109 => some (nI t, μ109)))) else some ((-2 : Int32), μx))) := by
    unfold fX7_cut
    rw [x_isSlot, bz_t hs, bd rfl, if_neg one_ne, x_isSlot, bz_t hs2, bd rfl, if_neg one_ne, x_holds ha hr ht e1 e2, bz_t h12, bd rfl, if_neg one_ne, if_pos (inb10 ha), cl (by omega), e1, if_pos (inb26 hr), cl (by omega), x1, bd (x_thingIn ha hr e1 e2)]
  have mpre : fX8_cut (nI a) (nI b) p3 μm = (if bz (0 ≤ p3 ∧ p3 ≤ 69) = 0 then some ((-2 : Int32), μm) else (if ((jdiv p3 (10 : Int32)) + (jrem p3 (10 : Int32))) ≤ nI n then fX8_cut_b91 100 (nI b) p3 (nI q) (jdiv p3 (10 : Int32)) (wI (wI μm 0 32 (nI t)) 0 33 (0 : Int32)) else some ((-2 : Int32), μm))) := by
    unfold fX8_cut
    rw [m_isSlot, bz_t hs, bd rfl, if_neg one_ne, m_isSlot, bz_t hs2, bd rfl, if_neg one_ne, m_holds ha ht e3, bz_t h12, bd rfl, if_neg one_ne, if_pos (inb10 ha), hin, bd rfl, cl (by omega), m1, if_pos (inb11 hq'), if_pos (inb11 hq'), cl (by omega), m2, m3]
  rw [xpre, mpre]
  by_cases hneg : p3 < 0
  · exact ⟨-2, μx, μm, by rw [if_pos hneg], by rw [bz_f (fun z => Int32.not_lt.mpr z.1 hneg), if_pos rfl], h0⟩
  obtain ⟨sp, hsp, rfl⟩ := nI_of hneg
  have hsum : jdiv (nI sp) 10 + jrem (nI sp) 10 = nI (sp / 10 + sp % 10) := by rw [dv10 hsp, rm10 hsp, nI_add]
  have hle : nI (sp / 10 + sp % 10) ≤ nI n ↔ sp / 10 + sp % 10 ≤ n := nI_leI (by omega) (by omega)
  rw [if_neg hneg, hsum]
  by_cases hfit : sp / 10 + sp % 10 ≤ n
  · have h69 : 0 ≤ nI sp ∧ nI sp ≤ 69 := ⟨nI_pos' hsp, nI_le (b := 69) (by omega) (by decide)⟩
    rw [if_pos (hle.mpr hfit), if_pos (hle.mpr hfit), bz_t h69, if_neg one_ne, dv10 hsp, rm10 hsp]
    have hc6 : sp % 10 ≤ 6 := by omega
    obtain ⟨r0, r1, r2, r3, f1, fin⟩ := new_row hq0 hRp
    have hrr : r ≠ r0 := fun z => f1 a ha (by rw [e1, z])
    obtain ⟨μx1, k1, hB, k3, k4, -⟩ := x_prep (μ := μx) (r0 := r0) (t := t) (n := sp % 10) r2 hc6 ht
    have hce' : ∀ i, i < sp % 10 → Ce mc (μm.1 10) t (μx.1 13 (6 * r + (sp / 10 + i))) (μx.2 14 (6 * r + (sp / 10 + i))) (μm.1 6 (6 * q + (sp / 10 + i))) (μm.1 7 (6 * q + (sp / 10 + i))) (μm.2 8 (6 * q + (sp / 10 + i))) := fun i hi => hce (sp / 10 + i) (by omega)
    obtain ⟨μx2, g1, g2, g3, g4⟩ := x_putAll (μ := μx) (r := r) (r0 := r0) (T := t) (s := sp / 10) (d := 0) (c := sp % 10) hr r2 hrr h12 (by omega) (by omega) (fun i hi h8 => by
      obtain ⟨v1, -⟩ := (hce' i hi).val h8
      rw [v1]
      exact ⟨_, wid_self _ _⟩) (sp % 10) 100 0 μx1 (by omega) (by omega) hB k3
    obtain ⟨μm2, y1, y2, y3, y4, y5⟩ := ct_m (μ := μm) (q := q) (s := sp / 10) (c := sp % 10) (sp := sp) (nI b) hq' (by omega) hsp rfl rfl (nI t) (sp % 10) 100 0 _ (by omega) (by omega) (BM.start μm (nI t) _ _ _)
    obtain ⟨μx', μm', z1, z2, z3, z4, -⟩ := fin μx2 μm2 b t (sp % 10) g2 y2 hb h12 hc6 (by rw [g3 11 (by decide)]; exact k3) (by rw [g3 12 (by decide)]; exact k4) y3 y4 (fun i hi => by
      obtain ⟨a1, a2⟩ := g4 i (by omega)
      obtain ⟨b1, b2, b3⟩ := y5 i hi
      rw [a1, a2, b1, b2, b3, if_pos (by omega), if_pos (by omega), Nat.sub_zero]
      have hcc := hce' i hi
      unfold ptT ptC
      by_cases h8 : t < 8
      · obtain ⟨v1, v2, v3, v4, v5⟩ := hcc.val h8
        rw [if_pos h8, if_pos h8, v1, wid_self]
        rw [v1] at hcc
        exact hcc
      · rw [if_neg h8, if_neg h8]
        exact hcc)
    refine ⟨nI t, μx', μm', ?_, ?_, z3⟩
    · have hnr : fX7_newRow (nI t) (nI (sp % 10)) μx = some (nI r0, μx1) := by
        unfold fX7_newRow
        rw [bd r3, bd k1]
      have hpa : fX5_putAll (nI r) (nI (sp / 10)) (nI (sp % 10)) (nI r0) 0 μx1 = some μx2 := g1
      rw [bn hnr, bd hpa, bd z1]
    · have y1' : fX8_cut_b91 100 (nI b) (nI sp) (nI q) (nI (sp / 10)) (wI (wI μm 0 32 (nI t)) 0 33 0) = _ := y1
      rw [y1', bd z2, z4]
  · rw [if_neg (fun z => hfit (hle.mp z)), if_neg (fun z => hfit (hle.mp z)), ite_self]
    exact ⟨-2, μx, μm, rfl, rfl, h0⟩
