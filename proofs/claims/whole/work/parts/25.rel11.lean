/-! PURE PART 11: mark -/
theorem It.mono {mc : Nat} {star star' : Nat → Int32} {f xt mk : Int32} {xc mv : Int64} (h : It mc star f xt xc mk mv) (hs : ∀ j, j < mc → star' j = star j) : It (mc + 1) star' f xt xc mk mv := by
  rcases h with h | h | ⟨z, j, hj, a1, a2, a3⟩ | h
  · exact Or.inl h
  · exact Or.inr (Or.inl h)
  · exact Or.inr (Or.inr (Or.inl ⟨z, j, by omega, a1, a2, by rw [hs j hj]; exact a3⟩))
  · exact Or.inr (Or.inr (Or.inr h))
theorem Cr.mono {mc : Nat} {star star' th le : Nat → Int32} {x x' : Xc} {m : Mc} (h : Cr mc star th le x m) (hs : ∀ j, j < mc → star' j = star j) (e1 : x'.1 = x.1) (e2 : x'.2.1 = x.2.1) (e3 : x'.2.2.1 = x.2.2.1) : Cr (mc + 1) star' th le x' m := by
  refine ⟨fun a ha => ?_, fun a b ha hb hne => by rw [e1]; exact h.2 a b ha hb hne⟩
  obtain ⟨r, t, hr, ht2, k1, k2, k3, k4⟩ := h.1 a ha
  refine ⟨r, t, hr, ht2, by rw [e1]; exact k1, k2, k3, ?_⟩
  rcases k4 with ⟨h12, q, n, hq, hn, m1, m2, x1, m3, hc⟩ | k4
  · refine Or.inl ⟨h12, q, n, hq, hn, m1, m2, x1, m3, fun i hi => ?_⟩
    obtain ⟨c1, c2, c3⟩ := hc i hi
    rw [e2, e3]
    exact ⟨c1, c2, c3.mono hs⟩
  · exact Or.inr k4
def AgN (n0 : Nat) (c c' : Xc) : Prop := c'.1 = c.1 ∧ c'.2.1 = c.2.1 ∧ c'.2.2.1 = c.2.2.1 ∧ ∀ k, k ≠ n0 → c'.2.2.2 k = c.2.2.2 k
theorem AgN.un {n0 : Nat} {c c' : Xc} (h : AgN n0 c c') (μ : Mm) (p : Nat) : AgN n0 (unA μ p c) (unA μ p c') := by
  obtain ⟨h1, h2, h3, h4⟩ := h
  unfold unA
  by_cases s0 : μ.1 15 p = 0
  · rw [if_pos s0, if_pos s0]
    exact ⟨by simp only [h1], h2, h3, h4⟩
  · rw [if_neg s0, if_neg s0]
    by_cases s1 : μ.1 15 p = 1
    · rw [if_pos s1, if_pos s1]
      exact ⟨h1, by simp only [h2], by simp only [h3], h4⟩
    · rw [if_neg s1, if_neg s1]
      refine ⟨h1, h2, h3, fun k hk => ?_⟩
      show upd c'.2.2.2 _ _ k = upd c.2.2.2 _ _ k
      unfold upd
      split
      · rfl
      · exact h4 k hk
theorem mark_lg {μx μm μx' μm' : Mm} {mc nx kp : Nat} (hmc : mc ≤ 20) (hL : Lg μx μm mc nx kp) (hc : AgN mc (xcore μx) (xcore μx')) (hu : ∀ p c, unA μx' p c = unA μx p c) (h15 : μx'.1 15 = μx.1 15) (h16 : μx'.1 16 = μx.1 16) (h17 : μx'.1 17 = μx.1 17) (h11 : μx'.1 11 = μx.1 11) (h12 : μx'.1 12 = μx.1 12)
    (m20 : μm'.1 20 = μm.1 20) (m19 : μm'.1 19 = μm.1 19) (ms : ∀ p, msnap μm' p = msnap μm p) (hs : ∀ j, j < mc → μm'.1 10 j = μm.1 10 j) : Lg μx' μm' (mc + 1) nx kp := by
  have hA : ∀ j, AgN mc (Un μx nx j) (Un μx' nx j) := by
    intro j
    induction j with
    | zero => exact hc
    | succ j ih =>
      show AgN mc (unA μx (lpos nx (j + 1)) (Un μx nx j)) (unA μx' (lpos nx (j + 1)) (Un μx' nx j))
      rw [hu]
      exact ih.un μx _
  intro j h1 h2
  obtain ⟨⟨g1, ⟨om, hom, go, g4⟩, g5⟩, g2, g3⟩ := hL j h1 h2
  refine ⟨⟨by rw [h17]; exact g1, ⟨om, by omega, by rw [m20]; exact go, by rw [h15, h16]; exact g4⟩, by rw [h15, h16]; exact g5⟩, ?_, fun k om' h20 ho hk => ?_⟩
  · rw [h11, h12, ms]
    exact g2.mono hs (hA j).1 (hA j).2.1 (hA j).2.2.1
  · rw [m20] at ho
    have hle : om' = om := by
      rw [go] at ho
      exact ((nI_eq (by omega) (by omega)).mp ho).symm
    rw [m19, (hA j).2.2.2 k (by omega)]
    exact g3 k om' h20 ho hk
theorem st_mark : St_mark Rel := by
  intro p1 p2 μx μm h
  have h0 := h
  obtain ⟨hT, hV, hR, mc, hM, hH, hC, nx, kp, hnx, hkp, x6, m27, x7, m26, hL⟩ := h
  have hin1 : fX8_in (Int32.toInt64 p1) 0 1 = _ := in32 p1 0 1
  have hin : fX8_in (Int32.toInt64 p2) 0 999 = _ := in32 p2 0 999
  rcases rng p1 1 (n := 1) rfl with hp | ⟨w, hw, rfl⟩
  · refine ⟨-2, μx, μm, ?_, by unfold fX8_mark; rw [hin1, bz_f hp]; rfl, h0⟩
    unfold fX7_mark
    rcases not_rng hp with z | ⟨z, z2⟩
    · rw [if_pos z]
    · rw [if_neg z, if_pos (Int32.not_le.mp z2)]
  have hp1 := rng_ok (M := 1) (n := 1) rfl (by decide) hw
  by_cases hp : ¬ (0 ≤ p2 ∧ p2 ≤ 999)
  · refine ⟨-2, μx, μm, ?_, by unfold fX8_mark; rw [hin1, bz_t hp1, hin, bz_f hp]; rfl, h0⟩
    unfold fX7_mark
    rw [if_neg (Int32.not_lt.mpr hp1.1), if_neg (Int32.not_lt.mpr hp1.2), x_isMarkN, bz_f hp]
    rfl
  replace hp := Decidable.not_not.mp hp
  obtain ⟨hmc, x41, m11, hmk⟩ := hM
  have i20 : ((nI mc < 20) ↔ mc < 20) := nI_ltI (b := 20) (by omega) (by decide)
  by_cases hf : mc = 20
  · refine ⟨-4, μx, μm, ?_, ?_, h0⟩
    · unfold fX7_mark fX1_isFull
      rw [if_neg (Int32.not_lt.mpr hp1.1), if_neg (Int32.not_lt.mpr hp1.2), x_isMarkN, bz_t hp, x41]
      simp only [Option.bind_some, one_ne, if_false]
      rw [if_neg (fun z => by have := i20.mp z; omega)]
      rfl
    · unfold fX8_mark
      rw [hin1, bz_t hp1, hin, bz_t hp]
      simp only [Option.bind_some, one_ne, if_false]
      rw [m11, hf, if_pos (show nI 20 = 20 from rfl)]
  have hlt : mc < 20 := by omega
  have ij : inb (nI mc) 20 = true := inb_nI hlt (by decide)
  have cj : (nI mc).toNatClampNeg = mc := cl (by omega)
  have hne : nI mc ≠ 20 := nI_ne (b := 20) (by omega) (by decide) hf
  have hsub : nI (mc + 1) - 1 = nI mc := by rw [← nI_1]; exact Int32.add_sub_cancel _ _
  have hl : (nI mc).toInt64 = lN mc := nI_l (by omega)
  have w01 : w = 0 ∨ w = 1 := by omega
  have key : ∀ (ty st : Int32), ((ty = 9 ∧ st = 1) ∨ (ty = 8 ∧ st = 0)) → Rel (wL (wI (wI (wI (wI μx 21 mc p2) 4 1 (nI (mc + 1))) 0 8 3) 0 9 ty) 0 10 (lN mc)) (wI (wL (wI (wI (wI (wI μm 9 mc p2) 10 mc st) 0 12 3) 0 13 0) 0 14 (lN mc)) 0 11 (nI (mc + 1))) := by
    intro ty st hty
    have hstar : ∀ j, j < mc → (wI (wL (wI (wI (wI (wI μm 9 mc p2) 10 mc st) 0 12 3) 0 13 0) 0 14 (lN mc)) 0 11 (nI (mc + 1))).1 10 j = μm.1 10 j := by
      intro j hj
      show (if 10 = 10 ∧ j = mc then st else μm.1 10 j) = μm.1 10 j
      rw [if_neg (fun z => by omega)]
    have hstm : (wI (wL (wI (wI (wI (wI μm 9 mc p2) 10 mc st) 0 12 3) 0 13 0) 0 14 (lN mc)) 0 11 (nI (mc + 1))).1 10 mc = st := by
      show (if 10 = 10 ∧ mc = mc then st else μm.1 10 mc) = st
      rw [if_pos ⟨rfl, rfl⟩]
    refine ⟨hT, hV, hR, mc + 1, ⟨by omega, rfl, rfl, fun j hj => ⟨?_, ?_⟩⟩, ⟨rfl, Or.inr (Or.inr (Or.inl ⟨rfl, mc, by omega, rfl, rfl, ?_⟩))⟩, ⟨hC.1.mono hstar rfl rfl rfl, hC.2⟩, nx, kp, hnx, hkp, x6, m27, x7, m26, ?_⟩
    · show (if 21 = 21 ∧ j = mc then p2 else μx.1 21 j) = if 9 = 9 ∧ j = mc then p2 else μm.1 9 j
      by_cases z : j = mc
      · rw [if_pos ⟨rfl, z⟩, if_pos ⟨rfl, z⟩]
      · rw [if_neg (fun y => z y.2), if_neg (fun y => z y.2)]
        exact (hmk j (by omega)).1
    · by_cases z : j = mc
      · rw [z, hstm]
        rcases hty with ⟨-, y⟩ | ⟨-, y⟩
        · exact Or.inr y
        · exact Or.inl y
      · rw [hstar j (by omega)]
        exact (hmk j (by omega)).2
    · rw [hstm]
      exact hty
    · refine mark_lg hmc hL ⟨rfl, rfl, rfl, fun k hk => ?_⟩ (fun _ _ => rfl) rfl rfl rfl rfl rfl rfl rfl (fun _ => rfl) hstar
      show (if 21 = 21 ∧ k = mc then p2 else μx.1 21 k) = μx.1 21 k
      rw [if_neg (fun z => hk z.2)]
  have xpre : fX7_mark (nI w) p2 μx = (if nI w = 1 then fX7_mark_b55 (nI mc) 9 3 (wI (wI μx 21 mc p2) 4 1 (nI (mc + 1))) else fX7_mark_b55 (nI mc) 8 3 (wI (wI μx 21 mc p2) 4 1 (nI (mc + 1)))) := by
    unfold fX7_mark fX1_isFull fX1_create
    rw [if_neg (Int32.not_lt.mpr hp1.1), if_neg (Int32.not_lt.mpr hp1.2), x_isMarkN, bz_t hp, x41]
    simp only [Option.bind_some, one_ne, if_false]
    rw [if_pos (i20.mpr hlt)]
    simp only [Option.bind_some, if_true]
    rw [if_pos ij, cj]
    have z1 : (wI μx 21 mc p2).1 4 1 = nI mc := x41
    rw [z1, nI_1]
    have z2 : (wI (wI μx 21 mc p2) 4 1 (nI (mc + 1))).1 4 1 = nI (mc + 1) := rfl
    rw [z2, hsub]
    rfl
  have mpre : fX8_mark (nI w) p2 μm = (if nI w = 1 then fX8_mark_b65 1 (nI mc) (wI μm 9 mc p2) else fX8_mark_b65 0 (nI mc) (wI μm 9 mc p2)) := by
    unfold fX8_mark
    rw [hin1, bz_t hp1, hin, bz_t hp]
    simp only [Option.bind_some, one_ne, if_false]
    rw [m11, if_neg hne, if_pos ij, cj]
    have z1 : (wI μm 9 mc p2).1 0 11 = nI mc := m11
    rw [z1]
  have mb : ∀ st : Int32, rbz st = true → fX8_mark_b65 st (nI mc) (wI μm 9 mc p2) = some (nI mc, wI (wL (wI (wI (wI (wI μm 9 mc p2) 10 mc st) 0 12 3) 0 13 0) 0 14 (lN mc)) 0 11 (nI (mc + 1))) := by
    intro st hst
    unfold fX8_mark_b65 fX8_hold
    rw [if_pos ij, if_pos hst, cj]
    have z1 : (wI (wI μm 9 mc p2) 10 mc st).1 0 11 = nI mc := m11
    rw [z1, hl]
    simp only [Option.bind_some]
    have z2 : (wL (wI (wI (wI (wI μm 9 mc p2) 10 mc st) 0 12 3) 0 13 0) 0 14 (lN mc)).1 0 11 = nI mc := m11
    rw [z2, nI_1]
    have z3 : (wI (wL (wI (wI (wI (wI μm 9 mc p2) 10 mc st) 0 12 3) 0 13 0) 0 14 (lN mc)) 0 11 (nI (mc + 1))).1 0 11 = nI (mc + 1) := rfl
    rw [z3, hsub]
  have xb : ∀ ty : Int32, fX7_mark_b55 (nI mc) ty 3 (wI (wI μx 21 mc p2) 4 1 (nI (mc + 1))) = some (nI mc, wL (wI (wI (wI (wI μx 21 mc p2) 4 1 (nI (mc + 1))) 0 8 3) 0 9 ty) 0 10 (lN mc)) := by
    intro ty
    unfold fX7_mark_b55 fX7_hold
    rw [hl]
    rfl
  rcases w01 with rfl | rfl
  · exact ⟨nI mc, _, _, by rw [xpre, if_neg (by decide), xb], by rw [mpre, if_neg (by decide), mb 0 (by decide)], key 8 0 (Or.inr ⟨rfl, rfl⟩)⟩
  · exact ⟨nI mc, _, _, by rw [xpre, if_pos (by decide), xb], by rw [mpre, if_pos (by decide), mb 1 (by decide)], key 9 1 (Or.inl ⟨rfl, rfl⟩)⟩
