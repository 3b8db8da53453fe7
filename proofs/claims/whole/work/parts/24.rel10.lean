/-! PURE PART 10: grow, mark -/
theorem x_isMarkN (p : Int32) : fX7_isMarkNumber p = some (bz (0 ≤ p ∧ p ≤ 999)) := by
  unfold fX7_isMarkNumber
  by_cases h1 : p < 0
  · rw [if_pos h1, bz_f (fun z => Int32.not_lt.mpr z.1 h1)]
  · rw [if_neg h1]
    by_cases h2 : (999 : Int32) < p
    · rw [if_pos h2, bz_f (fun z => Int32.not_lt.mpr z.2 h2)]
    · rw [if_neg h2, bz_t ⟨Int32.not_lt.mp h1, Int32.not_lt.mp h2⟩]
def xNumAct (μ : Mm) (p kp j : Nat) (old new : Int32) : Mm := wI (wI (wI (wI (wI (wI (wI μ 15 p 2) 16 p (nI j)) 17 p 0) 18 p old) 3 6 (nI ((p + 1) % 14))) 3 7 (nI (if kp < 14 then kp + 1 else 14))) 21 j new
theorem xNum_log {μ : Mm} {p kp j : Nat} {old new : Int32} : Xlog μ (xNumAct μ p kp j old new) p := by
  intro q hq
  refine ⟨⟨?_, ?_, ?_, ?_⟩, fun i hi => ⟨rfl, rfl⟩⟩
  · show (if 15 = 15 ∧ q = p then (2 : Int32) else μ.1 15 q) = μ.1 15 q
    rw [if_neg (fun z => hq z.2)]
  · show (if 16 = 16 ∧ q = p then nI j else μ.1 16 q) = μ.1 16 q
    rw [if_neg (fun z => hq z.2)]
  · show (if 17 = 17 ∧ q = p then (0 : Int32) else μ.1 17 q) = μ.1 17 q
    rw [if_neg (fun z => hq z.2)]
  · show (if 18 = 18 ∧ q = p then old else μ.1 18 q) = μ.1 18 q
    rw [if_neg (fun z => hq z.2)]
theorem st_grow : St_grow Rel := by
  intro p1 μx μm h
  have h0 := h
  obtain ⟨hT, hV, hR, mc, hM, hH, hC, nx, kp, hnx, hkp, x6, m27, x7, m26, hL⟩ := h
  have hin : fX8_in (Int32.toInt64 p1) 0 999 = _ := in32 p1 0 999
  by_cases hp : ¬ (0 ≤ p1 ∧ p1 ≤ 999)
  · exact ⟨-2, μx, μm, by unfold fX7_grow; rw [x_isMarkN, bz_f hp]; rfl, by unfold fX8_grow; rw [hin, bz_f hp]; rfl, h0⟩
  replace hp := Decidable.not_not.mp hp
  by_cases hf : ¬ μx.1 0 8 = 3
  · refine ⟨-3, μx, μm, ?_, ?_, h0⟩
    · unfold fX7_grow
      rw [x_isMarkN, bz_t hp]
      simp only [Option.bind_some, one_ne, if_false]
      rw [if_neg hf]
    · unfold fX8_grow
      rw [hin, bz_t hp]
      simp only [Option.bind_some, one_ne, if_false]
      rw [← hH.1, if_neg hf]
  replace hf := Decidable.not_not.mp hf
  have hI := hH.2
  rw [hf] at hI
  obtain ⟨j, hj, ec, ev⟩ : ∃ j, j < mc ∧ μx.2 0 10 = lN j ∧ μm.2 0 14 = lN j := by
    rcases hI with ⟨z, -⟩ | ⟨z | z, -⟩ | ⟨-, j, hj, a1, a2, -⟩ | ⟨z, -⟩
    · exact absurd z (by decide)
    · exact absurd z (by decide)
    · exact absurd z (by decide)
    · exact ⟨j, hj, a1, a2⟩
    · exact absurd z (by decide)
  have hm20 := hM.1
  have el : (lN j).toInt32 = nI j := lN_i j
  have ij : inb (nI j) 20 = true := inb_nI (by omega) (by decide)
  have cj : (nI j).toNatClampNeg = j := cl (by omega)
  obtain ⟨μ', en, nm, sm, n27, n26, nk, n8, -, -, n2⟩ := m_note2 hnx hkp m27 m26 hM.2.2.1
  have e14 : μ'.2 0 14 = lN j := by rw [n2 0 (by decide)]; exact ev
  have e9 : μ'.1 9 = μm.1 9 := nk 9 (by decide)
  have hn0 : ∀ k, k < mc → μx.1 21 k = μm.1 9 k := fun k hk => (hM.2.2.2 k hk).1
  refine ⟨μx.1 21 j, xNumAct μx nx kp j (μx.1 21 j) p1, wI μ' 9 j p1, ?_, ?_, ?_⟩
  · unfold fX7_grow
    rw [x_isMarkN, bz_t hp]
    simp only [Option.bind_some, one_ne, if_false]
    rw [if_pos hf, ec, el]
    unfold fX1_numberOf fX0_keepNumber fX1_setNumber
    rw [if_pos ij, cj]
    simp only [Option.bind_some]
    rw [x_add hnx hkp x6 x7]
    simp only [bnd, Option.bind_some]
    rw [if_pos ij]
    rfl
  · unfold fX8_grow
    rw [hin, bz_t hp]
    simp only [Option.bind_some, one_ne, if_false]
    rw [← hH.1, if_pos hf, en]
    simp only [Option.bind_some]
    rw [e14, el, if_pos ij, if_pos ij, cj, e9, hn0 j hj]
  · obtain ⟨f1, f2⟩ := no30 hC hL
    have e15 : (xNumAct μx nx kp j (μx.1 21 j) p1).1 15 nx = 2 := by show (if 15 = 15 ∧ nx = nx then (2 : Int32) else μx.1 15 nx) = 2; simp
    have e16 : (xNumAct μx nx kp j (μx.1 21 j) p1).1 16 nx = nI j := by show (if 16 = 16 ∧ nx = nx then nI j else μx.1 16 nx) = nI j; simp
    have e17 : (xNumAct μx nx kp j (μx.1 21 j) p1).1 17 nx = 0 := by show (if 17 = 17 ∧ nx = nx then (0 : Int32) else μx.1 17 nx) = 0; simp
    have e18 : (xNumAct μx nx kp j (μx.1 21 j) p1).1 18 nx = μx.1 21 j := by show (if 18 = 18 ∧ nx = nx then μx.1 21 j else μx.1 18 nx) = μx.1 21 j; simp
    have hun : unA (xNumAct μx nx kp j (μx.1 21 j) p1) nx (xcore (xNumAct μx nx kp j (μx.1 21 j) p1)) = xcore μx := by
      unfold unA
      rw [e15, if_neg (by decide), if_neg (by decide), e16, e18, cj]
      have : upd (xcore (xNumAct μx nx kp j (μx.1 21 j) p1)).2.2.2 j (μx.1 21 j) = μx.1 21 := by
        funext k
        show (if k = j then μx.1 21 j else if 21 = 21 ∧ k = j then p1 else μx.1 21 k) = μx.1 21 k
        by_cases z : k = j
        · rw [if_pos z, z]
        · rw [if_neg z, if_neg (fun y => z y.2)]
      rw [this]
      rfl
    have hac : Ac1 (xNumAct μx nx kp j (μx.1 21 j) p1) (wI μ' 9 j p1) mc nx :=
      ⟨⟨0, by decide, e17⟩, ⟨mc, Nat.le_refl _, nm.2.1, Or.inr (Or.inr ⟨e15, j, hj, e16⟩)⟩, fun z => absurd (e15.symm.trans z) (by decide)⟩
    have hLg : Lg (xNumAct μx nx kp j (μx.1 21 j) p1) (wI μ' 9 j p1) mc ((nx + 1) % 14) (if kp < 14 then kp + 1 else 14) :=
      push (r0 := 30) hnx hL hC.1 hn0 hM.1 (nm.w (by decide)) xNum_log hac (by rw [hun]; exact AgX.rf) (fun _ _ => ⟨rfl, rfl⟩) f1 f2
    refine sm_rel hT hV hR hH hM ⟨rfl, rfl, rfl, rfl, rfl, rfl, rfl, rfl, rfl, rfl⟩ (sm.w (by decide)) (fun k hk => ?_) ⟨?_, hC.2⟩ ⟨(nx + 1) % 14, if kp < 14 then kp + 1 else 14, Nat.mod_lt _ (by decide), by split <;> omega, rfl, n27, rfl, n26, hLg⟩
    · show (if 21 = 21 ∧ k = j then p1 else μx.1 21 k) = if 9 = 9 ∧ k = j then p1 else μ'.1 9 k
      by_cases z : k = j
      · rw [if_pos ⟨rfl, z⟩, if_pos ⟨rfl, z⟩]
      · rw [if_neg (fun y => z y.2), if_neg (fun y => z y.2), e9]
        exact hn0 k hk
    · have em : mcore (wI μ' 9 j p1) = mcore μm := by
        show (μ'.1 2, μ'.1 3, μ'.1 4, μ'.1 5, μ'.1 6, μ'.1 7, μ'.2 8) = _
        rw [nk 2 (by decide), nk 3 (by decide), nk 4 (by decide), nk 5 (by decide), nk 6 (by decide), nk 7 (by decide), n8]
        rfl
      have e10 : (wI μ' 9 j p1).1 10 = μm.1 10 := nm.1
      rw [em, e10]
      exact hC.1
