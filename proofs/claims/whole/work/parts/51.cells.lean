/-! CELLS ACTS: keeping cells, changing a cell -/
theorem x_keepLp {p r : Nat} (hp : p < 14) (hr : r < 26) : ∀ (n k : Nat) (μ : Mm), k ≤ 6 → 6 - k < n → ∃ μ', fX0_keepCells_b12 n (nI r) (nI p) (nI k) μ = some μ' ∧ (∀ o j, μ'.1 o j = if o = 19 ∧ 6 * p + k ≤ j ∧ j < 6 * p + 6 then μ.1 13 (6 * r + (j - 6 * p)) else μ.1 o j) ∧ ∀ o j, μ'.2 o j = if o = 20 ∧ 6 * p + k ≤ j ∧ j < 6 * p + 6 then μ.2 14 (6 * r + (j - 6 * p)) else μ.2 o j := by
  intro n
  induction n with
  | zero => intro k μ hk hn; omega
  | succ n ih =>
    intro k μ hk hn
    by_cases h6 : k = 6
    · subst h6
      refine ⟨μ, by unfold fX0_keepCells_b12; rw [if_pos (show (6 : Int32) ≤ nI 6 by decide)], fun o j => by rw [if_neg (by omega)], fun o j => by rw [if_neg (by omega)]⟩
    · have hk6 : k < 6 := by omega
      have ib2 : inb (nI (6 * p + k)) 84 = true := inb_nI (by omega) (by decide)
      obtain ⟨μ', h1, h2, h3⟩ := ih (k + 1) (wL (wI μ 19 (6 * p + k) (μ.1 13 (6 * r + k))) 20 (6 * p + k) (μ.2 14 (6 * r + k))) (by omega) (by omega)
      refine ⟨μ', ?_, fun o j => ?_, fun o j => ?_⟩
      · unfold fX0_keepCells_b12
        rw [if_neg (show ¬ (6 : Int32) ≤ nI k from nI_ge (b := 6) hk6 (by decide)), bd (x_typeAt hr hk6 μ), ix6, if_pos ib2, bd (x_codeAt hr hk6 _), if_pos ib2, cl (by omega), nI_1]
        exact h1
      · rw [h2 o j]
        simp only [wI_1, wL_1, Nat.reduceEqDiff, false_and, if_false]
        by_cases o12 : o = 19
        · subst o12
          by_cases hj : j = 6 * p + k
          · subst hj
            rw [if_neg (by omega), if_pos ⟨rfl, rfl⟩, if_pos ⟨rfl, by omega⟩, Nat.add_sub_cancel_left]
          · by_cases hj2 : 6 * p + (k + 1) ≤ j ∧ j < 6 * p + 6
            · rw [if_pos ⟨rfl, hj2⟩, if_pos ⟨rfl, by omega⟩]
            · rw [if_neg (fun z => hj2 z.2), if_neg (fun z => hj z.2), if_neg (fun z => hj2 ⟨by omega, z.2.2⟩)]
        · rw [if_neg (fun z => o12 z.1), if_neg (fun z => o12 z.1), if_neg (fun z => o12 z.1)]
      · rw [h3 o j]
        simp only [wL_2, wI_2, Nat.reduceEqDiff, false_and, if_false]
        by_cases o12 : o = 20
        · subst o12
          by_cases hj : j = 6 * p + k
          · subst hj
            rw [if_neg (by omega), if_pos ⟨rfl, rfl⟩, if_pos ⟨rfl, by omega⟩, Nat.add_sub_cancel_left]
          · by_cases hj2 : 6 * p + (k + 1) ≤ j ∧ j < 6 * p + 6
            · rw [if_pos ⟨rfl, hj2⟩, if_pos ⟨rfl, by omega⟩]
            · rw [if_neg (fun z => hj2 z.2), if_neg (fun z => hj z.2), if_neg (fun z => hj2 ⟨by omega, z.2.2⟩)]
        · rw [if_neg (fun z => o12 z.1), if_neg (fun z => o12 z.1), if_neg (fun z => o12 z.1)]
/-- what keeping cells leaves -/
theorem x_keep {μ : Mm} {p kp r : Nat} (hp : p < 14) (hk : kp ≤ 14) (h6 : μ.1 3 6 = nI p) (h7 : μ.1 3 7 = nI kp) (hr : r < 26) : ∃ μ', fX0_keepCells (nI r) μ = some μ' ∧ μ'.1 15 p = 1 ∧ μ'.1 17 p = nI r ∧ μ'.1 3 6 = nI ((p + 1) % 14) ∧ μ'.1 3 7 = nI (if kp < 14 then kp + 1 else 14) ∧ Xlog μ μ' p ∧
    (∀ i, i < 6 → μ'.1 19 (6 * p + i) = μ.1 13 (6 * r + i) ∧ μ'.2 20 (6 * p + i) = μ.2 14 (6 * r + i)) ∧ (∀ o, o ∉ [3, 15, 16, 17, 18, 19] → μ'.1 o = μ.1 o) ∧ ∀ o, o ≠ 20 → μ'.2 o = μ.2 o := by
  obtain ⟨μ', h1, h2, h3⟩ := x_keepLp hp hr 100 0 (wI (wI (wI (wI (wI (wI μ 15 p 1) 16 p 0) 17 p (nI r)) 18 p 0) 3 6 (nI ((p + 1) % 14))) 3 7 (nI (if kp < 14 then kp + 1 else 14))) (by decide) (by decide)
  have h1' : fX0_keepCells_b12 100 (nI r) (nI p) 0 _ = some μ' := h1
  refine ⟨μ', ?_, ?_, ?_, ?_, ?_, ?_, ?_, ?_, ?_⟩
  · unfold fX0_keepCells
    rw [bn (x_add hp hk h6 h7 1 0 (nI r) 0)]
    exact h1'
  · rw [h2, if_neg (fun z => absurd z.1 (by decide))]
    show (if 15 = 15 ∧ p = p then (1 : Int32) else _) = 1
    rw [if_pos ⟨rfl, rfl⟩]
  · rw [h2, if_neg (fun z => absurd z.1 (by decide))]
    show (if 17 = 17 ∧ p = p then nI r else _) = nI r
    rw [if_pos ⟨rfl, rfl⟩]
  · rw [h2, if_neg (fun z => absurd z.1 (by decide))]
    rfl
  · rw [h2, if_neg (fun z => absurd z.1 (by decide))]
    rfl
  · intro q hq
    refine ⟨⟨?_, ?_, ?_, ?_⟩, fun i hi => ⟨?_, ?_⟩⟩
    · rw [h2, if_neg (fun z => absurd z.1 (by decide))]
      show (if 15 = 15 ∧ q = p then (1 : Int32) else μ.1 15 q) = μ.1 15 q
      rw [if_neg (fun z => hq z.2)]
    · rw [h2, if_neg (fun z => absurd z.1 (by decide))]
      show (if 16 = 16 ∧ q = p then (0 : Int32) else μ.1 16 q) = μ.1 16 q
      rw [if_neg (fun z => hq z.2)]
    · rw [h2, if_neg (fun z => absurd z.1 (by decide))]
      show (if 17 = 17 ∧ q = p then nI r else μ.1 17 q) = μ.1 17 q
      rw [if_neg (fun z => hq z.2)]
    · rw [h2, if_neg (fun z => absurd z.1 (by decide))]
      show (if 18 = 18 ∧ q = p then (0 : Int32) else μ.1 18 q) = μ.1 18 q
      rw [if_neg (fun z => hq z.2)]
    · rw [h2, if_neg (by omega)]
      rfl
    · rw [h3, if_neg (by omega)]
      rfl
  · intro i hi
    refine ⟨?_, ?_⟩
    · rw [h2, if_pos ⟨rfl, by omega, by omega⟩, Nat.add_sub_cancel_left]
      rfl
    · rw [h3, if_pos ⟨rfl, by omega, by omega⟩, Nat.add_sub_cancel_left]
      rfl
  · intro o ho
    simp only [List.mem_cons, List.not_mem_nil, or_false, not_or] at ho
    funext j
    rw [h2, if_neg (fun z => ho.2.2.2.2.2 z.1)]
    simp only [wI_1]
    rw [if_neg (fun z => ho.1 z.1), if_neg (fun z => ho.1 z.1), if_neg (fun z => ho.2.2.2.2.1 z.1), if_neg (fun z => ho.2.2.2.1 z.1), if_neg (fun z => ho.2.2.1 z.1), if_neg (fun z => ho.2.1 z.1)]
  · intro o ho
    funext j
    rw [h3, if_neg (fun z => ho z.1)]
    rfl
/-- the relation but for the report -/
def Rq (μx μm : Mm) (mc : Nat) : Prop := RTxt μx μm ∧ RVw μx μm ∧ RMk μx μm mc ∧ RHd μx μm mc ∧ RCo μx μm mc ∧ RLg μx μm mc
theorem Rel.q {μx μm : Mm} (h : Rel μx μm) : RRp μx μm ∧ ∃ mc, Rq μx μm mc := by
  obtain ⟨h1, h2, h3, mc, h4, h5, h6, h7⟩ := h
  exact ⟨h3, mc, h1, h2, h4, h5, h6, h7⟩
theorem Rq.rel {μx μm : Mm} {mc : Nat} (h : Rq μx μm mc) (hr : RRp μx μm) : Rel μx μm := ⟨h.1, h.2.1, hr, mc, h.2.2⟩
theorem Rq.eqM {μx μm μ' : Mm} {mc : Nat} (h : Rq μx μm mc) (e : EqM μm μ') : Rq μx μ' mc := by
  obtain ⟨h1, h2, h4, h5, h6, h7⟩ := h
  have M : ∀ o, o ≠ 0 → o < 24 → μ'.1 o = μm.1 o := fun o a b => funext fun k => e.1 o k (by
    simp only [scM, Bool.or_eq_false_iff, Bool.and_eq_false_iff, beq_eq_false_iff_ne, decide_eq_false_iff_not]
    exact ⟨Or.inl a, Or.inl (by omega)⟩)
  have M0 : ∀ k, scM 0 k = false → μ'.1 0 k = μm.1 0 k := fun k hk => e.1 0 k hk
  have M8 : μ'.2 8 = μm.2 8 := funext fun k => e.2 8 k (Or.inr (Or.inl rfl))
  have M18 : μ'.2 18 = μm.2 18 := funext fun k => e.2 18 k (Or.inr (Or.inr rfl))
  have M14 : μ'.2 0 14 = μm.2 0 14 := e.2 0 14 (Or.inl ⟨rfl, rfl⟩)
  refine ⟨?_, ?_, ?_, ?_, ?_, ?_⟩
  · simp only [RTxt, M0 1 rfl, M 1 (by decide) (by decide)]; exact h1
  · simp only [RVw, M0 31 rfl, M 21 (by decide) (by decide), M 22 (by decide) (by decide), M 23 (by decide) (by decide)]; exact h2
  · simp only [RMk, M0 11 rfl, M 9 (by decide) (by decide), M 10 (by decide) (by decide)]; exact h4
  · simp only [RHd, M0 12 rfl, M0 13 rfl, M14, M 10 (by decide) (by decide)]; exact h5
  · simp only [RCo, xcore, mcore, M 2 (by decide) (by decide), M 3 (by decide) (by decide), M 4 (by decide) (by decide), M 5 (by decide) (by decide), M 6 (by decide) (by decide), M 7 (by decide) (by decide), M 10 (by decide) (by decide), M8]; exact h6
  · exact RLg_c h7 rfl rfl rfl rfl rfl rfl rfl rfl rfl rfl rfl rfl rfl rfl (M 10 (by decide) (by decide)) (M 12 (by decide) (by decide)) (M 13 (by decide) (by decide)) (M 14 (by decide) (by decide)) (M 15 (by decide) (by decide)) (M 16 (by decide) (by decide)) (M 17 (by decide) (by decide)) M18 (M 19 (by decide) (by decide)) (M 20 (by decide) (by decide)) (M0 27 rfl) (M0 26 rfl)
/-- the latest act has kept the cells of row r -/
def LA (r : Nat) (μ : Mm) : Prop := ∃ nx, nx < 14 ∧ μ.1 3 6 = nI nx ∧ μ.1 15 (lpos nx 1) = 1 ∧ μ.1 17 (lpos nx 1) = nI r
theorem act_cells {μx μm : Mm} {mc r : Nat} (h : Rq μx μm mc) (hr : r < 26) : ∃ μx1 μm1, fX0_keepCells (nI r) μx = some μx1 ∧ fX8_note μm = some μm1 ∧ Rq μx1 μm1 mc ∧ LA r μx1 ∧ (∀ o, o ∉ [3, 15, 16, 17, 18, 19] → μx1.1 o = μx.1 o) ∧ (∀ o, o ≠ 20 → μx1.2 o = μx.2 o) ∧
    (∀ o, o ∈ [2, 3, 4, 5, 6, 7, 9] → μm1.1 o = μm.1 o) ∧ μm1.1 10 = μm.1 10 ∧ μm1.1 11 = μm.1 11 ∧ (∀ k, k ≠ 26 → k ≠ 27 → μm1.1 0 k = μm.1 0 k) ∧ ∀ o, o ≠ 18 → μm1.2 o = μm.2 o := by
  obtain ⟨hT, hV, hM, hH, hC, nx, kp, hnx, hkp, x6, m27, x7, m26, hL⟩ := h
  obtain ⟨μx1, k1, k15, k17, k36, k37, klog, kc, kx, kl⟩ := x_keep hnx hkp x6 x7 hr
  obtain ⟨μm1, en, nm, sm, n27, n26, nk, n8, n0, n24, nl⟩ := m_note2 hnx hkp m27 m26 hM.2.2.1
  obtain ⟨f1, f2⟩ := no30 hC hL
  have X : ∀ o, o ∉ [3, 15, 16, 17, 18, 19] → μx1.1 o = μx.1 o := kx
  have hun : unA μx1 nx (xcore μx1) = xcore μx := by
    have hcl : (nI r).toNatClampNeg = r := cl (by omega)
    unfold unA xcore
    rw [k15, k17, hcl, if_neg (by decide), if_pos rfl, X 6 (by decide), X 13 (by decide), X 21 (by decide), kl 14 (by decide)]
    congr 1
    congr 1
    · funext k
      show (if 6 * r ≤ k ∧ k < 6 * r + 6 then μx1.1 19 (6 * nx + (k - 6 * r)) else μx.1 13 k) = μx.1 13 k
      by_cases z : 6 * r ≤ k ∧ k < 6 * r + 6
      · rw [if_pos z, (kc (k - 6 * r) (by omega)).1, show 6 * r + (k - 6 * r) = k by omega]
      · rw [if_neg z]
    · congr 1
      funext k
      show (if 6 * r ≤ k ∧ k < 6 * r + 6 then μx1.2 20 (6 * nx + (k - 6 * r)) else μx.2 14 k) = μx.2 14 k
      by_cases z : 6 * r ≤ k ∧ k < 6 * r + 6
      · rw [if_pos z, (kc (k - 6 * r) (by omega)).2, show 6 * r + (k - 6 * r) = k by omega]
      · rw [if_neg z]
  have hac : Ac1 μx1 μm1 mc nx := ⟨⟨r, hr, k17⟩, ⟨mc, Nat.le_refl _, nm.2.1, Or.inr (Or.inl k15)⟩, fun z => absurd (k15.symm.trans z) (by decide)⟩
  have hLg : Lg μx1 μm1 mc ((nx + 1) % 14) (if kp < 14 then kp + 1 else 14) :=
    push (r0 := 30) hnx hL hC.1 (fun k hk => (hM.2.2.2 k hk).1) hM.1 nm klog hac (by rw [hun]; exact AgX.rf) (fun r' _ => by rw [X 11 (by decide), X 12 (by decide)]; exact ⟨rfl, rfl⟩) f1 f2
  obtain ⟨s0, s1, s10, s11, s21, s22, s23, s14⟩ := sm
  refine ⟨μx1, μm1, k1, en, ⟨?_, ?_, ?_, ?_, ?_, ?_⟩, ?_, kx, kl, nk, s10, s11, n0, nl⟩
  · simp only [RTxt, X 1 (by decide), X 8 (by decide), s0 1 (by decide), s1]; exact hT
  · simp only [RVw, X 5 (by decide), X 22 (by decide), X 23 (by decide), X 24 (by decide), s0 31 (by decide), s21, s22, s23]; exact hV
  · simp only [RMk, X 4 (by decide), X 21 (by decide), s0 11 (by decide), nk 9 (by decide), s10]; exact hM
  · simp only [RHd, X 0 (by decide), kl 0 (by decide), s0 12 (by decide), s0 13 (by decide), s14, s10]; exact hH
  · simp only [RCo, xcore, mcore, X 6 (by decide), X 11 (by decide), X 12 (by decide), X 13 (by decide), X 21 (by decide), kl 14 (by decide), nk 2 (by decide), nk 3 (by decide), nk 4 (by decide), nk 5 (by decide), nk 6 (by decide), nk 7 (by decide), s10, n8]; exact hC
  · exact ⟨(nx + 1) % 14, if kp < 14 then kp + 1 else 14, Nat.mod_lt _ (by decide), by split <;> omega, k36, n27, k37, n26, hLg⟩
  · exact ⟨(nx + 1) % 14, Nat.mod_lt _ (by decide), k36, by rw [lpos_1 hnx]; exact k15, by rw [lpos_1 hnx]; exact k17⟩
/-- the reference's memory when a cell is changed -/
def CM (μ μ' : Mm) (c : Nat) (f k : Int32) (v : Int64) : Prop := (∀ o j, scM o j = false → μ'.1 o j = if o = 6 ∧ j = c then f else if o = 7 ∧ j = c then k else μ.1 o j) ∧ ∀ o j, ((o = 0 ∧ j = 14) ∨ o = 8 ∨ o = 18) → μ'.2 o j = if o = 8 ∧ j = c then v else μ.2 o j
theorem Cr.cell {mc : Nat} {star th le : Nat → Int32} {x : Xc} {m : Mc} (h : Cr mc star th le x m) {a r q t n i : Nat} (ha : a < 10) (hr : r < 26) (hq : q < 11) (ht : t ≤ 12) (hn : n ≤ 6) (hi : i < 6) (e1 : x.1 a = nI r) (m1 : m.2.1 a = nI q) (e2 : th r = nI t) {xt f mk : Int32} {xc mv : Int64} (hc : Ce mc star t xt xc f mk mv) :
    Cr mc star th le (x.1, upd x.2.1 (6 * r + i) xt, fun k => if k = 6 * r + i then xc else x.2.2.1 k, x.2.2.2) (m.1, m.2.1, m.2.2.1, m.2.2.2.1, upd m.2.2.2.2.1 (6 * q + i) f, upd m.2.2.2.2.2.1 (6 * q + i) mk, fun k => if k = 6 * q + i then mv else m.2.2.2.2.2.2 k) := by
  have hne : m.2.1 a ≠ -9 := by
    rw [m1]
    have g : ∀ q, q < 11 → nI q ≠ -9 := by decide +kernel
    exact g q hq
  refine ⟨fun b hb => ?_, h.2⟩
  obtain ⟨r', t', hr', ht', a1, a2, a3, a4⟩ := h.1 b hb
  refine ⟨r', t', hr', ht', a1, a2, a3, ?_⟩
  rcases a4 with ⟨h12, q', n', hq', hn', b1, b2, b3, b4, hce⟩ | y
  · refine Or.inl ⟨h12, q', n', hq', hn', b1, b2, b3, b4, fun j hj => ?_⟩
    have hce' := hce j hj
    by_cases z : r' = r
    · subst z
      have tt : t' = t := (nI_eq (by omega) (by omega)).mp (a2.symm.trans e2)
      have qq : q' = q := by
        have := (h.2 a b ha hb hne).mp (by rw [e1, a1])
        rw [m1, b1] at this
        exact ((nI_eq (by omega) (by omega)).mp this).symm
      subst tt qq
      by_cases y : j = i
      · subst y
        show Ce mc star t' (upd x.2.1 (6 * r' + j) xt (6 * r' + j)) (if 6 * r' + j = 6 * r' + j then xc else _) (upd m.2.2.2.2.1 (6 * q' + j) f (6 * q' + j)) (upd m.2.2.2.2.2.1 (6 * q' + j) mk (6 * q' + j)) (if 6 * q' + j = 6 * q' + j then mv else _)
        rw [pk_us, pk_us, pk_us, if_pos rfl, if_pos rfl]
        exact hc
      · show Ce mc star t' (upd x.2.1 (6 * r' + i) xt (6 * r' + j)) (if 6 * r' + j = 6 * r' + i then xc else _) (upd m.2.2.2.2.1 (6 * q' + i) f (6 * q' + j)) (upd m.2.2.2.2.2.1 (6 * q' + i) mk (6 * q' + j)) (if 6 * q' + j = 6 * q' + i then mv else _)
        rw [pk_un (by omega), pk_un (by omega), pk_un (by omega), if_neg (by omega), if_neg (by omega)]
        exact hce'
    · have hqq : q' ≠ q := by
        intro y
        have := (h.2 a b ha hb hne).mpr (by rw [m1, b1, y])
        rw [e1, a1] at this
        exact z ((nI_eq (by omega) (by omega)).mp this).symm
      show Ce mc star t' (upd x.2.1 (6 * r + i) xt (6 * r' + j)) (if 6 * r' + j = 6 * r + i then xc else _) (upd m.2.2.2.2.1 (6 * q + i) f (6 * q' + j)) (upd m.2.2.2.2.2.1 (6 * q + i) mk (6 * q' + j)) (if 6 * q' + j = 6 * q + i then mv else _)
      rw [pk_un (by omega), pk_un (by omega), pk_un (by omega), if_neg (by omega), if_neg (by omega)]
      exact hce'
  · exact Or.inr y
theorem Un_cell {μ μ' : Mm} {nx r : Nat} (hr : r < 26) (h6 : μ'.1 6 = μ.1 6) (h21 : μ'.1 21 = μ.1 21) (h13 : ∀ k, ¬ (6 * r ≤ k ∧ k < 6 * r + 6) → μ'.1 13 k = μ.1 13 k ∧ μ'.2 14 k = μ.2 14 k) (h15 : μ'.1 15 = μ.1 15) (h16 : μ'.1 16 = μ.1 16) (h17 : μ'.1 17 = μ.1 17) (h18 : μ'.1 18 = μ.1 18) (h19 : μ'.1 19 = μ.1 19) (h20 : μ'.2 20 = μ.2 20) (s : μ.1 15 (lpos nx 1) = 1) (e : μ.1 17 (lpos nx 1) = nI r) : ∀ j, Un μ' nx (j + 1) = Un μ nx (j + 1) := by
  intro j
  induction j with
  | zero =>
    show unA μ' (lpos nx 1) (xcore μ') = unA μ (lpos nx 1) (xcore μ)
    have hcl : (nI r).toNatClampNeg = r := cl (by omega)
    unfold unA xcore
    rw [h15, h17, h19, h20, s, e, hcl, if_neg (by decide), if_pos rfl, if_neg (by decide), if_pos rfl, h6, h21]
    congr 1
    congr 1
    · funext k
      show (if 6 * r ≤ k ∧ k < 6 * r + 6 then _ else μ'.1 13 k) = if 6 * r ≤ k ∧ k < 6 * r + 6 then _ else μ.1 13 k
      by_cases z : 6 * r ≤ k ∧ k < 6 * r + 6
      · rw [if_pos z, if_pos z]
      · rw [if_neg z, if_neg z, (h13 k z).1]
    · congr 1
      funext k
      show (if 6 * r ≤ k ∧ k < 6 * r + 6 then _ else μ'.2 14 k) = if 6 * r ≤ k ∧ k < 6 * r + 6 then _ else μ.2 14 k
      by_cases z : 6 * r ≤ k ∧ k < 6 * r + 6
      · rw [if_pos z, if_pos z]
      · rw [if_neg z, if_neg z, (h13 k z).2]
  | succ j ih =>
    show unA μ' (lpos nx (j + 1 + 1)) (Un μ' nx (j + 1)) = unA μ (lpos nx (j + 1 + 1)) (Un μ nx (j + 1))
    rw [ih]
    simp only [unA, h15, h16, h17, h18, h19, h20]
theorem set_cell {μx μm μm' : Mm} {mc r q t n i a : Nat} (h : Rq μx μm mc) (hL : LA r μx) (ha : a < 10) (hr : r < 26) (hq : q < 11) (ht : t ≤ 12) (hn : n ≤ 6) (hi : i < 6) (e1 : μx.1 6 a = nI r) (m1 : μm.1 3 a = nI q) (e2 : μx.1 11 r = nI t) {xt f mk : Int32} {xc mv : Int64} (hc : Ce mc (μm.1 10) t xt xc f mk mv) (hm : CM μm μm' (6 * q + i) f mk mv) :
    Rq (wL (wI μx 13 (6 * r + i) xt) 14 (6 * r + i) xc) μm' mc ∧ LA r (wL (wI μx 13 (6 * r + i) xt) 14 (6 * r + i) xc) := by
  obtain ⟨h1, h2, h4, h5, h6, nx, kp, hnx, hkp, x6, m27, x7, m26, hLg⟩ := h
  have M : ∀ o, o ≠ 0 → o ≠ 6 → o ≠ 7 → o < 24 → μm'.1 o = μm.1 o := fun o a0 a6 a7 b => funext fun k => by
    rw [hm.1 o k (by
      simp only [scM, Bool.or_eq_false_iff, Bool.and_eq_false_iff, beq_eq_false_iff_ne, decide_eq_false_iff_not]
      exact ⟨Or.inl a0, Or.inl (by omega)⟩), if_neg (fun z => a6 z.1), if_neg (fun z => a7 z.1)]
  have M0 : ∀ k, scM 0 k = false → μm'.1 0 k = μm.1 0 k := fun k hk => by rw [hm.1 0 k hk, if_neg (by omega), if_neg (by omega)]
  have M6 : μm'.1 6 = upd (μm.1 6) (6 * q + i) f := funext fun k => by
    rw [hm.1 6 k (by simp [scM])]
    show (if 6 = 6 ∧ k = 6 * q + i then f else if 6 = 7 ∧ k = 6 * q + i then mk else μm.1 6 k) = if k = 6 * q + i then f else μm.1 6 k
    by_cases z : k = 6 * q + i
    · rw [if_pos ⟨rfl, z⟩, if_pos z]
    · rw [if_neg (fun y => z y.2), if_neg (fun y => z y.2), if_neg z]
  have M7 : μm'.1 7 = upd (μm.1 7) (6 * q + i) mk := funext fun k => by
    rw [hm.1 7 k (by simp [scM])]
    show (if 7 = 6 ∧ k = 6 * q + i then f else if 7 = 7 ∧ k = 6 * q + i then mk else μm.1 7 k) = if k = 6 * q + i then mk else μm.1 7 k
    by_cases z : k = 6 * q + i
    · rw [if_neg (by omega), if_pos ⟨rfl, z⟩, if_pos z]
    · rw [if_neg (fun y => z y.2), if_neg (fun y => z y.2), if_neg z]
  have M8 : μm'.2 8 = fun k => if k = 6 * q + i then mv else μm.2 8 k := funext fun k => by
    rw [hm.2 8 k (Or.inr (Or.inl rfl))]
    by_cases z : k = 6 * q + i
    · rw [if_pos ⟨rfl, z⟩, if_pos z]
    · rw [if_neg (fun y => z y.2), if_neg z]
  have M18 : μm'.2 18 = μm.2 18 := funext fun k => by rw [hm.2 18 k (Or.inr (Or.inr rfl)), if_neg (by omega)]
  have M14 : μm'.2 0 14 = μm.2 0 14 := by rw [hm.2 0 14 (Or.inl ⟨rfl, rfl⟩), if_neg (by omega)]
  have X : ∀ o, o ≠ 13 → (wL (wI μx 13 (6 * r + i) xt) 14 (6 * r + i) xc).1 o = μx.1 o := fun o ho => funext fun k => by rw [wL_1, wI_1, if_neg (fun z => ho z.1)]
  have X2 : ∀ o, o ≠ 14 → (wL (wI μx 13 (6 * r + i) xt) 14 (6 * r + i) xc).2 o = μx.2 o := fun o ho => funext fun k => by rw [wL_2, if_neg (fun z => ho z.1), wI_2]
  have X13 : (wL (wI μx 13 (6 * r + i) xt) 14 (6 * r + i) xc).1 13 = upd (μx.1 13) (6 * r + i) xt := funext fun k => by
    rw [wL_1, wI_1]
    show (if 13 = 13 ∧ k = 6 * r + i then xt else μx.1 13 k) = if k = 6 * r + i then xt else μx.1 13 k
    by_cases z : k = 6 * r + i
    · rw [if_pos ⟨rfl, z⟩, if_pos z]
    · rw [if_neg (fun y => z y.2), if_neg z]
  have X14 : (wL (wI μx 13 (6 * r + i) xt) 14 (6 * r + i) xc).2 14 = fun k => if k = 6 * r + i then xc else μx.2 14 k := funext fun k => by
    rw [wL_2, wI_2]
    by_cases z : k = 6 * r + i
    · rw [if_pos ⟨rfl, z⟩, if_pos z]
    · rw [if_neg (fun y => z y.2), if_neg z]
  generalize wL (wI μx 13 (6 * r + i) xt) 14 (6 * r + i) xc = μ at X X2 X13 X14 ⊢
  obtain ⟨nx', hnx', l1, l2, l3⟩ := hL
  have hnn : nx' = nx := (nI_eq (by omega) (by omega)).mp (l1.symm.trans x6)
  subst hnn
  have hUn := Un_cell (μ := μx) (μ' := μ) (nx := nx') hr (X 6 (by decide)) (X 21 (by decide)) (fun k hk => by
    rw [X13, X14]
    exact ⟨pk_un (by omega), if_neg (by omega)⟩) (X 15 (by decide)) (X 16 (by decide)) (X 17 (by decide)) (X 18 (by decide)) (X 19 (by decide)) (X2 20 (by decide)) l2 l3
  refine ⟨⟨?_, ?_, ?_, ?_, ?_, nx', kp, hnx, hkp, by rw [X 3 (by decide)]; exact x6, by rw [M0 27 rfl]; exact m27, by rw [X 3 (by decide)]; exact x7, by rw [M0 26 rfl]; exact m26, fun j j1 j2 => ?_⟩, nx', hnx', by rw [X 3 (by decide)]; exact l1, by rw [X 15 (by decide)]; exact l2, by rw [X 17 (by decide)]; exact l3⟩
  · simp only [RTxt, X 1 (by decide), X 8 (by decide), M0 1 rfl, M 1 (by decide) (by decide) (by decide) (by decide)]; exact h1
  · simp only [RVw, X 5 (by decide), X 22 (by decide), X 23 (by decide), X 24 (by decide), M0 31 rfl, M 21 (by decide) (by decide) (by decide) (by decide), M 22 (by decide) (by decide) (by decide) (by decide), M 23 (by decide) (by decide) (by decide) (by decide)]; exact h2
  · simp only [RMk, X 4 (by decide), X 21 (by decide), M0 11 rfl, M 9 (by decide) (by decide) (by decide) (by decide), M 10 (by decide) (by decide) (by decide) (by decide)]; exact h4
  · simp only [RHd, X 0 (by decide), X2 0 (by decide), M0 12 rfl, M0 13 rfl, M14, M 10 (by decide) (by decide) (by decide) (by decide)]; exact h5
  · have := Cr.cell (i := i) h6.1 ha hr hq ht hn hi e1 m1 e2 hc
    simp only [RCo, xcore, mcore, X 6 (by decide), X 11 (by decide), X 12 (by decide), X13, X 21 (by decide), X14, M 2 (by decide) (by decide) (by decide) (by decide), M 3 (by decide) (by decide) (by decide) (by decide), M 4 (by decide) (by decide) (by decide) (by decide), M 5 (by decide) (by decide) (by decide) (by decide), M6, M7, M8, M 10 (by decide) (by decide) (by decide) (by decide)]
    exact ⟨this, h6.2⟩
  · obtain ⟨j, rfl⟩ : ∃ i, j = i + 1 := ⟨j - 1, by omega⟩
    obtain ⟨b1, b2, b3⟩ := hLg (j + 1) j1 j2
    rw [hUn j]
    refine ⟨?_, ?_, fun k om h20 hom hk => ?_⟩
    · simp only [Ac1, X 15 (by decide), X 16 (by decide), X 17 (by decide), M 20 (by decide) (by decide) (by decide) (by decide)]; exact b1
    · rw [M 10 (by decide) (by decide) (by decide) (by decide), X 11 (by decide), X 12 (by decide)]
      simp only [msnap, M 12 (by decide) (by decide) (by decide) (by decide), M 13 (by decide) (by decide) (by decide) (by decide), M 14 (by decide) (by decide) (by decide) (by decide), M 15 (by decide) (by decide) (by decide) (by decide), M 16 (by decide) (by decide) (by decide) (by decide), M 17 (by decide) (by decide) (by decide) (by decide), M18]
      exact b2
    · rw [M 19 (by decide) (by decide) (by decide) (by decide)]
      rw [M 20 (by decide) (by decide) (by decide) (by decide)] at hom
      exact b3 k om h20 hom hk
