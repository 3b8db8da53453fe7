/-! NUMBERS 6: give, take, total -/
theorem bd {α β : Type} {x : Option β} {f : β → Option α} {v : β} (h : x = some v) : x.bind f = f v := by rw [h]; rfl
theorem bn {α β γ : Type} {x : Option (α × β)} {f : α → β → Option γ} {v : α} {w : β} (h : x = some (v, w)) : bnd x f = f v w := by rw [h]; rfl
theorem st_give : St_give Rel := by
  intro p1 v μx μm h
  have h0 := h
  obtain ⟨hT, hV, hR, mc, hM, hH, hC, hG⟩ := h
  rcases prim_cases p1 with hp | ⟨k, hk, rfl⟩
  · exact ⟨-2, μx, μm, by unfold fX7_give; rw [x_isPrim, bz_f hp]; rfl, by unfold fX8_give; rw [m_isPlain, bz_f hp]; rfl, h0⟩
  have hs := prim_ok hk
  obtain ⟨c, c1, c2, c3⟩ := n_made hk v
  refine ⟨1, _, _, ?_, ?_, rel_hold hT hV hR hM hC hG (f := 1) (xt := nI k) (xc := c) (mk := nI k) (mv := c) (Or.inr (Or.inl ⟨Or.inl rfl, rfl, rfl, k, hk, rfl, c3⟩))⟩
  · unfold fX7_give
    rw [x_isPrim, bz_t hs, bd rfl, if_neg one_ne, bd c1]
    rfl
  · unfold fX8_give
    rw [m_isPlain, bz_t hs, bd rfl, if_neg one_ne, bd c2]
    rfl
theorem tf_cases : ∀ t, t < 13 → ∀ k, k < 8 → (fX8_takeFrom (nI t) (nI k) = some 0 ∧ t < 8 ∧ fX8_widens (nI t) (nI k) = some 1) ∨ fX8_takeFrom (nI t) (nI k) = some 2 ∨ fX8_takeFrom (nI t) (nI k) = some 4 := by decide +kernel
theorem gf_no : ∀ t, t < 16 → ∀ k, k < 8 → t < 13 ∨ fX4_getFit (nI t) (nI k) = some (if t = 15 then 5 else 3) := by decide +kernel
theorem pl_no (t : Nat) : fX4_placed (if t = 15 then 5 else 3) 0 = some (if t = 15 then 5 else 3) := by
  by_cases h : t = 15
  · rw [if_pos h]; rfl
  · rw [if_neg h]; rfl
theorem Rel.eqA {μx μm μ' : Mm} (h : Rel μx μm) (e : EqA μm μ') : Rel μx μ' := h.cong EqX.rf e.m
/-- an element of an array of a primitive type -/
theorem Ce.val {mc t : Nat} {star : Nat → Int32} {xt f mk : Int32} {xc mv : Int64} (h : Ce mc star t xt xc f mk mv) (ht : t < 8) : xt = nI t ∧ mk = nI t ∧ xc = mv ∧ f = 1 ∧ VC t xc := by
  obtain ⟨h1, -, h3⟩ := h
  obtain ⟨rfl, rfl⟩ := h1 ht
  rcases h3 with ⟨y, -⟩ | ⟨-, e1, e2, t', ht', e3, e4⟩ | ⟨y, -⟩ | ⟨y, -⟩
  · exact absurd y (by decide)
  · have : t = t' := (nI_eq (by omega) (by omega)).mp e3
    subst this
    exact ⟨rfl, e1.symm, e2, rfl, e4⟩
  · exact absurd y (by decide)
  · exact absurd y (by decide)
theorem st_take : St_take Rel := by
  intro p1 p2 p3 μx μm h
  have h0 := h
  obtain ⟨hT, hV, hR, mc, hM, hH, hC, hG⟩ := h
  rcases slot_cases p1 with hp | ⟨a, ha, rfl⟩
  · exact ⟨-1, μx, μm, by unfold fX7_take; rw [x_isSlot, bz_f hp]; rfl, by unfold fX8_take; rw [m_isSlot, bz_f hp]; rfl, h0⟩
  have hs := slot_ok ha
  rcases prim_cases p3 with hp | ⟨k, hk, rfl⟩
  · exact ⟨-2, μx, μm, by unfold fX7_take; rw [x_isSlot, bz_t hs, x_isPrim, bz_f hp]; rfl, by unfold fX8_take; rw [m_isSlot, bz_t hs, m_isPlain, bz_f hp]; rfl, h0⟩
  have hs3 := prim_ok hk
  obtain ⟨r, t, hr, ht, e1, e2, e3, hA⟩ := slotR hC ha
  have xpre : fX7_take (nI a) p2 (nI k) μx = ((fX4_getFit (nI t) (nI k)).bind fun r37 => ((fX5_has (nI r) p2 μx).bind fun r47 => ((fX4_placed r37 r47).bind fun r50 => (if r50 = 0 then ((fX5_codeAt (nI r) p2 μx).bind fun r70 => ((fX2_widened r70 (nI t) (nI k)).bind fun r76 => ((fX7_hold (1 : Int32) (nI k) r76 μx).bind fun μ79 => some (r50, μ79)))) else some (r50, μx))))) := by
    unfold fX7_take
    rw [x_isSlot, bz_t hs, bd rfl, if_neg one_ne, x_isPrim, bz_t hs3, bd rfl, if_neg one_ne, if_pos (inb10 ha), cl (by omega), e1, bd (x_thingIn ha hr e1 e2)]
  have mpre : fX8_take (nI a) p2 (nI k) μm = ((fX8_reasonToTake (nI a) p2 (nI k) μm).bind fun r23 => (if r23 = 0 then (if inb (nI a) 10 = true then (if inb (μm.1 3 a) 11 = true then (if inb (((6 : Int32) * (μm.1 3 a)) + p2) 66 = true then (bnd (fX8_widened (μm.1 4 (Int32.toNatClampNeg (μm.1 3 a))) (μm.2 8 (Int32.toNatClampNeg (((6 : Int32) * (μm.1 3 a)) + p2))) (nI k) μm) fun r65 μ65 => ((fX8_hold (1 : Int32) (nI k) r65 μ65).bind fun μ68 => some (r23, μ68))) else none) else none) else none) else some (r23, μm))) := by
    unfold fX8_take
    rw [m_isSlot, bz_t hs, bd rfl, if_neg one_ne, m_isPlain, bz_t hs3, bd rfl, if_neg one_ne, cl (by omega)]
  rw [xpre, mpre]
  rcases hA.symm with ⟨h13, m1, x1⟩ | ⟨h12, q, n, hq, hn, m1, m2, x1, m3, hce⟩
  · obtain ⟨-, -, k3, k4⟩ := fetch_no ha hr ht e1 e2 e3 h13 x1 p2
    have hgf : fX4_getFit (nI t) (nI k) = some (if t = 15 then 5 else 3) := by
      rcases gf_no t ht k hk with z | z
      · omega
      · exact z
    have hpl : ¬ (0 ≤ p2 ∧ p2 ≤ nI 0 - 1) := by
      rcases pos_cases p2 (show 0 ≤ 6 by decide) with hp | ⟨i, hi, -⟩
      · exact hp
      · omega
    refine ⟨if t = 15 then 5 else 3, μx, μm, ?_, ?_, h0⟩
    · rw [bd hgf, x_has hr (show 0 ≤ 6 by decide) x1, bz_f hpl, bd rfl, bd (pl_no t), if_neg (f53 t)]
    · unfold fX8_reasonToTake
      rw [k3, bd rfl, if_neg (f53 t), bd rfl, if_neg (f53 t)]
  · obtain ⟨-, -, k3, k4⟩ := fetch_ok ha hr ht e1 e2 e3 h12 hq hn m1 x1 m3 p2
    have hin : fX8_in (Int32.toInt64 p2) 0 (Int32.toInt64 (nI n - 1)) = _ := in32 p2 0 (nI n - 1)
    have hrt : fX8_reasonToTake (nI a) p2 (nI k) μm = ((fX8_takeFrom (nI t) (nI k)).bind fun r31 => if bz (0 ≤ p2 ∧ p2 ≤ nI n - 1) = 0 then fX8_reasonToTake_b58 μm 1 r31 else fX8_reasonToTake_b58 μm 0 r31) := by
      unfold fX8_reasonToTake
      rw [k3, bd rfl, if_pos rfl, if_pos (inb10 ha), cl (by omega), m1, if_pos (inb11 hq), cl (by omega), m2, m3, hin]
      congr 1
      funext r31
      rw [if_pos (inb11 hq)]
      rfl
    rw [hrt, fit_get t (by omega) k hk, x_has hr hn x1]
    rcases pos_cases p2 hn with hp | ⟨i, hi, rfl, hp⟩
    · rw [bz_f hp]
      rcases tf_cases t (by omega) k hk with ⟨z, -, -⟩ | z | z
      · exact ⟨1, μx, μm, by rw [z]; rfl, by rw [z]; rfl, h0⟩
      · exact ⟨6, μx, μm, by rw [z]; rfl, by rw [z]; rfl, h0⟩
      · exact ⟨6, μx, μm, by rw [z]; rfl, by rw [z]; rfl, h0⟩
    · rw [bz_t hp]
      rcases tf_cases t (by omega) k hk with ⟨z, ht8, hw⟩ | z | z
      · obtain ⟨v1, v2, v3, v4, v5⟩ := (hce i hi).val ht8
        obtain ⟨c', w1, w2, μ', w3, w4⟩ := n_wid ht8 hk hw v5 μm
        obtain ⟨hT', hV', hR', mc', hM', hH', hC', hG'⟩ := h0.eqA w4
        refine ⟨0, _, _, ?_, ?_, rel_hold hT' hV' hR' hM' hC' hG' (f := 1) (xt := nI k) (xc := c') (mk := nI k) (mv := c') (Or.inr (Or.inl ⟨Or.inl rfl, rfl, rfl, k, hk, rfl, w2⟩))⟩
        · rw [bd z, bd rfl, bd (show fX4_placed 0 1 = some 0 from rfl), if_pos rfl, bd (x_codeAt hr (by omega) μx), bd w1]
          rfl
        · rw [bd z, if_neg one_ne, bd (show fX8_reasonToTake_b58 μm 0 0 = some 0 from rfl), if_pos rfl, if_pos (inb10 ha), m1, if_pos (inb11 hq), ix6', if_pos (inb_nI (show 6 * q + i < 66 by omega) (by decide)), cl (by omega), cl (by omega), m2, ← v3, bn w3]
          rfl
      · exact ⟨2, μx, μm, by rw [z]; rfl, by rw [z]; rfl, h0⟩
      · exact ⟨4, μx, μm, by rw [z]; rfl, by rw [z]; rfl, h0⟩
/-! total -/
def sm64 (c : Nat → Int64) : Nat → Int64 → Nat → Int64
  | 0, s, _ => s
  | m + 1, s, i => sm64 c m (s + c i) (i + 1)
theorem sm64_c {c d : Nat → Int64} : ∀ m s i, (∀ j, i ≤ j → j < i + m → c j = d j) → sm64 c m s i = sm64 d m s i := by
  intro m
  induction m with
  | zero => intro s i _; rfl
  | succ m ih =>
    intro s i h
    show sm64 c m (s + c i) (i + 1) = sm64 d m (s + d i) (i + 1)
    rw [h i (by omega) (by omega)]
    exact ih _ _ (fun j h1 h2 => h j (by omega) (by omega))
theorem tt_x {μ : Mm} {r n : Nat} (k : Int32) (hr : r < 26) (hn : n ≤ 6) : ∀ m f i s, i + m = n → m < f → fX7_total_b82 f k (nI r) (nI n) s (nI i) μ = (fX2_made k (sm64 (fun j => μ.2 14 (6 * r + j)) m s i)).bind fun c => (fX7_hold 1 k c μ).bind fun μ' => some (0, μ') := by
  intro m
  induction m with
  | zero =>
    intro f i s hi hf
    obtain ⟨f, rfl⟩ : ∃ g, f = g + 1 := ⟨f - 1, by omega⟩
    unfold fX7_total_b82
    rw [if_pos (nI_le (by omega) (by omega))]
    rfl
  | succ m ih =>
    intro f i s hi hf
    obtain ⟨f, rfl⟩ : ∃ g, f = g + 1 := ⟨f - 1, by omega⟩
    unfold fX7_total_b82
    rw [if_neg (nI_ge (by omega) (by omega)), bd (x_codeAt hr (by omega) μ), nI_1]
    exact ih f (i + 1) _ (by omega) (by omega)
theorem tt_m {μ : Mm} {q n : Nat} (k : Int32) (hq : q < 11) (hn : n ≤ 6) (h5 : μ.1 5 q = nI n) : ∀ m f i s, i + m = n → m < f → fX8_total_b84 f k (nI q) s (nI i) μ = (fX8_given k (sm64 (fun j => μ.2 8 (6 * q + j)) m s i)).bind fun c => (fX8_hold 1 k c μ).bind fun μ' => some (0, μ') := by
  intro m
  induction m with
  | zero =>
    intro f i s hi hf
    obtain ⟨f, rfl⟩ : ∃ g, f = g + 1 := ⟨f - 1, by omega⟩
    unfold fX8_total_b84
    rw [if_pos (inb11 hq), cl (by omega), h5, if_pos (nI_le (by omega) (by omega))]
    rfl
  | succ m ih =>
    intro f i s hi hf
    obtain ⟨f, rfl⟩ : ∃ g, f = g + 1 := ⟨f - 1, by omega⟩
    unfold fX8_total_b84
    rw [if_pos (inb11 hq), cl (by omega), h5, if_neg (nI_ge (by omega) (by omega)), ix6', if_pos (inb_nI (show 6 * q + i < 66 by omega) (by decide)), cl (by omega), nI_1]
    exact ih f (i + 1) _ (by omega) (by omega)
theorem st_total : St_total Rel := by
  intro p1 p2 μx μm h
  have h0 := h
  obtain ⟨hT, hV, hR, mc, hM, hH, hC, hG⟩ := h
  have hin : fX8_in (Int32.toInt64 p2) 4 5 = _ := in32 p2 4 5
  rcases slot_cases p1 with hp | ⟨a, ha, rfl⟩
  · exact ⟨-1, μx, μm, by unfold fX7_total; rw [x_isSlot, bz_f hp]; rfl, by unfold fX8_total; rw [m_isSlot, bz_f hp]; rfl, h0⟩
  have hs := slot_ok ha
  have hcase : ¬ (4 ≤ p2 ∧ p2 ≤ 5) ∨ ∃ k, (k = 4 ∨ k = 5) ∧ p2 = nI k := by
    by_cases z : 4 ≤ p2 ∧ p2 ≤ 5
    · right
      have a1 := Int32.le_iff_toInt_le.mp z.1
      have a2 := Int32.le_iff_toInt_le.mp z.2
      have b1 : (4 : Int32).toInt = 4 := rfl
      have b2 : (5 : Int32).toInt = 5 := rfl
      rw [b1] at a1
      rw [b2] at a2
      have : p2.toInt = 4 ∨ p2.toInt = 5 := by omega
      rcases this with y | y
      · exact ⟨4, Or.inl rfl, Int32.toInt_inj.mp (by rw [y]; rfl)⟩
      · exact ⟨5, Or.inr rfl, Int32.toInt_inj.mp (by rw [y]; rfl)⟩
    · exact Or.inl z
  rcases hcase with hp | ⟨k, hk45, rfl⟩
  · refine ⟨-2, μx, μm, ?_, by unfold fX8_total; rw [m_isSlot, bz_t hs, bd rfl, if_neg one_ne, hin, bz_f hp]; rfl, h0⟩
    unfold fX7_total
    rw [x_isSlot, bz_t hs, bd rfl, if_neg one_ne, if_neg (fun z => hp (by rw [z]; decide)), if_neg (fun z => hp (by rw [z]; decide))]
  have hk : k < 8 := by omega
  have hp2 : 4 ≤ nI k ∧ nI k ≤ 5 := by rcases hk45 with rfl | rfl <;> decide
  obtain ⟨r, t, hr, ht, e1, e2, e3, hA⟩ := slotR hC ha
  have xpre : fX7_total (nI a) (nI k) μx = ((fX7_holdsArray (nI a) μx).bind fun r42 => (if r42 = 0 then fX7_total_b57 (nI a) (nI k) (nI r) (μx.1 12 r) μx else (if (μx.1 12 r) = 0 then fX7_total_b66 (nI k) (nI r) (μx.1 12 r) (0 : Int32) μx else fX7_total_b57 (nI a) (nI k) (nI r) (μx.1 12 r) μx))) := by
    have z : fX7_total_b22 (nI a) (nI k) μx = ((fX7_holdsArray (nI a) μx).bind fun r42 => (if r42 = 0 then fX7_total_b57 (nI a) (nI k) (nI r) (μx.1 12 r) μx else (if (μx.1 12 r) = 0 then fX7_total_b66 (nI k) (nI r) (μx.1 12 r) (0 : Int32) μx else fX7_total_b57 (nI a) (nI k) (nI r) (μx.1 12 r) μx))) := by
      unfold fX7_total_b22
      rw [if_pos (inb10 ha), cl (by omega), e1, if_pos (inb26 hr), cl (by omega)]
    unfold fX7_total
    rw [x_isSlot, bz_t hs, bd rfl, if_neg one_ne]
    rcases hk45 with rfl | rfl
    · rw [if_pos (show nI 4 = 4 from rfl), z]
    · rw [if_neg (show ¬ nI 5 = 4 by decide), if_pos (show nI 5 = 5 from rfl), z]
  have mpre : fX8_total (nI a) (nI k) μm = ((fX8_reasonOf (nI a) μm).bind fun r28 => (if r28 = 0 then (if inb (nI a) 10 = true then (if inb (μm.1 3 a) 11 = true then (if (μm.1 5 (Int32.toNatClampNeg (μm.1 3 a))) = 0 then fX8_total_b71 (nI k) (μm.1 3 a) (0 : Int32) μm else (if inb (μm.1 3 a) 11 = true then ((fX8_takeFrom (μm.1 4 (Int32.toNatClampNeg (μm.1 3 a))) (nI k)).bind fun r68 => fX8_total_b71 (nI k) (μm.1 3 a) r68 μm) else none)) else none) else none) else some (r28, μm))) := by
    unfold fX8_total
    rw [m_isSlot, bz_t hs, bd rfl, if_neg one_ne, hin, bz_t hp2, bd rfl, if_neg one_ne, cl (by omega)]
  rw [xpre, mpre]
  rcases hA.symm with ⟨h13, m1, x1⟩ | ⟨h12, q, n, hq, hn, m1, m2, x1, m3, hce⟩
  · obtain ⟨-, -, k3, k4⟩ := fetch_no ha hr ht e1 e2 e3 h13 x1 0
    have hgf : fX4_getFit (nI t) (nI k) = some (if t = 15 then 5 else 3) := by
      rcases gf_no t ht k hk with z | z
      · omega
      · exact z
    refine ⟨if t = 15 then 5 else 3, μx, μm, ?_, ?_, h0⟩
    · rw [x_holds ha hr ht e1 e2, bz_f (by omega), bd rfl, if_pos rfl]
      unfold fX7_total_b57 fX7_total_b66
      rw [bd (x_thingIn ha hr e1 e2), bd hgf, if_neg (f53 t)]
    · rw [bd k3, if_neg (f53 t)]
  · obtain ⟨-, -, k3, k4⟩ := fetch_ok ha hr ht e1 e2 e3 h12 hq hn m1 x1 m3 0
    have n0 : (nI n = 0) ↔ n = 0 := nI_eq (b := 0) (by omega) (by decide)
    have fin : (n = 0 ∨ t < 8) → ∃ (r' : Int32) (μx' μm' : Mm), fX7_total_b66 (nI k) (nI r) (nI n) 0 μx = some (r', μx') ∧ fX8_total_b71 (nI k) (nI q) 0 μm = some (r', μm') ∧ Rel μx' μm' := by
      intro hz
      obtain ⟨c, c1, c2, c3⟩ := n_made hk (sm64 (fun j => μm.2 8 (6 * q + j)) n 0 0)
      refine ⟨0, _, _, ?_, ?_, rel_hold hT hV hR hM hC hG (f := 1) (xt := nI k) (xc := c) (mk := nI k) (mv := c) (Or.inr (Or.inl ⟨Or.inl rfl, rfl, rfl, k, hk, rfl, c3⟩))⟩
      · unfold fX7_total_b66
        have hx := tt_x (μ := μx) (nI k) hr hn n 100 0 0 (by omega) (by omega)
        rw [if_pos rfl, show (0 : Int32) = nI 0 from rfl, hx, sm64_c (d := fun j => μm.2 8 (6 * q + j)) n 0 0 (fun j h1 h2 => by
          rcases hz with hz | hz
          · omega
          · exact ((hce j (by omega)).val hz).2.2.1), bd c1]
        rfl
      · unfold fX8_total_b71
        have hx := tt_m (μ := μm) (nI k) hq hn m3 n 100 0 0 (by omega) (by omega)
        rw [if_pos rfl, show (0 : Int32) = nI 0 from rfl, hx, bd c2]
        rfl
    rw [x_holds ha hr ht e1 e2, bz_t h12, bd rfl, if_neg one_ne, bd k3, if_pos rfl, if_pos (inb10 ha), m1, if_pos (inb11 hq), cl (by omega), m3, m2, x1, if_pos (inb11 hq)]
    by_cases hz : n = 0
    · rw [if_pos (n0.mpr hz), if_pos (n0.mpr hz)]
      exact fin (Or.inl hz)
    · rw [if_neg (fun y => hz (n0.mp y)), if_neg (fun y => hz (n0.mp y))]
      unfold fX7_total_b57
      rw [bd (x_thingIn ha hr e1 e2), fit_get t (by omega) k hk]
      rcases tf_cases t (by omega) k hk with ⟨z, ht8, hw⟩ | z | z
      · rw [bd z, bd z]
        exact fin (Or.inr ht8)
      · exact ⟨2, μx, μm, by rw [z]; rfl, by rw [z]; rfl, h0⟩
      · exact ⟨4, μx, μm, by rw [z]; rfl, by rw [z]; rfl, h0⟩
