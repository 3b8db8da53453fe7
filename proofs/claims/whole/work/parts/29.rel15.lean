/-! PURE PART 15: undo -/
theorem x_set {r i : Nat} (hr : r < 26) (hi : i < 6) (ty : Int32) (c : Int64) (μ : Mm) : fX5_set (nI r) (nI i) ty c μ = some (wL (wI μ 13 (6 * r + i) ty) 14 (6 * r + i) c) := by
  have ib : inb (nI (6 * r + i)) 156 = true := inb_nI (by omega) (by decide)
  unfold fX5_set
  rw [ix6, if_pos ib, if_pos ib, cl (by omega)]
theorem x_restore {p r : Nat} (hp : p < 14) (hr : r < 26) : ∀ (n k : Nat) (μ : Mm), k ≤ 6 → 6 - k < n → μ.1 17 p = nI r → ∃ μ', fX0_restoreCells_b2 n (nI p) (nI k) μ = some μ' ∧ (∀ o j, μ'.1 o j = if o = 13 ∧ 6 * r + k ≤ j ∧ j < 6 * r + 6 then μ.1 19 (6 * p + (j - 6 * r)) else μ.1 o j) ∧ ∀ o j, μ'.2 o j = if o = 14 ∧ 6 * r + k ≤ j ∧ j < 6 * r + 6 then μ.2 20 (6 * p + (j - 6 * r)) else μ.2 o j := by
  intro n
  induction n with
  | zero => intro k μ hk hn _; omega
  | succ n ih =>
    intro k μ hk hn h17
    by_cases h6 : k = 6
    · subst h6
      refine ⟨μ, by unfold fX0_restoreCells_b2; rw [if_pos (show (6 : Int32) ≤ nI 6 by decide)], fun o j => by rw [if_neg (by omega)], fun o j => by rw [if_neg (by omega)]⟩
    · have hk6 : k < 6 := by omega
      have ip : inb (nI p) 14 = true := inb_nI hp (by decide)
      have ib2 : inb (nI (6 * p + k)) 84 = true := inb_nI (by omega) (by decide)
      obtain ⟨μ', h1, h2, h3⟩ := ih (k + 1) (wL (wI μ 13 (6 * r + k) (μ.1 19 (6 * p + k))) 14 (6 * r + k) (μ.2 20 (6 * p + k))) (by omega) (by omega) h17
      refine ⟨μ', ?_, fun o j => ?_, fun o j => ?_⟩
      · unfold fX0_restoreCells_b2
        rw [if_neg (show ¬ (6 : Int32) ≤ nI k from nI_ge (b := 6) hk6 (by decide)), if_pos ip, ix6, if_pos ib2, if_pos ib2, cl (show p < 1000 by omega), h17, cl (by omega), x_set hr hk6, nI_1]
        exact h1
      · rw [h2 o j]
        simp only [wI_1, wL_1, Nat.reduceEqDiff, false_and, if_false]
        by_cases o12 : o = 13
        · subst o12
          by_cases hj : j = 6 * r + k
          · subst hj
            rw [if_neg (by omega), if_pos ⟨rfl, rfl⟩, if_pos ⟨rfl, by omega⟩, Nat.add_sub_cancel_left]
          · by_cases hj2 : 6 * r + (k + 1) ≤ j ∧ j < 6 * r + 6
            · rw [if_pos ⟨rfl, hj2⟩, if_pos ⟨rfl, by omega⟩]
            · rw [if_neg (fun z => hj2 z.2), if_neg (fun z => hj z.2), if_neg (fun z => hj2 ⟨by omega, z.2.2⟩)]
        · rw [if_neg (fun z => o12 z.1), if_neg (fun z => o12 z.1), if_neg (fun z => o12 z.1)]
      · rw [h3 o j]
        simp only [wL_2, wI_2, Nat.reduceEqDiff, false_and, if_false]
        by_cases o12 : o = 14
        · subst o12
          by_cases hj : j = 6 * r + k
          · subst hj
            rw [if_neg (by omega), if_pos ⟨rfl, rfl⟩, if_pos ⟨rfl, by omega⟩, Nat.add_sub_cancel_left]
          · by_cases hj2 : 6 * r + (k + 1) ≤ j ∧ j < 6 * r + 6
            · rw [if_pos ⟨rfl, hj2⟩, if_pos ⟨rfl, by omega⟩]
            · rw [if_neg (fun z => hj2 z.2), if_neg (fun z => hj z.2), if_neg (fun z => hj2 ⟨by omega, z.2.2⟩)]
        · rw [if_neg (fun z => o12 z.1), if_neg (fun z => o12 z.1), if_neg (fun z => o12 z.1)]
theorem x_remove {μ : Mm} {nx m : Nat} (hnx : nx < 14) (h6 : μ.1 3 6 = nI nx) (h7 : μ.1 3 7 = nI (m + 1)) : fX0_removeLatest μ = some (nI (lpos nx 1), wI (wI μ 3 6 (nI (lpos nx 1))) 3 7 (nI m)) := by
  have hs : ∀ m, nI (m + 1) - 1 = nI m := fun m => by rw [← nI_1]; exact Int32.add_sub_cancel _ _
  have hb : fX0_before (nI nx) = some (nI (lpos nx 1)) := by
    have g : ∀ nx, nx < 14 → fX0_before (nI nx) = some (nI (lpos nx 1)) := by decide +kernel
    exact g nx hnx
  unfold fX0_removeLatest
  rw [h6, hb]
  simp only [Option.bind_some]
  have z1 : (wI μ 3 6 (nI (lpos nx 1))).1 3 7 = nI (m + 1) := h7
  rw [z1, hs]
  rfl
theorem x_undo {μ : Mm} {nx m mc om : Nat} (hnx : nx < 14) (hm : m < 14) (h6 : μ.1 3 6 = nI nx) (h7 : μ.1 3 7 = nI (m + 1)) (hmc : mc ≤ 20) (hom : om ≤ mc)
    (g1 : ∃ r, r < 26 ∧ μ.1 17 (lpos nx 1) = nI r) (g2 : μ.1 15 (lpos nx 1) = 0 ∨ μ.1 15 (lpos nx 1) = 1 ∨ (μ.1 15 (lpos nx 1) = 2 ∧ ∃ k, k < om ∧ μ.1 16 (lpos nx 1) = nI k)) (g3 : μ.1 15 (lpos nx 1) = 0 → ∃ k, k < 10 ∧ μ.1 16 (lpos nx 1) = nI k) :
    ∃ μ', fX7_undo μ = some (nI m, μ') ∧ xcore μ' = unA μ (lpos nx 1) (xcore μ) ∧ μ'.1 3 6 = nI (lpos nx 1) ∧ μ'.1 3 7 = nI m ∧ smX μ μ' ∧ (∀ o, o ∈ [11, 12, 15, 16, 17, 18, 19] → μ'.1 o = μ.1 o) ∧ μ'.2 20 = μ.2 20 ∧ ∀ k, om ≤ k → μ'.1 21 k = μ.1 21 k := by
  obtain ⟨r, hr, er⟩ := g1
  have hp := lpos_lt nx 1
  have ip : inb (nI (lpos nx 1)) 14 = true := inb_nI hp (by decide)
  have cp : (nI (lpos nx 1)).toNatClampNeg = lpos nx 1 := cl (by omega)
  have hne : ¬ (nI (m + 1) = 0) := nI_ne (b := 0) (by omega) (by decide) (by omega)
  unfold fX7_undo
  rw [h7, if_neg hne, x_remove hnx h6 h7]
  simp only [bnd]
  rw [if_pos ip, cp, if_pos ip, if_pos ip]
  have w15 : (wI (wI μ 3 6 (nI (lpos nx 1))) 3 7 (nI m)).1 15 = μ.1 15 := rfl
  have w16 : (wI (wI μ 3 6 (nI (lpos nx 1))) 3 7 (nI m)).1 16 = μ.1 16 := rfl
  have w17 : (wI (wI μ 3 6 (nI (lpos nx 1))) 3 7 (nI m)).1 17 = μ.1 17 := rfl
  have w18 : (wI (wI μ 3 6 (nI (lpos nx 1))) 3 7 (nI m)).1 18 = μ.1 18 := rfl
  rw [w15, w16, w17, w18]
  rcases g2 with s | s | ⟨s, k, hk, ek⟩
  · obtain ⟨k, hk, ek⟩ := g3 s
    rw [if_pos s, ek, if_pos (inb10 hk), cl (by omega), er]
    refine ⟨wI (wI (wI μ 3 6 (nI (lpos nx 1))) 3 7 (nI m)) 6 k (nI r), rfl, ?_, rfl, rfl, ⟨rfl, rfl, rfl, rfl, rfl, rfl, rfl, rfl, rfl, rfl⟩, ?_, rfl, fun _ _ => rfl⟩
    · unfold unA
      rw [if_pos s, ek, er, cl (by omega)]
      have : (wI (wI (wI μ 3 6 (nI (lpos nx 1))) 3 7 (nI m)) 6 k (nI r)).1 6 = upd (μ.1 6) k (nI r) := by
        funext j
        show (if 6 = 6 ∧ j = k then nI r else μ.1 6 j) = if j = k then nI r else μ.1 6 j
        by_cases z : j = k
        · rw [if_pos ⟨rfl, z⟩, if_pos z]
        · rw [if_neg (fun y => z y.2), if_neg z]
      unfold xcore
      rw [this]
      rfl
    · intro o ho
      simp only [List.mem_cons, List.not_mem_nil, or_false] at ho
      funext j
      rw [wI_1, if_neg (by omega), wI_1, if_neg (by omega), wI_1, if_neg (by omega)]
  · rw [if_neg (by rw [s]; decide), if_pos s]
    obtain ⟨μ', h1, h2, h3⟩ := x_restore hp hr 100 0 (wI (wI μ 3 6 (nI (lpos nx 1))) 3 7 (nI m)) (by decide) (by decide) er
    have same : ∀ o, o ≠ 13 → μ'.1 o = (wI (wI μ 3 6 (nI (lpos nx 1))) 3 7 (nI m)).1 o := fun o ho => by funext j; rw [h2 o j, if_neg (fun z => ho z.1)]
    have same2 : ∀ o, o ≠ 14 → μ'.2 o = μ.2 o := fun o ho => by funext j; rw [h3 o j, if_neg (fun z => ho z.1)]; rfl
    have hres : fX0_restoreCells (nI (lpos nx 1)) (wI (wI μ 3 6 (nI (lpos nx 1))) 3 7 (nI m)) = some μ' := h1
    rw [hres]
    have q36 : μ'.1 3 6 = nI (lpos nx 1) := by rw [same 3 (by decide)]; rfl
    have q37 : μ'.1 3 7 = nI m := by rw [same 3 (by decide)]; rfl
    refine ⟨μ', ?_, ?_, q36, q37, ⟨same 0 (by decide), by rw [same 1 (by decide)]; rfl, same 4 (by decide), same 5 (by decide), same 7 (by decide), same 8 (by decide), same 22 (by decide), same 23 (by decide), same 24 (by decide), same2 0 (by decide)⟩, ?_, same2 20 (by decide), ?_⟩
    · simp only [Option.bind_some]
      unfold fX7_undo_b122
      rw [q37]
    · unfold unA
      rw [if_neg (by rw [s]; decide), if_pos s, er, cl (by omega)]
      have a13 : μ'.1 13 = fun k => if 6 * r ≤ k ∧ k < 6 * r + 6 then μ.1 19 (6 * lpos nx 1 + (k - 6 * r)) else μ.1 13 k := by
        funext k
        rw [h2 13 k]
        by_cases z : 6 * r ≤ k ∧ k < 6 * r + 6
        · rw [if_pos ⟨rfl, z⟩, if_pos z]; rfl
        · rw [if_neg (fun y => z y.2), if_neg z]; rfl
      have a14 : μ'.2 14 = fun k => if 6 * r ≤ k ∧ k < 6 * r + 6 then μ.2 20 (6 * lpos nx 1 + (k - 6 * r)) else μ.2 14 k := by
        funext k
        rw [h3 14 k]
        by_cases z : 6 * r ≤ k ∧ k < 6 * r + 6
        · rw [if_pos ⟨rfl, z⟩, if_pos z]; rfl
        · rw [if_neg (fun y => z y.2), if_neg z]; rfl
      unfold xcore
      rw [a13, a14, same 6 (by decide), same 21 (by decide)]
      rfl
    · intro o ho
      simp only [List.mem_cons, List.not_mem_nil, or_false] at ho
      rw [same o (by omega)]
      funext j
      rw [wI_1, if_neg (by omega), wI_1, if_neg (by omega)]
    · intro k hk
      rw [same 21 (by decide)]
      rfl
  · have ik : inb (nI k) 20 = true := inb_nI (by omega) (by decide)
    rw [if_neg (by rw [s]; decide), if_neg (by rw [s]; decide), ek]
    unfold fX1_setNumber
    rw [if_pos ik, cl (by omega), if_pos ip, if_pos ip]
    refine ⟨wI (wI (wI μ 3 6 (nI (lpos nx 1))) 3 7 (nI m)) 21 k (μ.1 18 (lpos nx 1)), rfl, ?_, rfl, rfl, ⟨rfl, rfl, rfl, rfl, rfl, rfl, rfl, rfl, rfl, rfl⟩, ?_, rfl, ?_⟩
    · unfold unA
      rw [if_neg (by rw [s]; decide), if_neg (by rw [s]; decide), ek, cl (by omega)]
      have : (wI (wI (wI μ 3 6 (nI (lpos nx 1))) 3 7 (nI m)) 21 k (μ.1 18 (lpos nx 1))).1 21 = upd (μ.1 21) k (μ.1 18 (lpos nx 1)) := by
        funext j
        show (if 21 = 21 ∧ j = k then μ.1 18 (lpos nx 1) else μ.1 21 j) = if j = k then μ.1 18 (lpos nx 1) else μ.1 21 j
        by_cases z : j = k
        · rw [if_pos ⟨rfl, z⟩, if_pos z]
        · rw [if_neg (fun y => z y.2), if_neg z]
      unfold xcore
      rw [this]
      rfl
    · intro o ho
      simp only [List.mem_cons, List.not_mem_nil, or_false] at ho
      funext j
      rw [wI_1, if_neg (by omega), wI_1, if_neg (by omega), wI_1, if_neg (by omega)]
    · intro j hj
      show (if 21 = 21 ∧ j = k then μ.1 18 (lpos nx 1) else μ.1 21 j) = μ.1 21 j
      rw [if_neg (fun z => by omega)]
