/-! PURE PART 7: an act is pushed -/
def AgX (r0 : Nat) (c c' : Xc) : Prop := c'.1 = c.1 ∧ c'.2.2.2 = c.2.2.2 ∧ ∀ k, ¬ (6 * r0 ≤ k ∧ k < 6 * r0 + 6) → c'.2.1 k = c.2.1 k ∧ c'.2.2.1 k = c.2.2.1 k
theorem AgX.rf {r0 : Nat} {c : Xc} : AgX r0 c c := ⟨rfl, rfl, fun _ _ => ⟨rfl, rfl⟩⟩
theorem AgX.un {r0 : Nat} {c c' : Xc} (h : AgX r0 c c') (μ : Mm) (p : Nat) : AgX r0 (unA μ p c) (unA μ p c') := by
  obtain ⟨h1, h2, h3⟩ := h
  unfold unA
  by_cases s0 : μ.1 15 p = 0
  · rw [if_pos s0, if_pos s0]
    exact ⟨by simp only [h1], h2, h3⟩
  · rw [if_neg s0, if_neg s0]
    by_cases s1 : μ.1 15 p = 1
    · rw [if_pos s1, if_pos s1]
      refine ⟨h1, h2, fun k hk => ⟨?_, ?_⟩⟩
      · simp only [(h3 k hk).1]
      · simp only [(h3 k hk).2]
    · rw [if_neg s1, if_neg s1]
      exact ⟨h1, by simp only [h2], h3⟩
theorem Cr.agree {mc r0 : Nat} {star th le th' le' : Nat → Int32} {c c' : Xc} {m : Mc} (h : Cr mc star th le c m) (hA : AgX r0 c c') (ht : ∀ r, r ≠ r0 → th' r = th r ∧ le' r = le r) (hf : ∀ a, a < 10 → c.1 a ≠ nI r0) : Cr mc star th' le' c' m := by
  obtain ⟨a1, a2, a3⟩ := hA
  refine ⟨fun a ha => ?_, fun a b ha hb hne => by rw [a1]; exact h.2 a b ha hb hne⟩
  obtain ⟨r, t, hr, ht2, e1, e2, e3, e4⟩ := h.1 a ha
  have hrr : r ≠ r0 := fun z => hf a ha (by rw [e1, z])
  refine ⟨r, t, hr, ht2, by rw [a1]; exact e1, by rw [(ht r hrr).1]; exact e2, e3, ?_⟩
  rcases e4 with ⟨h12, q, n, hq, hn, m1, m2, x1, m3, hc⟩ | ⟨h13, m1, x1⟩
  · refine Or.inl ⟨h12, q, n, hq, hn, m1, m2, by rw [(ht r hrr).2]; exact x1, m3, fun i hi => ?_⟩
    have hk : ¬ (6 * r0 ≤ 6 * r + i ∧ 6 * r + i < 6 * r0 + 6) := by omega
    rw [(a3 _ hk).1, (a3 _ hk).2]
    exact hc i hi
  · exact Or.inr ⟨h13, m1, by rw [(ht r hrr).2]; exact x1⟩
theorem Cr.mcong {mc : Nat} {star th le : Nat → Int32} {c : Xc} {m m' : Mc} (h : Cr mc star th le c m) (h1 : ∀ a, a < 10 → m'.1 a = m.1 a ∧ m'.2.1 a = m.2.1 a) (h2 : ∀ q, q < 11 → m'.2.2.1 q = m.2.2.1 q ∧ m'.2.2.2.1 q = m.2.2.2.1 q) (h3 : ∀ k, k < 66 → m'.2.2.2.2.1 k = m.2.2.2.2.1 k ∧ m'.2.2.2.2.2.1 k = m.2.2.2.2.2.1 k ∧ m'.2.2.2.2.2.2 k = m.2.2.2.2.2.2 k) : Cr mc star th le c m' := by
  refine ⟨fun a ha => ?_, fun a b ha hb hne => by rw [(h1 a ha).2, (h1 b hb).2]; exact h.2 a b ha hb (by rw [← (h1 a ha).2]; exact hne)⟩
  obtain ⟨r, t, hr, ht2, e1, e2, e3, e4⟩ := h.1 a ha
  refine ⟨r, t, hr, ht2, e1, e2, by rw [(h1 a ha).1]; exact e3, ?_⟩
  rcases e4 with ⟨h12, q, n, hq, hn, m1, m2, x1, m3, hc⟩ | ⟨h13, m1, x1⟩
  · refine Or.inl ⟨h12, q, n, hq, hn, by rw [(h1 a ha).2]; exact m1, by rw [(h2 q hq).1]; exact m2, x1, by rw [(h2 q hq).2]; exact m3, fun i hi => ?_⟩
    have hk : 6 * q + i < 66 := by omega
    rw [(h3 _ hk).1, (h3 _ hk).2.1, (h3 _ hk).2.2]
    exact hc i hi
  · exact Or.inr ⟨h13, by rw [(h1 a ha).2]; exact m1, x1⟩
/-- the reference has noted its core at p -/
def Noted (μ μ' : Mm) (p mc : Nat) : Prop := μ'.1 10 = μ.1 10 ∧ μ'.1 20 p = nI mc ∧ (∀ j, j ≠ p → μ'.1 20 j = μ.1 20 j) ∧
  (∀ j, μ'.2 18 j = if 66 * p ≤ j ∧ j < 66 * p + 66 then μ.2 8 (j - 66 * p) else μ.2 18 j) ∧
  (∀ j, μ'.1 12 j = if 10 * p ≤ j ∧ j < 10 * p + 10 then μ.1 2 (j - 10 * p) else μ.1 12 j) ∧ (∀ j, μ'.1 13 j = if 10 * p ≤ j ∧ j < 10 * p + 10 then μ.1 3 (j - 10 * p) else μ.1 13 j) ∧
  (∀ j, μ'.1 14 j = if 11 * p ≤ j ∧ j < 11 * p + 11 then μ.1 4 (j - 11 * p) else μ.1 14 j) ∧ (∀ j, μ'.1 15 j = if 11 * p ≤ j ∧ j < 11 * p + 11 then μ.1 5 (j - 11 * p) else μ.1 15 j) ∧
  (∀ j, μ'.1 16 j = if 66 * p ≤ j ∧ j < 66 * p + 66 then μ.1 6 (j - 66 * p) else μ.1 16 j) ∧ (∀ j, μ'.1 17 j = if 66 * p ≤ j ∧ j < 66 * p + 66 then μ.1 7 (j - 66 * p) else μ.1 17 j) ∧
  (∀ j, μ'.1 19 j = if 20 * p ≤ j ∧ j < 20 * p + 20 then μ.1 9 (j - 20 * p) else μ.1 19 j)
theorem Noted.at {μ μ' : Mm} {p mc : Nat} (h : Noted μ μ' p mc) {star th le : Nat → Int32} {c : Xc} (hC : Cr mc star th le c (mcore μ)) : Cr mc star th le c (msnap μ' p) := by
  obtain ⟨-, -, -, n18, n12, n13, n14, n15, n16, n17, -⟩ := h
  refine hC.mcong (fun a ha => ⟨?_, ?_⟩) (fun q hq => ⟨?_, ?_⟩) (fun k hk => ⟨?_, ?_, ?_⟩)
  · show μ'.1 12 (10 * p + a) = μ.1 2 a
    rw [n12, if_pos (by omega), Nat.add_sub_cancel_left]
  · show μ'.1 13 (10 * p + a) = μ.1 3 a
    rw [n13, if_pos (by omega), Nat.add_sub_cancel_left]
  · show μ'.1 14 (11 * p + q) = μ.1 4 q
    rw [n14, if_pos (by omega), Nat.add_sub_cancel_left]
  · show μ'.1 15 (11 * p + q) = μ.1 5 q
    rw [n15, if_pos (by omega), Nat.add_sub_cancel_left]
  · show μ'.1 16 (66 * p + k) = μ.1 6 k
    rw [n16, if_pos (by omega), Nat.add_sub_cancel_left]
  · show μ'.1 17 (66 * p + k) = μ.1 7 k
    rw [n17, if_pos (by omega), Nat.add_sub_cancel_left]
  · show μ'.2 18 (66 * p + k) = μ.2 8 k
    rw [n18, if_pos (by omega), Nat.add_sub_cancel_left]
theorem Noted.off {μ μ' : Mm} {p mc mc0 q : Nat} (h : Noted μ μ' p mc0) (hq : q ≠ p) {star th le : Nat → Int32} {c : Xc} (hC : Cr mc star th le c (msnap μ q)) : Cr mc star th le c (msnap μ' q) := by
  obtain ⟨-, -, -, n18, n12, n13, n14, n15, n16, n17, -⟩ := h
  refine hC.mcong (fun a ha => ⟨?_, ?_⟩) (fun b hb => ⟨?_, ?_⟩) (fun k hk => ⟨?_, ?_, ?_⟩)
  · show μ'.1 12 (10 * q + a) = μ.1 12 (10 * q + a)
    rw [n12, if_neg (by omega)]
  · show μ'.1 13 (10 * q + a) = μ.1 13 (10 * q + a)
    rw [n13, if_neg (by omega)]
  · show μ'.1 14 (11 * q + b) = μ.1 14 (11 * q + b)
    rw [n14, if_neg (by omega)]
  · show μ'.1 15 (11 * q + b) = μ.1 15 (11 * q + b)
    rw [n15, if_neg (by omega)]
  · show μ'.1 16 (66 * q + k) = μ.1 16 (66 * q + k)
    rw [n16, if_neg (by omega)]
  · show μ'.1 17 (66 * q + k) = μ.1 17 (66 * q + k)
    rw [n17, if_neg (by omega)]
  · show μ'.2 18 (66 * q + k) = μ.2 18 (66 * q + k)
    rw [n18, if_neg (by omega)]
/-- the class's log is the same but at p -/
def Xlog (μ μ' : Mm) (p : Nat) : Prop := ∀ q, q ≠ p → (μ'.1 15 q = μ.1 15 q ∧ μ'.1 16 q = μ.1 16 q ∧ μ'.1 17 q = μ.1 17 q ∧ μ'.1 18 q = μ.1 18 q) ∧ ∀ i, i < 6 → μ'.1 19 (6 * q + i) = μ.1 19 (6 * q + i) ∧ μ'.2 20 (6 * q + i) = μ.2 20 (6 * q + i)
theorem Xlog.un {μ μ' : Mm} {p q : Nat} (h : Xlog μ μ' p) (hq : q ≠ p) (c : Xc) : unA μ' q c = unA μ q c := by
  obtain ⟨⟨h15, h16, h17, h18⟩, hi⟩ := h q hq
  unfold unA
  rw [h15, h16, h17, h18]
  by_cases s0 : μ.1 15 q = 0
  · rw [if_pos s0, if_pos s0]
  · rw [if_neg s0, if_neg s0]
    by_cases s1 : μ.1 15 q = 1
    · rw [if_pos s1, if_pos s1]
      congr 1
      congr 1
      · funext k
        split
        · exact (hi _ (by omega)).1
        · rfl
      · congr 1
        funext k
        split
        · exact (hi _ (by omega)).2
        · rfl
    · rw [if_neg s1, if_neg s1]
theorem lpos_1 {nx : Nat} (h : nx < 14) : lpos ((nx + 1) % 14) 1 = nx := by unfold lpos; omega
theorem lpos_s {nx j : Nat} (h : nx < 14) (hj : j ≤ 13) : lpos ((nx + 1) % 14) (j + 1) = lpos nx j := by unfold lpos; omega
theorem lpos_ne {nx j : Nat} (h : nx < 14) (h1 : 1 ≤ j) (hj : j ≤ 13) : lpos nx j ≠ nx := by unfold lpos; omega
theorem lpos_lt (nx j : Nat) : lpos nx j < 14 := Nat.mod_lt _ (by decide)
theorem Un_slot {μ : Mm} {nx kp r0 : Nat} (f1 : ∀ a, a < 10 → μ.1 6 a ≠ nI r0) (f2 : ∀ j, 1 ≤ j → j ≤ kp → μ.1 17 (lpos nx j) ≠ nI r0) : ∀ j, j ≤ kp → ∀ a, a < 10 → (Un μ nx j).1 a ≠ nI r0 := by
  intro j
  induction j with
  | zero => intro _ a ha; exact f1 a ha
  | succ j ih =>
    intro hj a ha
    show (unA μ (lpos nx (j + 1)) (Un μ nx j)).1 a ≠ nI r0
    unfold unA
    split
    · show upd (Un μ nx j).1 _ _ a ≠ nI r0
      unfold upd
      split
      · exact f2 (j + 1) (by omega) hj
      · exact ih (by omega) a ha
    · split
      · exact ih (by omega) a ha
      · exact ih (by omega) a ha
theorem Un_push {μ μ' : Mm} {nx r0 : Nat} (hnx : nx < 14) (hX : Xlog μ μ' nx) (hu : AgX r0 (xcore μ) (unA μ' nx (xcore μ'))) : ∀ j, j ≤ 13 → AgX r0 (Un μ nx j) (Un μ' ((nx + 1) % 14) (j + 1)) := by
  intro j
  induction j with
  | zero => intro _; show AgX r0 (xcore μ) (unA μ' (lpos ((nx + 1) % 14) 1) (xcore μ')); rw [lpos_1 hnx]; exact hu
  | succ j ih =>
    intro hj
    show AgX r0 (unA μ (lpos nx (j + 1)) (Un μ nx j)) (unA μ' (lpos ((nx + 1) % 14) (j + 1 + 1)) (Un μ' ((nx + 1) % 14) (j + 1)))
    rw [lpos_s hnx hj, hX.un (lpos_ne hnx (by omega) hj)]
    exact (ih (by omega)).un μ _
theorem push {μx μm μx' μm' : Mm} {mc nx kp r0 : Nat} (hnx : nx < 14) (hL : Lg μx μm mc nx kp) (hC : Cr mc (μm.1 10) (μx.1 11) (μx.1 12) (xcore μx) (mcore μm)) (hN : ∀ k, k < mc → μx.1 21 k = μm.1 9 k) (hmc : mc ≤ 20)
    (hM : Noted μm μm' nx mc) (hX : Xlog μx μx' nx) (ha : Ac1 μx' μm' mc nx) (hu : AgX r0 (xcore μx) (unA μx' nx (xcore μx'))) (ht : ∀ r, r ≠ r0 → μx'.1 11 r = μx.1 11 r ∧ μx'.1 12 r = μx.1 12 r)
    (f1 : ∀ a, a < 10 → μx.1 6 a ≠ nI r0) (f2 : ∀ j, 1 ≤ j → j ≤ kp → μx.1 17 (lpos nx j) ≠ nI r0) : Lg μx' μm' mc ((nx + 1) % 14) (if kp < 14 then kp + 1 else 14) := by
  intro j h1 h2
  obtain ⟨i, rfl⟩ : ∃ i, j = i + 1 := ⟨j - 1, by omega⟩
  have hi13 : i ≤ 13 := by split at h2 <;> omega
  have hik : i ≤ kp := by split at h2 <;> omega
  have hA := Un_push hnx hX hu i hi13
  rw [lpos_s hnx hi13]
  by_cases hi : i = 0
  · subst hi
    have l0 : lpos nx 0 = nx := by unfold lpos; omega
    rw [l0]
    refine ⟨ha, ?_, fun k om hom20 hom hk => ?_⟩
    · rw [hM.1]
      exact hM.at (Cr.agree hC hA ht f1)
    · rw [hM.2.1] at hom
      have hom' : om = mc := ((nI_eq (by omega) (by omega)).mp hom).symm
      subst hom'
      rw [hA.2.1, hM.2.2.2.2.2.2.2.2.2.2, if_pos (by omega), Nat.add_sub_cancel_left]
      exact hN k hk
  · obtain ⟨g1, g2, g3⟩ := hL i (by omega) hik
    have hne := lpos_ne hnx (by omega : 1 ≤ i) hi13
    obtain ⟨⟨x15, x16, x17, x18⟩, -⟩ := hX _ hne
    refine ⟨?_, ?_, fun k om hom20 hom hk => ?_⟩
    · unfold Ac1
      rw [x15, x16, x17, hM.2.2.1 _ hne]
      exact g1
    · rw [hM.1]
      exact hM.off hne (Cr.agree g2 hA ht (Un_slot f1 f2 i hik))
    · rw [hM.2.2.1 _ hne] at hom
      rw [hA.2.1, hM.2.2.2.2.2.2.2.2.2.2]
      rw [if_neg (by omega)]
      exact g3 k om hom20 hom hk
