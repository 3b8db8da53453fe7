/-! PURE PART 17: chains -/
theorem inb_lt {v : Int32} {n : Nat} (h : inb v n = true) : v.toNatClampNeg < n := by
  unfold inb at h
  simp at h
  exact h.2
def Fr (μ : Mm) (a : Option (Int32 × Mm)) : Prop := ∀ r μ', a = some (r, μ') → EqM μ μ'
theorem fr_58 {k49 : Int32 → Int32 → Mm → Option (Int32 × Mm)} (hk : ∀ v2 v3 μ, Fr μ (k49 v2 v3 μ)) : ∀ n v2 v3 v4 μ, Fr μ (fX8_chains_b58 k49 n v2 v3 v4 μ) := by
  intro n
  induction n with
  | zero => intro v2 v3 v4 μ r μ' h; cases h
  | succ n ih =>
    intro v2 v3 v4 μ
    have hb : ∀ s0 s1 s2, Fr μ (fX8_chains_b91 k49 (fX8_chains_b58 k49 n) v2 v3 v4 s0 s1 s2 μ) := by
      intro s0 s1 s2 r μ' h
      unfold fX8_chains_b91 at h
      split at h
      · exact (EqM.rf.wI rfl).tr (ih _ _ _ _ r μ' h)
      · cases h
    intro r μ' h
    unfold fX8_chains_b58 at h
    split at h
    · exact hk _ _ _ r μ' h
    · split at h
      · cases hw : fX8_widens v4 v3 with
        | none => rw [hw] at h; cases h
        | some w =>
          rw [hw] at h
          simp only [Option.bind_some] at h
          split at h
          · exact hb _ _ _ r μ' h
          · split at h
            · exact hb _ _ _ r μ' h
            · cases h
      · cases h
theorem fr_49 : ∀ n v2 v3 μ, Fr μ (fX8_chains_b49 n v2 v3 μ) := by
  intro n
  induction n with
  | zero => intro v2 v3 μ r μ' h; cases h
  | succ n ih =>
    intro v2 v3 μ r μ' h
    unfold fX8_chains_b49 at h
    split at h
    · split at h
      · have := Option.some.inj h
        rw [← (Prod.mk.inj this).2]
        exact EqM.rf
      · cases h
    · exact fr_58 ih _ _ _ _ _ r μ' h
theorem fr_19 : ∀ n v1 v2 v3 μ, Fr μ (fX8_chains_b19 n v1 v2 v3 μ) := by
  intro n
  induction n with
  | zero => intro v1 v2 v3 μ r μ' h; cases h
  | succ n ih =>
    intro v1 v2 v3 μ
    have hb : ∀ s0 s1, Fr μ (fX8_chains_b40 (fX8_chains_b19 n) v1 v2 v3 s0 s1 μ) := by
      intro s0 s1 r μ' h
      unfold fX8_chains_b40 at h
      split at h
      · exact (EqM.rf.wI rfl).tr (ih _ _ _ _ r μ' h)
      · cases h
    intro r μ' h
    unfold fX8_chains_b19 at h
    split at h
    · exact fr_49 _ _ _ _ r μ' h
    · split at h
      · exact hb _ _ r μ' h
      · exact hb _ _ r μ' h
def Ag8 (i : Nat) (μ ν : Mm) : Prop := ∀ k, k < i → μ.1 28 k = ν.1 28 k
def Sf (a b : Option (Int32 × Mm)) : Prop := a.map Prod.fst = b.map Prod.fst
theorem Ag8.w {i k : Nat} {μ ν : Mm} {x y : Int32} (h : Ag8 i μ ν) (e : x = y) : Ag8 i (wI μ 28 k x) (wI ν 28 k y) := by
  intro j hj
  rw [wI_1, wI_1, e, h j hj]
theorem sim_58 {k49 : Int32 → Int32 → Mm → Option (Int32 × Mm)} (hk : ∀ v2 v3 μ ν, Ag8 8 μ ν → Sf (k49 v2 v3 μ) (k49 v2 v3 ν)) : ∀ n v2 v3 v4 μ ν, Ag8 8 μ ν → Sf (fX8_chains_b58 k49 n v2 v3 v4 μ) (fX8_chains_b58 k49 n v2 v3 v4 ν) := by
  intro n
  induction n with
  | zero => intro v2 v3 v4 μ ν h; rfl
  | succ n ih =>
    intro v2 v3 v4 μ ν h
    have hb : ∀ s0 s0' s1 s1' s2, s0 = s0' → s1 = s1' → Sf (fX8_chains_b91 k49 (fX8_chains_b58 k49 n) v2 v3 v4 s0 s1 s2 μ) (fX8_chains_b91 k49 (fX8_chains_b58 k49 n) v2 v3 v4 s0' s1' s2 ν) := by
      intro s0 s0' s1 s1' s2 e0 e1
      subst e0 e1
      unfold fX8_chains_b91
      by_cases c : inb s2 8 = true
      · rw [if_pos c, if_pos c]
        exact ih _ _ _ _ _ (h.w rfl)
      · rw [if_neg c, if_neg c]; rfl
    unfold fX8_chains_b58
    by_cases c1 : v3 ≤ v4
    · rw [if_pos c1, if_pos c1]; exact hk _ _ _ _ h
    · rw [if_neg c1, if_neg c1]
      by_cases c2 : inb v3 8 = true
      · rw [if_pos c2, if_pos c2]
        cases fX8_widens v4 v3 with
        | none => rfl
        | some w =>
          simp only [Option.bind_some]
          by_cases c3 : w = 0
          · rw [if_pos c3, if_pos c3]
            exact hb _ _ _ _ _ rfl (h _ (inb_lt c2))
          · rw [if_neg c3, if_neg c3]
            by_cases c4 : inb v4 8 = true
            · rw [if_pos c4, if_pos c4]
              exact hb _ _ _ _ _ (h _ (inb_lt c4)) (h _ (inb_lt c2))
            · rw [if_neg c4, if_neg c4]; rfl
      · rw [if_neg c2, if_neg c2]; rfl
theorem sim_49 : ∀ n v2 v3 μ ν, Ag8 8 μ ν → Sf (fX8_chains_b49 n v2 v3 μ) (fX8_chains_b49 n v2 v3 ν) := by
  intro n
  induction n with
  | zero => intro v2 v3 μ ν h; rfl
  | succ n ih =>
    intro v2 v3 μ ν h
    unfold fX8_chains_b49
    by_cases c1 : (8 : Int32) ≤ v3
    · rw [if_pos c1, if_pos c1]
      by_cases c2 : inb v2 8 = true
      · rw [if_pos c2, if_pos c2]
        show some (μ.1 28 _) = some (ν.1 28 _)
        rw [h _ (inb_lt c2)]
      · rw [if_neg c2, if_neg c2]; rfl
    · rw [if_neg c1, if_neg c1]
      exact sim_58 ih _ _ _ _ _ _ h
theorem sim_19 (v1 v2 : Int32) : ∀ n i μ ν, i ≤ 8 → Ag8 i μ ν → Sf (fX8_chains_b19 n v1 v2 (nI i) μ) (fX8_chains_b19 n v1 v2 (nI i) ν) := by
  intro n
  induction n with
  | zero => intro i μ ν hi h; rfl
  | succ n ih =>
    intro i μ ν hi h
    unfold fX8_chains_b19
    by_cases c1 : i = 8
    · subst c1
      rw [if_pos (show (8 : Int32) ≤ nI 8 by decide), if_pos (show (8 : Int32) ≤ nI 8 by decide)]
      exact sim_49 _ _ _ _ _ h
    · have hlt : i < 8 := by omega
      have hng : ¬ (8 : Int32) ≤ nI i := nI_ge (b := 8) hlt (by decide)
      have ib : inb (nI i) 8 = true := inb_nI hlt (by decide)
      rw [if_neg hng, if_neg hng]
      have hb : ∀ s0, Sf (fX8_chains_b40 (fX8_chains_b19 n) v1 v2 (nI i) s0 (nI i) μ) (fX8_chains_b40 (fX8_chains_b19 n) v1 v2 (nI i) s0 (nI i) ν) := by
        intro s0
        unfold fX8_chains_b40
        rw [if_pos ib, if_pos ib, cl (by omega), nI_1]
        refine ih (i + 1) _ _ (by omega) ?_
        intro k hk
        rw [wI_1, wI_1]
        by_cases z : k = i
        · rw [if_pos ⟨rfl, z⟩, if_pos ⟨rfl, z⟩]
        · rw [if_neg (fun y => z y.2), if_neg (fun y => z y.2)]
          exact h k (by omega)
      by_cases c2 : nI i = v1
      · rw [if_pos c2, if_pos c2]; exact hb _
      · rw [if_neg c2, if_neg c2]; exact hb _
def zM : Mm := (fun _ _ => 0, fun _ _ => 0)
theorem ch_val : ∀ a, a < 8 → ∀ b, b < 8 → (fX8_chains_b19 100 (nI a) (nI b) 0 zM).map Prod.fst = fX2_countChains 10 (nI a) (nI b) 0 ∧ (fX2_countChains 10 (nI a) (nI b) 0).isSome = true := by decide +kernel
theorem st_chains : St_chains Rel := by
  intro p1 p2 μx μm h
  rcases prim_cases p1 with hp | ⟨a, ha, rfl⟩
  · exact ⟨-2, μm, by unfold fX7_chains; rw [x_isPrim, bz_f hp]; rfl, by unfold fX8_chains; rw [m_isPlain, bz_f hp]; rfl, h⟩
  have hs := prim_ok ha
  rcases prim_cases p2 with hp | ⟨b, hb, rfl⟩
  · exact ⟨-2, μm, by unfold fX7_chains; rw [x_isPrim, bz_t hs, x_isPrim, bz_f hp]; rfl, by unfold fX8_chains; rw [m_isPlain, bz_t hs, m_isPlain, bz_f hp]; rfl, h⟩
  have hs2 := prim_ok hb
  obtain ⟨e1, e2⟩ := ch_val a ha b hb
  obtain ⟨r, er⟩ := Option.isSome_iff_exists.mp e2
  have hsim : Sf (fX8_chains_b19 100 (nI a) (nI b) (nI 0) μm) (fX8_chains_b19 100 (nI a) (nI b) (nI 0) zM) := sim_19 _ _ 100 0 μm zM (by decide) (fun k hk => by omega)
  unfold Sf at hsim
  have hm : (fX8_chains_b19 100 (nI a) (nI b) 0 μm).map Prod.fst = some r := by
    rw [← er, ← e1]; exact hsim
  cases hv : fX8_chains_b19 100 (nI a) (nI b) 0 μm with
  | none => rw [hv] at hm; cases hm
  | some q =>
    obtain ⟨r', μ'⟩ := q
    rw [hv] at hm
    have hrr : r' = r := Option.some.inj hm
    subst hrr
    refine ⟨r', μ', ?_, ?_, h.cong EqX.rf (fr_19 _ _ _ _ _ r' μ' hv)⟩
    · unfold fX7_chains
      rw [x_isPrim, bz_t hs, x_isPrim, bz_t hs2, er]
      rfl
    · unfold fX8_chains
      rw [m_isPlain, bz_t hs, m_isPlain, bz_t hs2]
      simp only [Option.bind_some, one_ne, if_false]
      exact hv
