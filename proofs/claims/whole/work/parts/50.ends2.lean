/-! ends, 2 -/
def enD (a : Nat) (c : Int64) (j : Nat) : Int64 := (fX2_widened c (nI a) (nI j)).getD 0
def eX (a : Nat) (c : Int64) : Int64 := (fX2_widened (enD a c 6) (nI 6) (nI 7)).getD 0
def eL0 (a : Nat) (c : Int64) : Nat → List Int64 := fun j => if j = a then [c] else []
def eL1 (a : Nat) (c : Int64) : Nat → List Int64 := fun j => if fX8_widens (nI a) (nI j) = some 1 then [enD a c j] else []
def eL2 (a : Nat) (c : Int64) : Nat → List Int64 := fun j => if j = 7 ∧ a < 6 ∧ fX8_widens (nI a) (nI 6) = some 1 then ins (eX a c) [enD a c 7] else eL1 a c j
theorem wid_f : ∀ a, a < 8 → (fX8_widens (nI a) (nI a) = some 1 ∧ (∀ j, j < 8 → a ≤ j ∨ ¬ fX8_widens (nI a) (nI j) = some 1)) := by decide +kernel
theorem wid_tB : ((List.range 8).all fun a => (List.range 8).all fun k => (List.range 8).all fun j => !decide (fX8_widens (nI a) (nI k) = some 1) || (!decide (fX8_widens (nI k) (nI j) = some 1) || decide (fX8_widens (nI a) (nI j) = some 1))) = true := by decide +kernel
theorem wid_t (a : Nat) (ha : a < 8) (k : Nat) (hk : k < 8) (j : Nat) (hj : j < 8) : ¬ fX8_widens (nI a) (nI k) = some 1 ∨ ¬ fX8_widens (nI k) (nI j) = some 1 ∨ fX8_widens (nI a) (nI j) = some 1 := by
  have h := List.all_eq_true.mp (List.all_eq_true.mp (List.all_eq_true.mp wid_tB a (List.mem_range.mpr ha)) k (List.mem_range.mpr hk)) j (List.mem_range.mpr hj)
  by_cases z1 : fX8_widens (nI a) (nI k) = some 1
  · by_cases z2 : fX8_widens (nI k) (nI j) = some 1
    · rw [decide_eq_true z1, decide_eq_true z2] at h
      exact Or.inr (Or.inr (of_decide_eq_true h))
    · exact Or.inr (Or.inl z2)
  · exact Or.inl z1
theorem wid_67 : ∀ a, a < 8 → ¬ fX8_widens (nI a) (nI 7) = some 1 ∨ a = 7 ∨ (fX8_widens (nI a) (nI 6) = some 1) := by decide +kernel
theorem enD_a (a : Nat) (c : Int64) : enD a c a = c := by unfold enD fX2_widened; rw [if_pos rfl]; rfl
theorem enD_w {a j : Nat} {c : Int64} (ha : a < 8) (hj : j < 8) (hw : fX8_widens (nI a) (nI j) = some 1) (hc : VC a c) : fX2_widened c (nI a) (nI j) = some (enD a c j) ∧ VC j (enD a c j) := by
  obtain ⟨c', w1, w2, -⟩ := n_wid ha hj hw hc μ0M
  have : enD a c j = c' := by unfold enD; rw [w1]; rfl
  rw [this]
  exact ⟨w1, w2⟩
theorem enD_m {k j : Nat} {x y : Int64} (hk : k < 8) (hj : j < 8) (hw : fX8_widens (nI k) (nI j) = some 1) (hx : VC k x) (hy : fX2_widened x (nI k) (nI j) = some y) (μ : Mm) : ∃ μ', fX8_widened (nI k) x (nI j) μ = some (y, μ') ∧ EqA μ μ' := by
  obtain ⟨c', w1, -, μ', w3, w4⟩ := n_wid hk hj hw hx μ
  have : c' = y := by
    rw [hy] at w1
    exact (Option.some.inj w1).symm
  rw [this] at w3
  exact ⟨μ', w3, w4⟩
theorem enD_mid {a k j : Nat} {c : Int64} (ha : a < 8) (hk : k < 6) (hj : j < 8) (hak : a < k) (hkj : k < j) : fX2_widened c (nI k) (nI j) = fX2_widened c (nI a) (nI j) := by
  have n1 : ¬ nI k = nI j := nI_ne (by omega) (by omega) (by omega)
  have n2 : ¬ nI a = nI j := nI_ne (by omega) (by omega) (by omega)
  have n3 : ¬ nI k = 6 := nI_ne (b := 6) (by omega) (by omega) (by omega)
  have n4 : ¬ nI a = 6 := nI_ne (b := 6) (by omega) (by omega) (by omega)
  unfold fX2_widened
  rw [if_neg n1, if_neg n2, if_neg n3, if_neg n4]
theorem enD_lo {a k : Nat} {c : Int64} (hk : k < 6) (hak : a < k) : enD a c k = c := by
  have n2 : ¬ nI a = nI k := nI_ne (by omega) (by omega) (by omega)
  have n4 : ¬ nI a = 6 := nI_ne (b := 6) (by omega) (by omega) (by omega)
  have n5 : ¬ (6 : Int32) ≤ nI k := nI_ge (b := 6) (by omega) (by decide)
  unfold enD fX2_widened
  rw [if_neg n2, if_neg n4, if_neg n5]
  rfl
theorem en_first {a : Nat} {c : Int64} (ha : a < 8) (hc : VC a c) (k95 : Int32 → Int32 → Mm → Option (Int32 × Mm)) (p : Int32) {μ : Mm} (h : MS μ (eL0 a c)) : ∃ μ', fX8_ends_b108 k95 100 p (nI a) (nI (a + 1)) μ = k95 p (nI (a + 1)) μ' ∧ MS μ' (eL1 a c) ∧ EqN μ μ' := by
  have h0 : eL0 a c a = [c] := if_pos rfl
  obtain ⟨μ', g1, g2, g3⟩ := rowR ha k95 p c (enD a c) (8 - (a + 1)) 100 (a + 1) (eL0 a c) μ (by omega) (by omega) (by omega) h (Or.inr h0) (fun j h1 h2 => by unfold eL0; rw [if_neg (by omega)]; exact Nat.zero_le _) (fun j h1 h2 h3 _ μ => enD_m ha h2 h3 hc (enD_w ha h2 h3 hc).1 μ)
  refine ⟨μ', g1, g2.c (fun j hj => ?_), g3⟩
  unfold eL1
  by_cases z : j = a
  · subst z
    rw [if_pos (wid_f j ha).1, if_neg (fun q => absurd q.1.1 (by omega)), enD_a, h0]
  · have hn : eL0 a c j = [] := if_neg z
    by_cases w : fX8_widens (nI a) (nI j) = some 1
    · have : a ≤ j := by
        rcases (wid_f a ha).2 j hj with y | y
        · exact y
        · exact absurd w y
      rw [if_pos w, if_pos ⟨⟨by omega, hj⟩, w, h0⟩, hn]
      rfl
    · rw [if_neg w, if_neg (fun q => w q.2.1), hn]
theorem ins_self (v : Int64) : ins v [v] = [v] := if_pos rfl
theorem en_mid {a k : Nat} {c : Int64} (ha : a < 8) (hc : VC a c) (hak : a < k) (hk : k < 6) (k95 : Int32 → Int32 → Mm → Option (Int32 × Mm)) (p : Int32) {μ : Mm} (h : MS μ (eL1 a c)) : ∃ μ', fX8_ends_b108 k95 100 p (nI k) (nI (k + 1)) μ = k95 p (nI (k + 1)) μ' ∧ MS μ' (eL1 a c) ∧ EqN μ μ' := by
  have hk8 : k < 8 := by omega
  have hDk := enD_lo (c := c) hk hak
  have hcase : eL1 a c k = [] ∨ eL1 a c k = [c] := by
    unfold eL1
    split
    · right; rw [hDk]
    · left; rfl
  have hw1 : eL1 a c k = [c] → fX8_widens (nI a) (nI k) = some 1 := by
    intro z
    unfold eL1 at z
    split at z
    · assumption
    · exact absurd z (by simp)
  obtain ⟨μ', g1, g2, g3⟩ := rowR hk8 k95 p c (enD a c) (8 - (k + 1)) 100 (k + 1) (eL1 a c) μ (by omega) (by omega) (by omega) h hcase (fun j h1 h2 => by unfold eL1; split <;> simp) (fun j h1 h2 h3 h4 μ => by
    have w := hw1 h4
    have hw2 : fX8_widens (nI a) (nI j) = some 1 := by
      rcases wid_t a ha k hk8 j h2 with y | y | y
      · exact absurd w y
      · exact absurd h3 y
      · exact y
    have hv := (enD_w ha hk8 w hc).2
    rw [hDk] at hv
    exact enD_m hk8 h2 h3 hv ((enD_mid ha hk h2 hak (by omega)).trans (enD_w ha h2 hw2 hc).1) μ)
  refine ⟨μ', g1, g2.c (fun j hj => ?_), g3⟩
  by_cases q : (k + 1 ≤ j ∧ j < 8) ∧ fX8_widens (nI k) (nI j) = some 1 ∧ eL1 a c k = [c]
  · have hw2 : fX8_widens (nI a) (nI j) = some 1 := by
      rcases wid_t a ha k hk8 j hj with y | y | y
      · exact absurd (hw1 q.2.2) y
      · exact absurd q.2.1 y
      · exact y
    have e : eL1 a c j = [enD a c j] := if_pos hw2
    rw [if_pos q, e, ins_self]
  · rw [if_neg q]
theorem en_six {a : Nat} {c : Int64} (ha : a < 6) (hc : VC a c) (k95 : Int32 → Int32 → Mm → Option (Int32 × Mm)) (p : Int32) {μ : Mm} (h : MS μ (eL1 a c)) : ∃ μ', fX8_ends_b108 k95 100 p (nI 6) (nI 7) μ = k95 p (nI 7) μ' ∧ MS μ' (eL2 a c) ∧ EqN μ μ' := by
  have ha8 : a < 8 := by omega
  have hcase : eL1 a c 6 = [] ∨ eL1 a c 6 = [enD a c 6] := by
    unfold eL1
    split
    · right; rfl
    · left; rfl
  have hw1 : eL1 a c 6 = [enD a c 6] ↔ fX8_widens (nI a) (nI 6) = some 1 := by
    constructor
    · intro z
      unfold eL1 at z
      split at z
      · assumption
      · exact absurd z (by simp)
    · intro z
      exact if_pos z
  have w67 : fX8_widens (nI 6) (nI 7) = some 1 := by decide +kernel
  obtain ⟨μ', g1, g2, g3⟩ := rowR (k := 6) (by decide) k95 p (enD a c 6) (fun _ => eX a c) 1 100 7 (eL1 a c) μ (by decide) (by decide) (by decide) h hcase (fun j h1 h2 => by unfold eL1; split <;> simp) (fun j h1 h2 h3 h4 μ => by
    have hj : j = 7 := by omega
    subst hj
    have w := hw1.mp h4
    have hv := (enD_w ha8 (show 6 < 8 by decide) w hc).2
    exact enD_m (k := 6) (by decide) h2 h3 hv (enD_w (a := 6) (by decide) (show 7 < 8 by decide) w67 hv).1 μ)
  refine ⟨μ', g1, g2.c (fun j hj => ?_), g3⟩
  unfold eL2
  by_cases q : j = 7 ∧ a < 6 ∧ fX8_widens (nI a) (nI 6) = some 1
  · obtain ⟨rfl, -, w⟩ := q
    have e : eL1 a c 7 = [enD a c 7] := by
      have : fX8_widens (nI a) (nI 7) = some 1 := by
        rcases wid_t a ha8 6 (by decide) 7 (by decide) with y | y | y
        · exact absurd w y
        · exact absurd w67 y
        · exact y
      exact if_pos this
    rw [if_pos ⟨rfl, ha, w⟩, if_pos ⟨⟨by decide, by decide⟩, w67, hw1.mpr w⟩, e]
  · rw [if_neg q, if_neg (fun y => q ⟨by omega, ha, hw1.mp y.2.2⟩)]
theorem en_out {a p : Nat} {c : Int64} (ha : a < 8) (hp : p < 8) (hc : VC a c) : ∀ m f k (μ : Mm), k + m = 8 → a < k → m < f → MS μ (if k ≤ 6 then eL1 a c else eL2 a c) → ∃ μ', fX8_ends_b95 f (nI p) (nI k) μ = some (nI (eL2 a c p).length, μ') ∧ EqN μ μ' := by
  intro m
  induction m with
  | zero =>
    intro f k μ he hak hf h
    obtain ⟨f, rfl⟩ : ∃ g, f = g + 1 := ⟨f - 1, by omega⟩
    rw [if_neg (by omega)] at h
    refine ⟨μ, ?_, EqN.rf⟩
    unfold fX8_ends_b95
    rw [if_pos (show (8 : Int32) ≤ nI k from nI_le (a := 8) (by omega) (by omega)), if_pos (inb8 hp), cl (by omega), (h p hp).2.1]
  | succ m ih =>
    intro f k μ he hak hf h
    obtain ⟨f, rfl⟩ : ∃ g, f = g + 1 := ⟨f - 1, by omega⟩
    have hpre : fX8_ends_b95 (f + 1) (nI p) (nI k) μ = fX8_ends_b108 (fX8_ends_b95 f) 100 (nI p) (nI k) (nI (k + 1)) μ := by
      rw [fX8_ends_b95, if_neg (show ¬ (8 : Int32) ≤ nI k from nI_ge (b := 8) (by omega) (by decide)), nI_1]
    have fin : ∀ μ1 : Mm, MS μ1 (if k + 1 ≤ 6 then eL1 a c else eL2 a c) → EqN μ μ1 → ∃ μ', fX8_ends_b95 f (nI p) (nI (k + 1)) μ1 = some (nI (eL2 a c p).length, μ') ∧ EqN μ μ' := by
      intro μ1 h1 h2
      obtain ⟨μ2, a1, a2⟩ := ih f (k + 1) μ1 (by omega) (by omega) (by omega) h1
      exact ⟨μ2, a1, h2.tr a2⟩
    rw [hpre]
    rcases Nat.lt_trichotomy k 6 with z | z | z
    · rw [if_pos (by omega)] at h
      obtain ⟨μ1, g1, g2, g3⟩ := en_mid ha hc hak z (fX8_ends_b95 f) (nI p) h
      rw [g1]
      exact fin μ1 (by rw [if_pos (by omega)]; exact g2) g3
    · subst z
      rw [if_pos (by omega)] at h
      obtain ⟨μ1, g1, g2, g3⟩ := en_six hak hc (fX8_ends_b95 f) (nI p) h
      rw [g1]
      exact fin μ1 (by rw [if_neg (by omega)]; exact g2) g3
    · have hk7 : k = 7 := by omega
      subst hk7
      rw [if_neg (by omega)] at h
      have : fX8_ends_b108 (fX8_ends_b95 f) 100 (nI p) (nI 7) (nI (7 + 1)) μ = fX8_ends_b95 f (nI p) (nI (7 + 1)) μ := by
        rw [fX8_ends_b108, if_pos (by decide), nI_1]
      rw [this]
      exact fin μ (by rw [if_neg (by omega)]; exact h) EqN.rf
theorem en_clr {p : Int32} : ∀ m f k (μ : Mm), k + m = 8 → m < f → (∀ j, j < k → μ.1 28 j = 0) → ∃ μ', fX8_ends_b56 f p (nI k) μ = ((fX8_addEnd (μ'.1 0 38) (μ'.2 0 39) μ').bind fun μ86 => fX8_ends_b95 100 p (μ86.1 0 38) μ86) ∧ EqN μ μ' ∧ ∀ j, j < 8 → μ'.1 28 j = 0 := by
  intro m
  induction m with
  | zero =>
    intro f k μ he hf h
    obtain ⟨f, rfl⟩ : ∃ g, f = g + 1 := ⟨f - 1, by omega⟩
    refine ⟨μ, ?_, EqN.rf, fun j hj => h j (by omega)⟩
    rw [fX8_ends_b56, if_pos (show (8 : Int32) ≤ nI k from nI_le (a := 8) (by omega) (by omega))]
  | succ m ih =>
    intro f k μ he hf h
    obtain ⟨f, rfl⟩ : ∃ g, f = g + 1 := ⟨f - 1, by omega⟩
    obtain ⟨μ', g1, g2, g3⟩ := ih f (k + 1) (wI μ 28 k 0) (by omega) (by omega) (fun j hj => by
      rw [wI_1]
      split
      · rfl
      · rename_i z
        exact h j (by omega))
    refine ⟨μ', ?_, EqN.tr (show EqN μ (wI μ 28 k 0) from ⟨fun o j x1 x2 => by rw [wI_1, if_neg (fun z => x1 z.1)], fun o j x1 x2 => rfl⟩) g2, g3⟩
    rw [fX8_ends_b56, if_neg (show ¬ (8 : Int32) ≤ nI k from nI_ge (b := 8) (by omega) (by decide)), if_pos (inb8 (by omega)), cl (by omega), nI_1]
    exact g1
theorem en_m {a p : Nat} {c : Int64} (ha : a < 8) (hp : p < 8) (hc : VC a c) {μ : Mm} (h38 : μ.1 0 38 = nI a) (h39 : μ.2 0 39 = c) : ∃ μ', fX8_ends_b56 100 (nI p) 0 μ = some (nI (eL2 a c p).length, μ') ∧ EqN μ μ' := by
  obtain ⟨μ1, g1, g2, g3⟩ := en_clr (p := nI p) 8 100 0 μ (by decide) (by decide) (fun j hj => by omega)
  have hms : MS μ1 (fun _ => []) := fun k hk => ⟨by simp, g3 k hk, fun e he => absurd he (by simp)⟩
  obtain ⟨μ2, a1, a2, a3⟩ := addE hms ha c (by simp)
  have e38 : μ1.1 0 38 = nI a := (g2.1 0 38 (by decide) (by decide)).trans h38
  have e39 : μ1.2 0 39 = c := (g2.2 0 39 (by decide) (by decide)).trans h39
  have f38 : μ2.1 0 38 = nI a := (a3.1 0 38 (by decide) (by decide)).trans e38
  have hL0 : MS μ2 (eL0 a c) := a2.c (fun j _ => by unfold eL0 updE; rfl)
  have hb : fX8_ends_b95 100 (nI p) (nI a) μ2 = fX8_ends_b108 (fX8_ends_b95 99) 100 (nI p) (nI a) (nI (a + 1)) μ2 := by
    rw [fX8_ends_b95, if_neg (show ¬ (8 : Int32) ≤ nI a from nI_ge (b := 8) (by omega) (by decide)), nI_1]
  obtain ⟨μ3, b1, b2, b3⟩ := en_first ha hc (fX8_ends_b95 99) (nI p) hL0
  have h12 : MS μ3 (if a + 1 ≤ 6 then eL1 a c else eL2 a c) := by
    by_cases z : a + 1 ≤ 6
    · rw [if_pos z]; exact b2
    · rw [if_neg z]
      exact b2.c (fun j hj => by unfold eL2; rw [if_neg (by omega)])
  obtain ⟨μ4, c1, c2⟩ := en_out ha hp hc (8 - (a + 1)) 99 (a + 1) μ3 (by omega) (by omega) (by omega) h12
  refine ⟨μ4, ?_, (g2.tr a3).tr (b3.tr c2)⟩
  have g1' : fX8_ends_b56 100 (nI p) 0 μ = _ := g1
  rw [g1', e38, e39, bd a1, f38, hb, b1, c1]
theorem en_x {a p : Nat} {c : Int64} (ha : a < 8) (hp : p < 8) (hc : VC a c) : fX2_countEnds c (nI a) (nI p) = some (nI (eL2 a c p).length) := by
  have w67 : fX8_widens (nI 6) (nI 7) = some 1 := by decide +kernel
  unfold fX2_countEnds
  rw [wid_eq a ha p hp]
  rcases wid_01 a ha p hp with w | w
  · rw [bd w, if_pos rfl]
    have : eL2 a c p = [] := by
      unfold eL2
      rw [if_neg (fun q => by
        obtain ⟨rfl, -, q3⟩ := q
        rcases wid_t a ha 6 (by decide) 7 (by decide) with y | y | y
        · exact y q3
        · exact y w67
        · rw [w] at y; exact absurd y (by decide))]
      unfold eL1
      rw [if_neg (fun q => by rw [w] at q; exact absurd q (by decide))]
    rw [this]
    rfl
  · rw [bd w, if_neg one_ne]
    have h7 : nI p = 7 ↔ p = 7 := nI_eq (b := 7) (by omega) (by decide)
    have e1 : eL1 a c p = [enD a c p] := if_pos w
    by_cases z : p = 7
    · subst z
      rw [if_pos (show nI 7 = 7 from rfl), show (6 : Int32) = nI 6 from rfl, show (7 : Int32) = nI 7 from rfl, wid_eq a ha 6 (by decide)]
      rcases wid_01 a ha 6 (by decide) with v | v
      · rw [bd v, if_pos rfl]
        unfold eL2
        rw [if_neg (fun q => by rw [v] at q; exact absurd q.2.2 (by decide)), e1]
        rfl
      · rw [bd v, if_neg one_ne]
        obtain ⟨d1, d2⟩ := enD_w ha (show 6 < 8 by decide) v hc
        obtain ⟨d3, d4⟩ := enD_w (a := 6) (by decide) (show 7 < 8 by decide) w67 d2
        obtain ⟨d5, d6⟩ := enD_w ha (show 7 < 8 by decide) w hc
        rw [bd d1, bd d3, bd d5]
        have hX : eX a c = enD 6 (enD a c 6) 7 := rfl
        rw [← hX]
        by_cases a6 : a < 6
        · have e2 : eL2 a c 7 = ins (eX a c) [enD a c 7] := if_pos ⟨rfl, a6, v⟩
          rw [e2]
          show _ = some (nI (if enD a c 7 = eX a c then [enD a c 7] else [enD a c 7, eX a c]).length)
          by_cases y : eX a c = enD a c 7
          · rw [if_pos y, if_pos y.symm]; rfl
          · rw [if_neg y, if_neg (fun q => y q.symm)]; rfl
        · have e2 : eL2 a c 7 = eL1 a c 7 := if_neg (fun q => a6 q.2.1)
          have ha67 : a = 6 ∨ a = 7 := by omega
          have y : eX a c = enD a c 7 := by
            rcases ha67 with rfl | rfl
            · rw [hX, enD_a]
            · rw [show fX8_widens (nI 7) (nI 6) = some 0 by decide +kernel] at v
              exact absurd v (by decide)
          rw [e2, e1, if_pos y]
          rfl
    · rw [if_neg (fun y => z (h7.mp y))]
      unfold eL2
      rw [if_neg (fun q => z q.1), e1]
      rfl
theorem st_ends : St_ends Rel := by
  intro p1 p2 p3 μx μm h
  have h0 := h
  obtain ⟨hT, hV, hR, mc, hM, hH, hC, hG⟩ := h
  rcases slot_cases p1 with hp | ⟨a, ha, rfl⟩
  · exact ⟨-1, μm, by unfold fX7_ends; rw [x_isSlot, bz_f hp]; rfl, by unfold fX8_ends; rw [m_isSlot, bz_f hp]; rfl, h0⟩
  have hs := slot_ok ha
  rcases prim_cases p3 with hp | ⟨k, hk, rfl⟩
  · exact ⟨-2, μm, by unfold fX7_ends; rw [x_isSlot, bz_t hs, bd rfl, if_neg one_ne, x_isPrim, bz_f hp]; rfl, by unfold fX8_ends; rw [m_isSlot, bz_t hs, bd rfl, if_neg one_ne, m_isPlain, bz_f hp]; rfl, h0⟩
  have hs3 := prim_ok hk
  obtain ⟨r, t, hr, ht, e1, e2, e3, hA⟩ := slotR hC ha
  have xpre : fX7_ends (nI a) p2 (nI k) μx = ((fX5_has (nI r) p2 μx).bind fun r34 => (if r34 = 0 then some (-9 : Int32) else ((fX5_typeAt (nI r) p2 μx).bind fun r47 => ((fX7_isPrimitive r47).bind fun r50 => (if r50 = 0 then some (-9 : Int32) else ((fX5_codeAt (nI r) p2 μx).bind fun r66 => ((fX5_typeAt (nI r) p2 μx).bind fun r76 => ((fX2_countEnds r66 r76 (nI k)).bind fun r80 => some r80)))))))) := by
    unfold fX7_ends
    rw [x_isSlot, bz_t hs, bd rfl, if_neg one_ne, x_isPrim, bz_t hs3, bd rfl, if_neg one_ne, if_pos (inb10 ha), cl (by omega), e1]
  have mpre : fX8_ends (nI a) p2 (nI k) μm = ((fX8_reasonToFetch (nI a) p2 μm).bind fun r22 => (if r22 = 0 then (if inb (nI a) 10 = true then ((fX8_get (μm.1 3 a) p2 μm).bind fun μ39 => (if (μ39.1 0 37) = (2 : Int32) then fX8_ends_b56 100 (nI k) (0 : Int32) μ39 else some ((-9 : Int32), μ39))) else none) else some ((-9 : Int32), μm))) := by
    unfold fX8_ends
    rw [m_isSlot, bz_t hs, bd rfl, if_neg one_ne, m_isPlain, bz_t hs3, bd rfl, if_neg one_ne, cl (by omega)]
  rw [xpre, mpre]
  rcases hA.symm with ⟨h13, m1, x1⟩ | ⟨h12, q, n, hq, hn, m1, m2, x1, m3, hce⟩
  · obtain ⟨k1, k2, -, -⟩ := fetch_no ha hr ht e1 e2 e3 h13 x1 p2
    have hpl : ¬ (0 ≤ p2 ∧ p2 ≤ nI 0 - 1) := by
      rcases pos_cases p2 (show 0 ≤ 6 by decide) with hp | ⟨i, hi, -⟩
      · exact hp
      · omega
    exact ⟨-9, μm, by rw [x_has hr (show 0 ≤ 6 by decide) x1, bz_f hpl]; rfl, by rw [bd k2, if_neg (f53 t)], h0⟩
  obtain ⟨k1, k2, -, -⟩ := fetch_ok ha hr ht e1 e2 e3 h12 hq hn m1 x1 m3 p2
  rcases pos_cases p2 hn with hp | ⟨i, hi, rfl, hp⟩
  · rw [if_neg hp] at k1 k2
    exact ⟨-9, μm, by rw [x_has hr hn x1, bz_f hp]; rfl, by rw [bd k2]; rfl, h0⟩
  rw [if_pos hp] at k1 k2
  have hI := got_it (hce i hi)
  rw [x_has hr hn x1, bz_t hp, bd rfl, if_neg one_ne, bd (x_typeAt hr (by omega) μx), bd k2, if_pos rfl, if_pos (inb10 ha), m1, bd (m_get hq (by omega) μm)]
  have g37 : (gotM μm (6 * q + i)).1 0 37 = if μm.1 6 (6 * q + i) = 1 then 2 else μm.1 6 (6 * q + i) := rfl
  have g38 : (gotM μm (6 * q + i)).1 0 38 = μm.1 7 (6 * q + i) := rfl
  have g39 : (gotM μm (6 * q + i)).2 0 39 = μm.2 8 (6 * q + i) := rfl
  have hR' : Rel μx (gotM μm (6 * q + i)) := h0.cong EqX.rf (gotM_eq _ _)
  rw [g37]
  rcases it_prim hI with ⟨f12, b, hb, t1, t2, t3, t4⟩ | ⟨f1, f2, f3, f4⟩
  · have f2 : (if μm.1 6 (6 * q + i) = 1 then 2 else μm.1 6 (6 * q + i)) = (2 : Int32) := by
      rcases f12 with y | y
      · exact absurd y (got_ne _)
      · exact y
    obtain ⟨μ', y1, y2⟩ := en_m hb hk t4 (g38.trans t2) (g39.trans t3.symm)
    refine ⟨nI (eL2 b (μx.2 14 (6 * r + i)) k).length, μ', ?_, ?_, hR'.cong EqX.rf y2.m⟩
    · rw [t1, bd (x_prim1 hb), if_neg one_ne, bd (x_codeAt hr (by omega) μx), bd (x_typeAt hr (by omega) μx), t1, bd (en_x hb hk t4)]
    · rw [if_pos f2, y1]
  · exact ⟨-9, _, by rw [bd f4, if_pos rfl], by rw [if_neg f2], hR'⟩
