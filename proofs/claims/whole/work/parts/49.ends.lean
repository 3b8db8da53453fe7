/-! ends -/
def ins (v : Int64) : List Int64 → List Int64
  | [] => [v]
  | x :: l => if x = v then x :: l else x :: v :: l
def MS (μ : Mm) (L : Nat → List Int64) : Prop := ∀ k, k < 8 → (L k).length ≤ 2 ∧ μ.1 28 k = nI (L k).length ∧ ∀ e, e < (L k).length → μ.2 27 (8 * k + e) = (L k).getD e 0
def updE (L : Nat → List Int64) (k : Nat) (l : List Int64) : Nat → List Int64 := fun j => if j = k then l else L j
theorem MS.eqA {μ μ' : Mm} {L : Nat → List Int64} (h : MS μ L) (e : EqA μ μ') : MS μ' L := by
  intro k hk
  obtain ⟨h1, h2, h3⟩ := h k hk
  exact ⟨h1, by rw [e.1 28 k (by omega)]; exact h2, fun j hj => by rw [e.2 27 _ (by omega)]; exact h3 j hj⟩
theorem MS.c {μ : Mm} {L L' : Nat → List Int64} (h : MS μ L) (e : ∀ k, k < 8 → L' k = L k) : MS μ L' := by
  intro k hk
  rw [e k hk]
  exact h k hk
/-- a memory that differs in the ends alone -/
def EqN (μ μ' : Mm) : Prop := (∀ o k, o ≠ 28 → ¬ (o = 0 ∧ k = 43) → μ'.1 o k = μ.1 o k) ∧ ∀ o k, o ≠ 27 → ¬ (o = 0 ∧ k = 42) → μ'.2 o k = μ.2 o k
theorem EqN.rf {μ : Mm} : EqN μ μ := ⟨fun _ _ _ _ => rfl, fun _ _ _ _ => rfl⟩
theorem EqN.tr {μ μ1 μ2 : Mm} (h : EqN μ μ1) (h2 : EqN μ1 μ2) : EqN μ μ2 := ⟨fun o k a b => (h2.1 o k a b).trans (h.1 o k a b), fun o k a b => (h2.2 o k a b).trans (h.2 o k a b)⟩
theorem EqA.n {μ μ' : Mm} (h : EqA μ μ') : EqN μ μ' := ⟨fun o k _ b => h.1 o k b, fun o k _ b => h.2 o k b⟩
theorem EqN.m {μ μ' : Mm} (h : EqN μ μ') : EqM μ μ' := by
  refine ⟨fun o k hk => h.1 o k (fun z => ?_) (fun z => ?_), fun o k hk => h.2 o k (fun z => ?_) (fun z => ?_)⟩
  · rw [z] at hk
    exact absurd hk (by simp [scM])
  · rw [z.1, z.2] at hk
    exact absurd hk (by decide)
  · omega
  · omega
theorem ix8 (r i : Nat) : 8 * nI r + nI i = nI (8 * r + i) := by rw [show (8 : Int32) = nI 8 from rfl, nI_mul, nI_plus]
theorem inb8 {a : Nat} (h : a < 8) : inb (nI a) 8 = true := inb_nI h (by decide)
theorem inb64 {a : Nat} (h : a < 64) : inb (nI a) 64 = true := inb_nI h (by decide)
theorem MS.put {μ : Mm} {L : Nat → List Int64} (h : MS μ L) {k : Nat} (hk : k < 8) (v : Int64) (hl : (L k).length ≤ 1) : MS (wI (wL μ 27 (8 * k + (L k).length) v) 28 k (nI ((L k).length + 1))) (updE L k (L k ++ [v])) := by
  intro j hj
  obtain ⟨h1, h2, h3⟩ := h j hj
  unfold updE
  by_cases z : j = k
  · subst z
    rw [if_pos rfl]
    refine ⟨by rw [List.length_append]; show _ + 1 ≤ 2; omega, ?_, fun e he => ?_⟩
    · rw [wI_1, if_pos ⟨rfl, rfl⟩, List.length_append]; rfl
    · rw [wI_2, wL_2]
      rw [List.length_append] at he
      have he' : e < (L j).length + 1 := he
      by_cases y : e = (L j).length
      · rw [if_pos ⟨rfl, by omega⟩, y]
        simp
      · rw [if_neg (by omega), h3 e (by omega)]
        have : e < (L j).length := by omega
        simp [List.getD, List.getElem?_append_left this]
  · rw [if_neg z]
    refine ⟨h1, by rw [wI_1, if_neg (by omega), wL_1]; exact h2, fun e he => ?_⟩
    rw [wI_2, wL_2, if_neg (by omega)]
    exact h3 e he
theorem addE1 {μ : Mm} {k : Nat} (hk : k < 8) {v x : Int64} (h2 : μ.1 28 k = 1) (h3 : μ.2 27 (8 * k + 0) = x) (n : Nat) : fX8_addEnd_b6 (n + 1) (nI k) v 0 0 μ = (if x = v then fX8_addEnd_b6 n (nI k) v 1 1 μ else fX8_addEnd_b6 n (nI k) v 0 1 μ) := by
  rw [fX8_addEnd_b6]
  unfold fX8_addEnd_b39 fX8_addEnd_b44
  rw [if_pos (inb8 hk), cl (by omega), h2, if_neg (by decide), if_pos rfl, show 8 * nI k + (0 : Int32) = nI (8 * k + 0) from ix8 k 0, if_pos (inb64 (by omega)), cl (by omega), h3, show (0 : Int32) + 1 = 1 from rfl]
theorem addE {μ : Mm} {L : Nat → List Int64} (h : MS μ L) {k : Nat} (hk : k < 8) (v : Int64) (hl : (L k).length ≤ 1) : ∃ μ', fX8_addEnd (nI k) v μ = some μ' ∧ MS μ' (updE L k (ins v (L k))) ∧ EqN μ μ' := by
  obtain ⟨h1, h2, h3⟩ := h k hk
  have hput := h.put hk v hl
  have hN : ∀ n w, EqN μ (wI (wL μ 27 (8 * k + n) v) 28 k w) := fun n w => ⟨fun o j a b => by rw [wI_1, if_neg (fun z => a z.1), wL_1], fun o j a b => by rw [wI_2, wL_2, if_neg (fun z => a z.1)]⟩
  cases hL : L k with
  | nil =>
    rw [hL] at h2 hput
    have h2' : μ.1 28 k = 0 := h2
    have hput' : MS (wI (wL μ 27 (8 * k + 0) v) 28 k (nI 1)) (updE L k [v]) := hput
    refine ⟨_, ?_, hput', hN 0 _⟩
    unfold fX8_addEnd fX8_addEnd_b6
    rw [if_pos (inb8 hk), cl (by omega), wL_1, h2', if_pos (by decide), if_pos rfl, if_pos (inb8 hk), if_neg (by decide), if_pos (inb8 hk), show (0 : Int32) = nI 0 from rfl, ix8, if_pos (inb64 (by omega)), if_pos (inb8 hk), if_pos (inb8 hk), cl (by omega)]
    rfl
  | cons x l =>
    cases l with
    | cons y l => rw [hL] at hl; exact absurd hl (by simp)
    | nil =>
      rw [hL] at h2 hput h3
      have h2' : μ.1 28 k = 1 := h2
      have hput' : MS (wI (wL μ 27 (8 * k + 1) v) 28 k (nI 2)) (updE L k [x, v]) := hput
      have h3' : μ.2 27 (8 * k + 0) = x := h3 0 (by simp)
      have pre : fX8_addEnd (nI k) v μ = (if x = v then fX8_addEnd_b6 99 (nI k) v 1 1 μ else fX8_addEnd_b6 99 (nI k) v 0 1 μ) := addE1 hk h2' h3' 99
      rw [pre]
      show ∃ μ', _ ∧ MS μ' (updE L k (if x = v then [x] else [x, v])) ∧ EqN μ μ'
      by_cases z : x = v
      · rw [if_pos z, if_pos z]
        refine ⟨μ, ?_, h.c (fun j hj => ?_), EqN.rf⟩
        · unfold fX8_addEnd_b6
          rw [if_pos (inb8 hk), cl (by omega), h2', if_pos (by decide), if_neg one_ne]
        · unfold updE
          by_cases y : j = k
          · rw [if_pos y, y, hL]
          · rw [if_neg y]
      · rw [if_neg z, if_neg z]
        refine ⟨_, ?_, hput', hN 1 _⟩
        unfold fX8_addEnd_b6
        rw [if_pos (inb8 hk), cl (by omega), wL_1, h2', if_pos (by decide), if_pos rfl, if_pos (inb8 hk), if_neg (by decide), if_pos (inb8 hk), show (1 : Int32) = nI 1 from rfl, ix8, if_pos (inb64 (by omega)), if_pos (inb8 hk), if_pos (inb8 hk), cl (by omega)]
        rfl
/-- the row of kind k that has one end -/
theorem row1 {L : Nat → List Int64} {μ : Mm} {k to : Nat} (hk : k < 8) (ht : to < 8) (hkt : k < to) (k95 : Int32 → Int32 → Mm → Option (Int32 × Mm)) (k108 : Int32 → Int32 → Int32 → Mm → Option (Int32 × Mm)) (p : Int32) (h : MS μ L) (x y : Int64) (hL : L k = [] ∨ L k = [x])
    (hw : fX8_widens (nI k) (nI to) = some 1 → L k = [x] → ∀ μ, ∃ μ', fX8_widened (nI k) x (nI to) μ = some (y, μ') ∧ EqA μ μ') (hl : (L to).length ≤ 1) :
    ∃ μ', fX8_ends_b118 k95 k108 100 p (nI k) (nI to) 0 μ = k108 p (nI k) (nI (to + 1)) μ' ∧ MS μ' (if fX8_widens (nI k) (nI to) = some 1 ∧ L k = [x] then updE L to (ins y (L to)) else L) ∧ EqN μ μ' := by
  obtain ⟨h1, h2, h3⟩ := h k hk
  by_cases hx : L k = [x]
  · rw [hx] at h2 h3
    have h2' : μ.1 28 k = 1 := h2
    have h3' : μ.2 27 (8 * k + 0) = x := h3 0 (by simp)
    rcases wid_01 k hk to ht with w | w
    · refine ⟨μ, ?_, by rw [if_neg (fun z => by rw [w] at z; exact absurd z.1 (by decide))]; exact h, EqN.rf⟩
      unfold fX8_ends_b118 fX8_ends_b173
      rw [if_pos (inb8 hk), cl (by omega), h2', if_neg (by decide), bd w, if_pos rfl, nI_1]
    · obtain ⟨μ1, a1, a2⟩ := hw w hx μ
      obtain ⟨μ2, b1, b2, b3⟩ := addE (h.eqA a2) ht y hl
      refine ⟨μ2, ?_, by rw [if_pos ⟨w, hx⟩]; exact b2, a2.n.tr b3⟩
      have c2 : μ2.1 28 k = 1 := by
        have := (b2 k hk).2.1
        unfold updE at this
        rw [if_neg (by omega), hx] at this
        exact this
      have nx : fX8_ends_b118 k95 k108 99 p (nI k) (nI to) 1 μ2 = k108 p (nI k) (nI (to + 1)) μ2 := by
        unfold fX8_ends_b118 fX8_ends_b173
        rw [if_pos (inb8 hk), cl (by omega), c2, if_pos (by decide), nI_1]
      unfold fX8_ends_b118
      rw [if_pos (inb8 hk), cl (by omega), h2', if_neg (by decide), bd w, if_neg one_ne, show (0 : Int32) = nI 0 from rfl, ix8, if_pos (inb64 (by omega)), cl (by omega), h3', bn a1, bd b1]
      exact nx
  · have hn : L k = [] := by
      rcases hL with z | z
      · exact z
      · exact absurd z hx
    rw [hn] at h2
    have h2' : μ.1 28 k = 0 := h2
    refine ⟨μ, ?_, by rw [if_neg (fun z => hx z.2)]; exact h, EqN.rf⟩
    unfold fX8_ends_b118 fX8_ends_b173
    rw [if_pos (inb8 hk), cl (by omega), h2', if_pos (by decide), nI_1]
theorem rowR {k : Nat} (hk : k < 8) (k95 : Int32 → Int32 → Mm → Option (Int32 × Mm)) (p : Int32) (x : Int64) (y : Nat → Int64) : ∀ m f to (L : Nat → List Int64) (μ : Mm), to + m = 8 → k < to → m < f → MS μ L → (L k = [] ∨ L k = [x]) → (∀ j, to ≤ j → j < 8 → (L j).length ≤ 1) →
    (∀ j, to ≤ j → j < 8 → fX8_widens (nI k) (nI j) = some 1 → L k = [x] → ∀ μ, ∃ μ', fX8_widened (nI k) x (nI j) μ = some (y j, μ') ∧ EqA μ μ') →
    ∃ μ', fX8_ends_b108 k95 f p (nI k) (nI to) μ = k95 p (nI (k + 1)) μ' ∧ MS μ' (fun j => if (to ≤ j ∧ j < 8) ∧ fX8_widens (nI k) (nI j) = some 1 ∧ L k = [x] then ins (y j) (L j) else L j) ∧ EqN μ μ' := by
  intro m
  induction m with
  | zero =>
    intro f to L μ he hkt hf h hL hl hw
    obtain ⟨f, rfl⟩ : ∃ g, f = g + 1 := ⟨f - 1, by omega⟩
    refine ⟨μ, ?_, h.c (fun j hj => by rw [if_neg (by omega)]), EqN.rf⟩
    unfold fX8_ends_b108
    rw [if_pos (show (8 : Int32) ≤ nI to from nI_le (a := 8) (by omega) (by omega)), nI_1]
  | succ m ih =>
    intro f to L μ he hkt hf h hL hl hw
    obtain ⟨f, rfl⟩ : ∃ g, f = g + 1 := ⟨f - 1, by omega⟩
    obtain ⟨μ1, a1, a2, a3⟩ := row1 hk (show to < 8 by omega) hkt k95 (fX8_ends_b108 k95 f) p h x (y to) hL (hw to (by omega) (by omega)) (hl to (by omega) (by omega))
    have hne : ∀ (c : Prop) [Decidable c] (j : Nat), j ≠ to → (if c then updE L to (ins (y to) (L to)) else L) j = L j := by
      intro c _ j hj
      split
      · unfold updE
        rw [if_neg hj]
      · rfl
    have hto : (if fX8_widens (nI k) (nI to) = some 1 ∧ L k = [x] then updE L to (ins (y to) (L to)) else L) to = if fX8_widens (nI k) (nI to) = some 1 ∧ L k = [x] then ins (y to) (L to) else L to := by
      split
      · unfold updE
        rw [if_pos rfl]
      · rfl
    have hk' := hne (fX8_widens (nI k) (nI to) = some 1 ∧ L k = [x]) k (by omega)
    obtain ⟨μ2, b1, b2, b3⟩ := ih f (to + 1) _ μ1 (by omega) (by omega) (by omega) a2 (by rw [hk']; exact hL) (fun j h1 h2 => by rw [hne _ j (by omega)]; exact hl j (by omega) h2) (fun j h1 h2 h3 h4 => hw j (by omega) h2 h3 (by rw [hk'] at h4; exact h4))
    refine ⟨μ2, ?_, b2.c (fun j hj => ?_), a3.tr b3⟩
    · unfold fX8_ends_b108
      rw [if_neg (show ¬ (8 : Int32) ≤ nI to from nI_ge (b := 8) (by omega) (by decide)), a1, b1]
    · rw [hk']
      by_cases z : j = to
      · subst z
        rw [if_neg (show ¬ ((j + 1 ≤ j ∧ j < 8) ∧ fX8_widens (nI k) (nI j) = some 1 ∧ L k = [x]) by omega), hto]
        by_cases w : fX8_widens (nI k) (nI j) = some 1 ∧ L k = [x]
        · rw [if_pos w, if_pos ⟨⟨Nat.le_refl _, hj⟩, w⟩]
        · rw [if_neg w, if_neg (fun q => w q.2)]
      · rw [hne _ j z]
        by_cases w : (to ≤ j ∧ j < 8) ∧ fX8_widens (nI k) (nI j) = some 1 ∧ L k = [x]
        · rw [if_pos w, if_pos ⟨⟨by omega, hj⟩, w.2⟩]
        · rw [if_neg w, if_neg (fun q => w ⟨⟨by omega, hj⟩, q.2⟩)]
