/-! NUMBERS 7: unlike, alike -/
theorem ty_ne : ∀ k, k < 8 → ¬ nI k = -9 ∧ ¬ nI k = 8 ∧ ¬ nI k = 9 ∧ ¬ nI k = 10 := by decide +kernel
theorem it_same {mc : Nat} (hmc : mc ≤ 20) {star : Nat → Int32} {f xt mk f' xt' mk' : Int32} {xc mv xc' mv' : Int64} (h : It mc star f xt xc mk mv) (h' : It mc star f' xt' xc' mk' mv') (hff : f = 1 ↔ f' = 1) :
    (xt = xt' ∧ xc = xc') ↔ (f = f' ∧ (f = 0 ∨ (mv = mv' ∧ (2 < f ∨ mk = mk')))) := by
  rcases h with ⟨rfl, rfl, rfl⟩ | ⟨hf, rfl, rfl, k, hk, rfl, -⟩ | ⟨rfl, j, hj, rfl, rfl, h2⟩ | ⟨rfl, rfl, rfl, j, hj, rfl⟩
  · rcases h' with ⟨rfl, rfl, rfl⟩ | ⟨hf', rfl, rfl, k', hk', rfl, -⟩ | ⟨rfl, j', hj', rfl, rfl, h2'⟩ | ⟨rfl, rfl, rfl, j', hj', rfl⟩
    · exact ⟨fun _ => ⟨rfl, Or.inl rfl⟩, fun _ => ⟨rfl, rfl⟩⟩
    · exact ⟨fun z => absurd z.1.symm (ty_ne k' hk').1, fun z => by rcases hf' with rfl | rfl <;> exact absurd z.1 (by decide)⟩
    · exact ⟨fun z => by rcases h2' with ⟨rfl, -⟩ | ⟨rfl, -⟩ <;> exact absurd z.1 (by decide), fun z => absurd z.1 (by decide)⟩
    · exact ⟨fun z => absurd z.1 (by decide), fun z => absurd z.1 (by decide)⟩
  · rcases h' with ⟨rfl, rfl, rfl⟩ | ⟨hf', rfl, rfl, k', hk', rfl, -⟩ | ⟨rfl, j', hj', rfl, rfl, h2'⟩ | ⟨rfl, rfl, rfl, j', hj', rfl⟩
    · exact ⟨fun z => absurd z.1 (ty_ne k hk).1, fun z => by rcases hf with rfl | rfl <;> exact absurd z.1 (by decide)⟩
    · have e : f = f' := by
        rcases hf with rfl | rfl
        · exact (hff.mp rfl).symm
        · rcases hf' with rfl | rfl
          · exact absurd (hff.mpr rfl) (by decide)
          · rfl
      refine ⟨fun z => ⟨e, Or.inr ⟨z.2, Or.inr z.1⟩⟩, fun z => ?_⟩
      rcases z.2 with y | ⟨y, w | w⟩
      · rcases hf with rfl | rfl <;> exact absurd y (by decide)
      · rcases hf with rfl | rfl <;> exact absurd w (by decide)
      · exact ⟨w, y⟩
    · exact ⟨fun z => by rcases h2' with ⟨rfl, -⟩ | ⟨rfl, -⟩ <;> first | exact absurd z.1 (ty_ne k hk).2.1 | exact absurd z.1 (ty_ne k hk).2.2.1, fun z => by rcases hf with rfl | rfl <;> exact absurd z.1 (by decide)⟩
    · exact ⟨fun z => absurd z.1 (ty_ne k hk).2.2.2, fun z => by rcases hf with rfl | rfl <;> exact absurd z.1 (by decide)⟩
  · rcases h' with ⟨rfl, rfl, rfl⟩ | ⟨hf', rfl, rfl, k', hk', rfl, -⟩ | ⟨rfl, j', hj', rfl, rfl, h2'⟩ | ⟨rfl, rfl, rfl, j', hj', rfl⟩
    · exact ⟨fun z => by rcases h2 with ⟨rfl, -⟩ | ⟨rfl, -⟩ <;> exact absurd z.1 (by decide), fun z => absurd z.1 (by decide)⟩
    · exact ⟨fun z => by rcases h2 with ⟨rfl, -⟩ | ⟨rfl, -⟩ <;> first | exact absurd z.1.symm (ty_ne k' hk').2.1 | exact absurd z.1.symm (ty_ne k' hk').2.2.1, fun z => by rcases hf' with rfl | rfl <;> exact absurd z.1 (by decide)⟩
    · refine ⟨fun z => ⟨rfl, Or.inr ⟨z.2, Or.inl (by decide)⟩⟩, fun z => ?_⟩
      have y : lN j = lN j' := by
        rcases z.2 with y | ⟨y, -⟩
        · exact absurd y (by decide)
        · exact y
      have e : j = j' := (pk_lEQ (by omega) (by omega)).mp y
      subst e
      refine ⟨?_, rfl⟩
      rcases h2 with ⟨rfl, s⟩ | ⟨rfl, s⟩ <;> rcases h2' with ⟨rfl, s'⟩ | ⟨rfl, s'⟩
      · rfl
      · rw [s] at s'; exact absurd s' (by decide)
      · rw [s] at s'; exact absurd s' (by decide)
      · rfl
    · exact ⟨fun z => by rcases h2 with ⟨rfl, -⟩ | ⟨rfl, -⟩ <;> exact absurd z.1 (by decide), fun z => absurd z.1 (by decide)⟩
  · rcases h' with ⟨rfl, rfl, rfl⟩ | ⟨hf', rfl, rfl, k', hk', rfl, -⟩ | ⟨rfl, j', hj', rfl, rfl, h2'⟩ | ⟨rfl, rfl, rfl, j', hj', rfl⟩
    · exact ⟨fun z => absurd z.1 (by decide), fun z => absurd z.1 (by decide)⟩
    · exact ⟨fun z => absurd z.1.symm (ty_ne k' hk').2.2.2, fun z => by rcases hf' with rfl | rfl <;> exact absurd z.1 (by decide)⟩
    · exact ⟨fun z => by rcases h2' with ⟨rfl, -⟩ | ⟨rfl, -⟩ <;> exact absurd z.1 (by decide), fun z => absurd z.1 (by decide)⟩
    · refine ⟨fun z => ⟨rfl, Or.inr ⟨z.2, Or.inl (by decide)⟩⟩, fun z => ⟨rfl, ?_⟩⟩
      rcases z.2 with y | ⟨y, -⟩
      · exact absurd y (by decide)
      · exact y
/-- two cells of one array have form 1 both or none -/
theorem ce_ff {mc t : Nat} {star : Nat → Int32} {f xt mk f' xt' mk' : Int32} {xc mv xc' mv' : Int64} (h : Ce mc star t xt xc f mk mv) (h' : Ce mc star t xt' xc' f' mk' mv') : f = 1 ↔ f' = 1 := by
  by_cases z : t < 8
  · exact ⟨fun _ => (h'.1 z).1, fun _ => (h.1 z).1⟩
  · exact ⟨fun y => absurd y (h.2.1 (by omega)), fun y => absurd y (h'.2.1 (by omega))⟩
theorem m_areSame {μ : Mm} {c d : Nat} (hc : c < 66) (hd : d < 66) : fX8_areSame (nI c) (nI d) μ = some (bz (μ.1 6 c = μ.1 6 d ∧ (μ.1 6 c = 0 ∨ (μ.2 8 c = μ.2 8 d ∧ (2 < μ.1 6 c ∨ μ.1 7 c = μ.1 7 d))))) := by
  have i1 : inb (nI c) 66 = true := inb_nI hc (by decide)
  have i2 : inb (nI d) 66 = true := inb_nI hd (by decide)
  unfold fX8_areSame
  simp only [i1, i2, if_true, cl (show c < 1000 by omega), cl (show d < 1000 by omega)]
  by_cases a1 : μ.1 6 c = μ.1 6 d
  · rw [if_pos a1]
    by_cases a2 : μ.1 6 c = 0
    · rw [if_pos a2, bz_t ⟨a1, Or.inl a2⟩]
    · rw [if_neg a2]
      by_cases a3 : μ.2 8 c = μ.2 8 d
      · rw [if_pos a3]
        by_cases a4 : 2 < μ.1 6 c
        · rw [if_pos a4, bz_t ⟨a1, Or.inr ⟨a3, Or.inl a4⟩⟩]
        · rw [if_neg a4]
          by_cases a5 : μ.1 7 c = μ.1 7 d
          · rw [if_pos a5, bz_t ⟨a1, Or.inr ⟨a3, Or.inr a5⟩⟩]
          · rw [if_neg a5, bz_f (fun z => by rcases z.2 with y | ⟨-, y | y⟩; exact a2 y; exact a4 y; exact a5 y)]
      · rw [if_neg a3, bz_f (fun z => by rcases z.2 with y | ⟨y, -⟩; exact a2 y; exact a3 y)]
  · rw [if_neg a1, bz_f (fun z => a1 z.1)]
def anyF (d : Nat → Bool) : Nat → Nat → Bool
  | 0, _ => false
  | m + 1, e => d e || anyF d m (e + 1)
theorem anyF_s (d : Nat → Bool) (m e : Nat) : anyF d (m + 1) e = (d e || anyF d m (e + 1)) := rfl
theorem ul_x {μ : Mm} {r i : Nat} (hr : r < 26) (hi : i < 6) (d : Nat → Bool) (hd : ∀ e, d e = decide (μ.1 13 (6 * r + e) = μ.1 13 (6 * r + i) ∧ μ.2 14 (6 * r + e) = μ.2 14 (6 * r + i))) : ∀ m f e, e + m = i → m < f → fX5_stoodBefore_b2 μ f (nI r) (nI i) (nI e) = some (bz (anyF d m e = true)) := by
  intro m
  induction m with
  | zero =>
    intro f e he hf
    obtain ⟨f, rfl⟩ : ∃ g, f = g + 1 := ⟨f - 1, by omega⟩
    unfold fX5_stoodBefore_b2
    rw [if_pos (nI_le (by omega) (by omega)), bz_f (c := anyF d 0 e = true) (show ¬ false = true by decide)]
  | succ m ih =>
    intro f e he hf
    obtain ⟨f, rfl⟩ : ∃ g, f = g + 1 := ⟨f - 1, by omega⟩
    have ih' := ih f (e + 1) (by omega) (by omega)
    unfold fX5_stoodBefore_b2 fX5_stoodBefore_b40
    rw [if_neg (nI_ge (by omega) (by omega)), bd (x_typeAt hr (by omega) μ), bd (x_typeAt hr hi μ), nI_1, anyF_s]
    by_cases a1 : μ.1 13 (6 * r + e) = μ.1 13 (6 * r + i)
    · rw [if_pos a1, bd (x_codeAt hr (by omega) μ), bd (x_codeAt hr hi μ)]
      by_cases a2 : μ.2 14 (6 * r + e) = μ.2 14 (6 * r + i)
      · have z : d e = true := by rw [hd]; exact decide_eq_true ⟨a1, a2⟩
        rw [if_pos a2, z, bz_t (by rw [Bool.true_or])]
      · have z : d e = false := by rw [hd]; exact decide_eq_false (fun z => a2 z.2)
        rw [if_neg a2, ih', z, Bool.false_or]
    · have z : d e = false := by rw [hd]; exact decide_eq_false (fun z => a1 z.1)
      rw [if_neg a1, ih', z, Bool.false_or]
theorem bz_c {P Q : Prop} [Decidable P] [Decidable Q] (h : P ↔ Q) : bz P = bz Q := by
  by_cases z : P
  · rw [bz_t z, bz_t (h.mp z)]
  · rw [bz_f z, bz_f (fun y => z (h.mpr y))]
theorem ul_m {μ : Mm} {q i : Nat} (hq : q < 11) (hi : i < 6) (k32 : Int32 → Int32 → Int32 → Option Int32) (c : Int32) (d : Nat → Bool) (hd : ∀ e, e < i → fX8_areSame (nI (6 * q + e)) (nI (6 * q + i)) μ = some (bz (d e = true))) : ∀ m f e b, e + m = i → m < f → fX8_unlike_b49 μ k32 f (nI q) c (nI i) (bz (b = true)) (nI e) = k32 (nI q) (c + (if (b || anyF d m e) = true then 0 else 1)) (nI (i + 1)) := by
  intro m
  induction m with
  | zero =>
    intro f e b he hf
    obtain ⟨f, rfl⟩ : ∃ g, f = g + 1 := ⟨f - 1, by omega⟩
    unfold fX8_unlike_b49 fX8_unlike_b106
    rw [if_pos (nI_le (by omega) (by omega)), nI_1]
    cases b with
    | false => rw [bz_f (by decide), if_pos rfl]; rfl
    | true => rw [bz_t rfl, if_neg one_ne]; rfl
  | succ m ih =>
    intro f e b he hf
    obtain ⟨f, rfl⟩ : ∃ g, f = g + 1 := ⟨f - 1, by omega⟩
    unfold fX8_unlike_b49 fX8_unlike_b82 fX8_unlike_b87
    rw [if_neg (nI_ge (by omega) (by omega)), ix6', ix6', nI_1, hd e (by omega)]
    cases b with
    | false =>
      have i0 := ih f (e + 1) false (by omega) (by omega)
      have i1 := ih f (e + 1) true (by omega) (by omega)
      rw [bz_f (by decide)] at i0
      rw [bz_t rfl] at i1
      rw [bz_f (by decide), if_pos rfl, bd rfl]
      by_cases z : d e = true
      · rw [bz_t z, if_neg one_ne, i1]
        show _ = k32 (nI q) (c + (if (false || (d e || anyF d m (e + 1))) = true then 0 else 1)) (nI (i + 1))
        rw [z]
        rfl
      · rw [bz_f z, if_pos rfl, i0]
        show _ = k32 (nI q) (c + (if (false || (d e || anyF d m (e + 1))) = true then 0 else 1)) (nI (i + 1))
        rw [bf z]
        rfl
    | true =>
      have i1 := ih f (e + 1) true (by omega) (by omega)
      rw [bz_t rfl] at i1
      rw [bz_t rfl, if_neg one_ne, i1]
      rfl
theorem anyF_c {c d : Nat → Bool} : ∀ m e, (∀ j, e ≤ j → j < e + m → c j = d j) → anyF c m e = anyF d m e := by
  intro m
  induction m with
  | zero => intro e _; rfl
  | succ m ih =>
    intro e h
    show (c e || anyF c m (e + 1)) = (d e || anyF d m (e + 1))
    rw [h e (by omega) (by omega), ih (e + 1) (fun j h1 h2 => h j (by omega) (by omega))]
theorem ul_2 {μx μm : Mm} {mc r q t n : Nat} (hmc : mc ≤ 20) (hr : r < 26) (hq : q < 11) (hn : n ≤ 6) (x1 : μx.1 12 r = nI n) (m3 : μm.1 5 q = nI n) (hce : ∀ i, i < n → Ce mc (μm.1 10) t (μx.1 13 (6 * r + i)) (μx.2 14 (6 * r + i)) (μm.1 6 (6 * q + i)) (μm.1 7 (6 * q + i)) (μm.2 8 (6 * q + i))) :
    ∀ m f i c, i + m = n → m < f → ∃ v, fX7_unlike_b32 μx f (nI r) c (nI i) = some v ∧ fX8_unlike_b32 μm f (nI q) c (nI i) = some v := by
  intro m
  induction m with
  | zero =>
    intro f i c he hf
    obtain ⟨f, rfl⟩ : ∃ g, f = g + 1 := ⟨f - 1, by omega⟩
    unfold fX7_unlike_b32 fX8_unlike_b32
    rw [if_pos (inb26 hr), cl (by omega), x1, if_pos (inb11 hq), cl (by omega), m3, if_pos (nI_le (by omega) (by omega)), if_pos (nI_le (by omega) (by omega))]
    exact ⟨c, rfl, rfl⟩
  | succ m ih =>
    intro f i c he hf
    obtain ⟨f, rfl⟩ : ∃ g, f = g + 1 := ⟨f - 1, by omega⟩
    have hi : i < n := by omega
    unfold fX7_unlike_b32 fX8_unlike_b32 fX7_unlike_b62
    rw [if_pos (inb26 hr), cl (by omega), x1, if_pos (inb11 hq), cl (by omega), m3, if_neg (nI_ge (by omega) (by omega)), if_neg (nI_ge (by omega) (by omega))]
    have sx : fX5_stoodBefore (nI r) (nI i) μx = _ := ul_x (μ := μx) hr (show i < 6 by omega) _ (fun _ => rfl) i 100 0 (by omega) (by omega)
    have hd : ∀ e, e < i → fX8_areSame (nI (6 * q + e)) (nI (6 * q + i)) μm = some (bz (decide (μx.1 13 (6 * r + e) = μx.1 13 (6 * r + i) ∧ μx.2 14 (6 * r + e) = μx.2 14 (6 * r + i)) = true)) := by
      intro e hei
      rw [m_areSame (show 6 * q + e < 66 by omega) (show 6 * q + i < 66 by omega)]
      congr 1
      apply bz_c
      rw [decide_eq_true_iff]
      exact (it_same hmc (hce e (by omega)).2.2 (hce i hi).2.2 (ce_ff (hce e (by omega)) (hce i hi))).symm
    have sm := ul_m (μ := μm) hq (show i < 6 by omega) (fX8_unlike_b32 μm f) c _ hd i 100 0 false (by omega) (by omega)
    rw [bz_f (by decide)] at sm
    have sm' : fX8_unlike_b49 μm (fX8_unlike_b32 μm f) 100 (nI q) c (nI i) 0 0 = _ := sm
    rw [bd sx, sm', nI_1, Bool.false_or]
    generalize anyF _ i 0 = b
    cases b with
    | false =>
      rw [bz_f (by decide), if_pos rfl, if_neg (by decide)]
      exact ih f (i + 1) (c + 1) (by omega) (by omega)
    | true =>
      rw [bz_t rfl, if_neg one_ne, if_pos rfl, Int32.add_zero]
      exact ih f (i + 1) c (by omega) (by omega)
theorem st_unlike : St_unlike Rel := by
  intro p1 μx μm h
  have h0 := h
  obtain ⟨hT, hV, hR, mc, hM, hH, hC, hG⟩ := h
  rcases slot_cases p1 with hp | ⟨a, ha, rfl⟩
  · exact ⟨-1, by unfold fX7_unlike; rw [x_isSlot, bz_f hp]; rfl, by unfold fX8_unlike; rw [m_isSlot, bz_f hp]; rfl, h0⟩
  have hs := slot_ok ha
  obtain ⟨r, t, hr, ht, e1, e2, e3, hA⟩ := slotR hC ha
  rcases hA.symm with ⟨h13, m1, x1⟩ | ⟨h12, q, n, hq, hn, m1, m2, x1, m3, hce⟩
  · refine ⟨-3, ?_, ?_, h0⟩
    · unfold fX7_unlike
      rw [x_isSlot, bz_t hs, bd rfl, if_neg one_ne, x_holds ha hr ht e1 e2, bz_f (by omega), bd rfl, if_pos rfl]
    · unfold fX8_unlike
      rw [m_isSlot, bz_t hs, bd rfl, if_neg one_ne, m_holds ha ht e3, bz_f (by omega), bd rfl, if_pos rfl]
  · obtain ⟨v, v1, v2⟩ := ul_2 hM.1 hr hq hn x1 m3 hce n 100 0 0 (by omega) (by omega)
    refine ⟨v, ?_, ?_, h0⟩
    · unfold fX7_unlike
      rw [x_isSlot, bz_t hs, bd rfl, if_neg one_ne, x_holds ha hr ht e1 e2, bz_t h12, bd rfl, if_neg one_ne, if_pos (inb10 ha), cl (by omega), e1]
      exact v1
    · unfold fX8_unlike
      rw [m_isSlot, bz_t hs, bd rfl, if_neg one_ne, m_holds ha ht e3, bz_t h12, bd rfl, if_neg one_ne, if_pos (inb10 ha), cl (by omega), m1]
      exact v2
