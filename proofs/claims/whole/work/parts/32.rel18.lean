/-! PURE PART 18: about -/
def Hb (R : Nat → Int32) (x : Int32) : Nat → Bool
  | 0 => false
  | j + 1 => Hb R x j || decide (R j = x)
theorem Hb_mono {R : Nat → Int32} {x : Int32} {i : Nat} (h : Hb R x i = true) : ∀ j, i ≤ j → Hb R x j = true := by
  intro j
  induction j with
  | zero => intro hj; have : i = 0 := by omega
            subst this; exact h
  | succ j ih =>
    intro hj
    by_cases z : i = j + 1
    · subst z; exact h
    · show (Hb R x j || decide (R j = x)) = true
      rw [ih (by omega)]; rfl
theorem Hb_congr {R S : Nat → Int32} {x y : Int32} : ∀ j, (∀ a, a < j → (R a = x ↔ S a = y)) → Hb R x j = Hb S y j := by
  intro j
  induction j with
  | zero => intro _; rfl
  | succ j ih =>
    intro h
    show (Hb R x j || decide (R j = x)) = (Hb S y j || decide (S j = y))
    rw [ih (fun a ha => h a (by omega)), decide_eq_decide.mpr (h j (by omega))]
theorem m_held {μ : Mm} {x : Int32} : ∀ n i, i ≤ 10 → 10 - i < n → fX8_isHeld_b4 μ n x (bz (Hb (μ.1 3) x i = true)) (nI i) = some (bz (Hb (μ.1 3) x 10 = true)) := by
  intro n
  induction n with
  | zero => intro i hi hn; omega
  | succ n ih =>
    intro i hi hn
    unfold fX8_isHeld_b4
    by_cases h10 : i = 10
    · subst h10
      rw [if_pos (show (10 : Int32) ≤ nI 10 by decide)]
      by_cases z : Hb (μ.1 3) x 10 = true
      · rw [bz_t z]; rfl
      · rw [bz_f z]; rfl
    · have hlt : i < 10 := by omega
      have hng : ¬ (10 : Int32) ≤ nI i := nI_ge (b := 10) hlt (by decide)
      have ih' := ih (i + 1) (by omega) (by omega)
      have hs : Hb (μ.1 3) x (i + 1) = (Hb (μ.1 3) x i || decide (μ.1 3 i = x)) := rfl
      rw [if_neg hng, if_pos (inb10 hlt), cl (by omega)]
      unfold fX8_isHeld_b24 fX8_isHeld_b29
      rw [nI_1]
      by_cases z : Hb (μ.1 3) x i = true
      · rw [bz_t z, if_neg one_ne]
        rw [bz_t (by rw [hs, z]; rfl)] at ih'
        exact ih'
      · have zf : Hb (μ.1 3) x i = false := by cases hh : Hb (μ.1 3) x i with
          | true => exact absurd hh z
          | false => rfl
        rw [bz_f z, if_pos rfl]
        by_cases e : μ.1 3 i = x
        · rw [if_pos e]
          rw [bz_t (by rw [hs, zf, e]; simp)] at ih'
          exact ih'
        · rw [if_neg e]
          rw [bz_f (by rw [hs, zf]; simp [e])] at ih'
          exact ih'
theorem x_first {μ : Mm} {x : Int32} {a : Nat} (ha : a < 10) (hx : μ.1 6 a = x) : ∀ n i, i ≤ a → a - i < n → Hb (μ.1 6) x i = false → ∃ b, b ≤ a ∧ fX7_firstSlotOf_b2 μ n x (nI i) = some (nI b) ∧ (b = a ↔ Hb (μ.1 6) x a = false) := by
  intro n
  induction n with
  | zero => intro i hi hn; omega
  | succ n ih =>
    intro i hi hn h
    have hng : ¬ (10 : Int32) ≤ nI i := nI_ge (b := 10) (by omega) (by decide)
    by_cases e : μ.1 6 i = x
    · refine ⟨i, hi, ?_, ?_⟩
      · unfold fX7_firstSlotOf_b2
        rw [if_neg hng, if_pos (inb10 (by omega)), cl (by omega), if_pos e]
      · constructor
        · intro z; subst z; exact h
        · intro z
          by_cases y : i = a
          · exact y
          · have h1 : Hb (μ.1 6) x (i + 1) = true := by show (Hb (μ.1 6) x i || decide (μ.1 6 i = x)) = true; simp [e]
            have := Hb_mono h1 a (by omega)
            rw [z] at this; cases this
    · have hia : i ≠ a := fun z => e (by rw [z]; exact hx)
      obtain ⟨b, hb, k1, k2⟩ := ih (i + 1) (by omega) (by omega) (by show (Hb (μ.1 6) x i || decide (μ.1 6 i = x)) = false; rw [h]; simp [e])
      refine ⟨b, hb, ?_, k2⟩
      unfold fX7_firstSlotOf_b2
      rw [if_neg hng, if_pos (inb10 (by omega)), cl (by omega), if_neg e, nI_1]
      exact k1
def sumQ (f : Nat → Int32) : Nat → Int32
  | 0 => 0
  | n + 1 => sumQ f n + f n
theorem sumQ_add {f g : Nat → Int32} {q0 N : Nat} (h0 : f q0 = 0) (hg : ∀ q, q < N → q ≠ q0 → g q = f q) : ∀ n, n ≤ N → sumQ g n = sumQ f n + if q0 < n then g q0 else 0 := by
  intro n
  induction n with
  | zero => intro _; rw [if_neg (by omega)]; rfl
  | succ n ih =>
    intro hn
    show sumQ g n + g n = sumQ f n + f n + _
    rw [ih (by omega)]
    by_cases z : q0 = n
    · subst z
      rw [if_neg (by omega), if_pos (by omega), h0]
    · rw [hg n (by omega) (fun y => z y.symm)]
      by_cases y : q0 < n
      · rw [if_pos y, if_pos (by omega), Int32.add_assoc, Int32.add_comm (g q0), ← Int32.add_assoc]
      · rw [if_neg y, if_neg (by omega)]
        simp
theorem sumQ_congr {f g : Nat → Int32} : ∀ n, (∀ q, q < n → f q = g q) → sumQ f n = sumQ g n := by
  intro n
  induction n with
  | zero => intro _; rfl
  | succ n ih => intro h; show sumQ f n + f n = sumQ g n + g n; rw [ih (fun q hq => h q (by omega)), h n (by omega)]
/-- each array once, by slots or by rows -/
theorem cnt {R : Nat → Int32} {V : Int32 → Int32} (hR : ∀ a, a < 10 → R a = -9 ∨ ∃ q, q < 11 ∧ R a = nI q) : ∀ j, j ≤ 10 → sumQ (fun q => if Hb R (nI q) j = true then V (nI q) else 0) 11 = sumQ (fun a => if R a ≠ -9 ∧ Hb R (R a) a = false then V (R a) else 0) j := by
  intro j
  induction j with
  | zero => intro _; rfl
  | succ j ih =>
    intro hj
    have hx : sumQ (fun a => if R a ≠ -9 ∧ Hb R (R a) a = false then V (R a) else 0) (j + 1) = sumQ (fun a => if R a ≠ -9 ∧ Hb R (R a) a = false then V (R a) else 0) j + (if R j ≠ -9 ∧ Hb R (R j) j = false then V (R j) else 0) := rfl
    rw [hx, ← ih (by omega)]
    have hH : ∀ q, Hb R (nI q) (j + 1) = (Hb R (nI q) j || decide (R j = nI q)) := fun _ => rfl
    rcases hR j (by omega) with e | ⟨q0, hq0, e⟩
    · rw [if_neg (fun z => z.1 e)]
      have g : ∀ q, q < 11 → nI q ≠ -9 := by decide +kernel
      rw [sumQ_congr 11 (g := fun q => if Hb R (nI q) j = true then V (nI q) else 0) (fun q hq => ?_)]
      · simp
      · have : R j ≠ nI q := fun z => g q hq (by rw [← z, e])
        simp only [hH, this, decide_false, Bool.or_false]
    · have g : nI q0 ≠ -9 := by
        have g : ∀ q, q < 11 → nI q ≠ -9 := by decide +kernel
        exact g q0 hq0
      by_cases hf : Hb R (nI q0) j = true
      · rw [if_neg (fun z : R j ≠ -9 ∧ Hb R (R j) j = false => by rw [e, hf] at z; exact absurd z.2 (by decide))]
        rw [sumQ_congr 11 (g := fun q => if Hb R (nI q) j = true then V (nI q) else 0) (fun q hq => ?_)]
        · simp
        · by_cases z : q = q0
          · subst z
            simp only [hH, hf, Bool.true_or]
          · have : R j ≠ nI q := fun y => z ((nI_eq (by omega) (by omega)).mp (y.symm.trans e))
            simp only [hH, this, decide_false, Bool.or_false]
      · have hff : Hb R (nI q0) j = false := by cases hh : Hb R (nI q0) j with
          | true => exact absurd hh hf
          | false => rfl
        rw [if_pos ⟨by rw [e]; exact g, by rw [e]; exact hff⟩]
        rw [sumQ_add (f := fun q => if Hb R (nI q) j = true then V (nI q) else 0) (q0 := q0) (N := 11) (by simp only [hff]; rfl) (fun q hq hne => ?_) 11 (by decide)]
        · rw [if_pos hq0]
          simp only [hH, e, decide_true, Bool.or_true, if_true]
        · have w : R j ≠ nI q := fun y => hne ((nI_eq (by omega) (by omega)).mp (y.symm.trans e))
          simp only [hH, w, decide_false, Bool.or_false]
