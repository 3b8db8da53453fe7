/-! PURE PART 21: least -/
def sel (p : Int32) (i : Nat) : Bool := decide ((jshr p (nI i)) &&& (1 : Int32) = 1)
def lA (T : Nat → Int32) (p v : Int32) : Nat → Bool
  | 0 => true
  | j + 1 => lA T p v j && (!sel p j || decide (fX8_widens (T j) v = some 1))
def lP (T : Nat → Int32) (p : Int32) : Nat → Bool
  | 0 => true
  | j + 1 => lP T p j && (!sel p j || decide (0 ≤ T j ∧ T j ≤ 7))
def lM (T : Nat → Int32) (p : Int32) : Nat → Int32
  | 0 => 255
  | j + 1 => if sel p j = true then lM T p j &&& (fX2_targets (T j)).getD 0 else lM T p j
theorem lP_false {T : Nat → Int32} {p : Int32} {i : Nat} (h : lP T p i = false) : ∀ j, i ≤ j → lP T p j = false := by
  intro j
  induction j with
  | zero => intro hj; have : i = 0 := by omega
            subst this; exact h
  | succ j ih =>
    intro hj
    by_cases z : i = j + 1
    · subst z; exact h
    · show (lP T p j && _) = false
      rw [ih (by omega)]; rfl
theorem lP_at {T : Nat → Int32} {p : Int32} {j : Nat} (h : lP T p j = true) : ∀ a, a < j → sel p a = true → 0 ≤ T a ∧ T a ≤ 7 := by
  induction j with
  | zero => intro a ha; omega
  | succ j ih =>
    intro a ha hs
    have h' : (lP T p j && (!sel p j || decide (0 ≤ T j ∧ T j ≤ 7))) = true := h
    rw [Bool.and_eq_true] at h'
    by_cases z : a = j
    · subst z
      have := h'.2
      rw [hs] at this
      simpa using this
    · exact ih h'.1 a (by omega) hs
def lset : List Int32 := [1, 250, 244, 248, 240, 224, 192, 128, 0]
def tb (x : Int32) (v : Nat) : Bool := decide ((jshr x (nI v)) &&& (1 : Int32) = 1)
def lo (A : Nat → Bool) (d : Int32) : Nat → Int32
  | 0 => if A 0 then nI 0 else d
  | v + 1 => lo A (if A (v + 1) then nI (v + 1) else d) v
theorem lo_congr {A B : Nat → Bool} : ∀ v d, (∀ k, k ≤ v → A k = B k) → lo A d v = lo B d v := by
  intro v
  induction v with
  | zero => intro d h; show (if A 0 then nI 0 else d) = if B 0 then nI 0 else d; rw [h 0 (by omega)]
  | succ v ih =>
    intro d h
    show lo A (if A (v + 1) then nI (v + 1) else d) v = lo B (if B (v + 1) then nI (v + 1) else d) v
    rw [h (v + 1) (by omega)]
    exact ih _ (fun k hk => h k (by omega))
theorem l_fin1 : ∀ x, x ∈ lset → fX2_leastOf x = some (lo (tb x) (-9) 7) := by decide +kernel
theorem l_fin2 : ∀ x, x ∈ (255 : Int32) :: lset → ∀ t, t < 8 → (fX2_targets (nI t)).isSome = true ∧ x &&& (fX2_targets (nI t)).getD 0 ∈ lset := by decide +kernel
theorem l_fin3 : ∀ x, x ∈ (255 : Int32) :: lset → ∀ t, t < 8 → ∀ v, v < 8 → tb (x &&& (fX2_targets (nI t)).getD 0) v = (tb x v && decide (fX8_widens (nI t) (nI v) = some 1)) := by decide +kernel
theorem l_fin4 : ∀ v, v < 8 → tb 255 v = true := by decide +kernel
theorem l_mask {T : Nat → Int32} {p : Int32} : ∀ j, lP T p j = true → lM T p j ∈ (255 : Int32) :: lset ∧ (∀ v, v < 8 → lA T p (nI v) j = tb (lM T p j) v) ∧ ((∃ a, a < j ∧ sel p a = true) → lM T p j ∈ lset) := by
  intro j
  induction j with
  | zero => intro _; exact ⟨by show (255 : Int32) ∈ (255 : Int32) :: lset; simp, fun v hv => (l_fin4 v hv).symm, fun ⟨a, ha, _⟩ => by omega⟩
  | succ j ih =>
    intro h
    have h' : (lP T p j && (!sel p j || decide (0 ≤ T j ∧ T j ≤ 7))) = true := h
    rw [Bool.and_eq_true] at h'
    obtain ⟨i1, i2, i3⟩ := ih h'.1
    have hA : ∀ v, lA T p v (j + 1) = (lA T p v j && (!sel p j || decide (fX8_widens (T j) v = some 1))) := fun _ => rfl
    by_cases s : sel p j = true
    · have hM : lM T p (j + 1) = lM T p j &&& (fX2_targets (T j)).getD 0 := by show (if sel p j = true then _ else _) = _; rw [if_pos s]
      have hr := lP_at h j (by omega) s
      rcases prim_cases (T j) with z | ⟨t, ht, et⟩
      · exact absurd hr z
      · rw [hM, et]
        refine ⟨List.mem_cons_of_mem _ (l_fin2 _ i1 t ht).2, fun v hv => ?_, fun _ => (l_fin2 _ i1 t ht).2⟩
        rw [hA, i2 v hv, l_fin3 _ i1 t ht v hv, s, et]
        rfl
    · have hM : lM T p (j + 1) = lM T p j := by show (if sel p j = true then _ else _) = _; rw [if_neg s]
      have sf : sel p j = false := by cases hh : sel p j with
        | true => exact absurd hh s
        | false => rfl
      rw [hM]
      refine ⟨i1, fun v hv => ?_, fun ⟨a, ha, hs⟩ => i3 ⟨a, ?_, hs⟩⟩
      · rw [hA, i2 v hv, sf]; simp
      · have : a ≠ j := fun z => s (by rw [← z]; exact hs)
        omega
theorem l_any : ∀ q, q < 1023 → (List.range 10).any (fun a => sel (nI (q + 1)) a) = true := by decide +kernel
