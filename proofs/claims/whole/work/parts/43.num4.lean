/-! NUMBERS 4: values made, told, widened (the first rows pasted from the kit's laws) -/
theorem fb_bit_nat (n j : Nat) : n &&& 2 ^ j = 0 ↔ n.testBit j = false := by
  constructor
  · intro h
    have h1 : (n &&& 2 ^ j).testBit j = false := by rw [h]; simp
    rw [Nat.testBit_and] at h1
    simpa using h1
  · intro h
    apply Nat.eq_of_testBit_eq
    intro i
    rw [Nat.testBit_and]
    by_cases hi : j = i
    · subst hi; simp [h]
    · first | (simp [Nat.testBit_two_pow, hi]; done) | (simp [Nat.testBit_two_pow_of_ne hi]; done)
/-- one bit of a long -/
theorem fb_bitL {n j : Nat} (hj : j < 63) : lN n &&& lN (2 ^ j) = 0 ↔ n.testBit j = false := by
  have h2 : (2 : Nat) ^ j < 2 ^ 63 := Nat.pow_lt_pow_right (by decide) hj
  have hle : n &&& 2 ^ j ≤ 2 ^ j := Nat.and_le_right
  rw [fb_andL, ← fb_bit_nat, show (0 : Int64) = lN 0 from rfl]
  exact fb_lN_inj (by omega) (by decide)
theorem fb_bmodL {z : Int} (h1 : -9223372036854775808 ≤ z) (h2 : z < 9223372036854775808) : z.bmod (2 ^ 64) = z := by
  rw [Int.bmod_eq_of_le (by omega) (by omega)]
theorem fb_subL {x y : Int64} (h1 : -9223372036854775808 ≤ x.toInt - y.toInt) (h2 : x.toInt - y.toInt < 9223372036854775808) : (x - y).toInt = x.toInt - y.toInt := by
  rw [Int64.toInt_sub, fb_bmodL h1 h2]
theorem lN_ge0 {n : Nat} (h : n < 2 ^ 64) : 0 ≤ lN n ↔ n < 2 ^ 63 := by
  rw [Int64.le_iff_toInt_le, lN_ti h]
  show (0 : Int) ≤ _ ↔ _
  split <;> omega
theorem uN_lt {k : Nat} (hk : k = 6 ∨ k = 7) {neg : Bool} {up fr : Nat} (hu : up < mK k) (hf : fr < 2 ^ bK k) : uN k neg (up * 2 ^ bK k + fr) < 2 ^ 64 ∧ (uN k neg (up * 2 ^ bK k + fr) < 2 ^ 63 ↔ neg = false) := by
  rcases hk with rfl | rfl
  · have e1 : bK 6 = 23 := rfl
    have e2 : mK 6 = 256 := rfl
    rw [e1] at hf ⊢
    rw [e2] at hu
    unfold uN
    cases neg with
    | false => simp only [Bool.false_eq_true, if_false, iff_true]; omega
    | true => simp only [if_true, Bool.true_eq_false, iff_false]; omega
  · have e1 : bK 7 = 52 := rfl
    have e2 : mK 7 = 2048 := rfl
    rw [e1] at hf ⊢
    rw [e2] at hu
    unfold uN
    cases neg with
    | false => simp only [Bool.false_eq_true, if_false, iff_true]; omega
    | true => simp only [if_true, Nat.reduceEqDiff, if_false, Bool.true_eq_false, iff_false]; omega
theorem SC_ge {k : Nat} (hk : k = 6 ∨ k = 7) {neg : Bool} {up fr : Nat} (hu : up < mK k) (hf : fr < 2 ^ bK k) : 0 ≤ SC k neg (up * 2 ^ bK k + fr) ↔ neg = false := by
  obtain ⟨h1, h2⟩ := uN_lt (neg := neg) hk hu hf
  rw [SC_u, lN_ge0 h1, h2]
theorem SC_ne {k : Nat} (hk : k = 6 ∨ k = 7) {neg : Bool} {up fr : Nat} (hu0 : 0 < up) (hu : up < mK k) (hf : fr < 2 ^ bK k) : ¬ SC k neg (up * 2 ^ bK k + fr) = 0 := by
  obtain ⟨h1, h2⟩ := uN_lt (neg := neg) hk hu hf
  intro z
  rw [SC_u, show (0 : Int64) = lN 0 from rfl] at z
  have e := lN_eqm z
  rw [Nat.mod_eq_of_lt h1] at e
  have hW : 0 < up * 2 ^ bK k := Nat.mul_pos hu0 (p2 _)
  unfold uN at e
  split at e
  · split at e <;> omega
  · omega
/-- codes of floats and doubles, by sign, exponent and fraction -/
def FK (k : Nat) (c : Int64) : Prop := c = 0 ∨ ∃ (neg : Bool) (up fr : Nat), BK k - 3 ≤ up ∧ up ≤ BK k + 63 ∧ fr < 2 ^ bK k ∧ c = SC k neg (up * 2 ^ bK k + fr)
theorem SC_ti6 {neg : Bool} {W : Nat} (h : W < 2 ^ 31) : (SC 6 neg W).toInt = if neg = true then (W : Int) - 2 ^ 31 else (W : Int) := by
  unfold SC
  cases neg with
  | false => exact pk_lT (by omega)
  | true =>
    show (lN (W + (2 ^ 64 - 2 ^ 31))).toInt = (W : Int) - 2 ^ 31
    rw [lN_ti (by omega), if_neg (by omega)]
    omega
theorem SC_ti7 {neg : Bool} {W : Nat} (h : W < 2 ^ 63) : (SC 7 neg W).toInt = if neg = true then (W : Int) - 2 ^ 63 else (W : Int) := by
  unfold SC
  cases neg with
  | false => exact pk_lT h
  | true =>
    show (lN (W + 2 ^ 63)).toInt = (W : Int) - 2 ^ 63
    rw [lN_ti (by omega), if_neg (by omega)]
    omega
theorem FK_6e (c : Int64) : FK 6 c ↔ (c = 0 ∨ ∃ (neg : Bool) (up fr : Nat), 124 ≤ up ∧ up ≤ 190 ∧ fr < 2 ^ 23 ∧ c = SC 6 neg (up * 2 ^ 23 + fr)) := by
  unfold FK
  rw [show BK 6 - 3 = 124 from rfl, show BK 6 + 63 = 190 from rfl, show bK 6 = 23 from rfl]
theorem FK_6 (c : Int64) : VC 6 c ↔ FK 6 c := by
  rw [FK_6e]
  show FV c ↔ _
  unfold FV
  constructor
  · rintro (h | ⟨up, fr, h1, h2, h3, h4⟩)
    · exact Or.inl h
    · have hW : up * 2 ^ 23 + fr < 2 ^ 31 := by omega
      have ec : ((up * 2 ^ 23 + fr : Nat) : Int) = (up : Int) * 2 ^ 23 + fr := by omega
      rcases h4 with h4 | h4
      · refine Or.inr ⟨false, up, fr, h1, h2, h3, Int64.toInt_inj.mp ?_⟩
        rw [h4, SC_ti6 hW, if_neg (by decide), ec]
      · refine Or.inr ⟨true, up, fr, h1, h2, h3, Int64.toInt_inj.mp ?_⟩
        rw [h4, SC_ti6 hW, if_pos rfl, ec]
  · rintro (h | ⟨neg, up, fr, h1, h2, h3, h4⟩)
    · exact Or.inl h
    · have hW : up * 2 ^ 23 + fr < 2 ^ 31 := by omega
      have ec : ((up * 2 ^ 23 + fr : Nat) : Int) = (up : Int) * 2 ^ 23 + fr := by omega
      refine Or.inr ⟨up, fr, h1, h2, h3, ?_⟩
      rw [h4, SC_ti6 hW, ec]
      cases neg with
      | false => left; rw [if_neg (by decide)]
      | true => right; rw [if_pos rfl]
theorem FK_7e (c : Int64) : FK 7 c ↔ (c = 0 ∨ ∃ (neg : Bool) (up fr : Nat), 1020 ≤ up ∧ up ≤ 1086 ∧ fr < 2 ^ 52 ∧ c = SC 7 neg (up * 2 ^ 52 + fr)) := by
  unfold FK
  rw [show BK 7 - 3 = 1020 from rfl, show BK 7 + 63 = 1086 from rfl, show bK 7 = 52 from rfl]
theorem FK_7 (c : Int64) : VC 7 c ↔ FK 7 c := by
  rw [FK_7e]
  show DV c ↔ _
  unfold DV
  constructor
  · rintro (h | ⟨up, fr, h1, h2, h3, h4⟩)
    · exact Or.inl h
    · have hW : up * 2 ^ 52 + fr < 2 ^ 63 := by omega
      have ec : ((up * 2 ^ 52 + fr : Nat) : Int) = (up : Int) * 2 ^ 52 + fr := by omega
      rcases h4 with h4 | h4
      · refine Or.inr ⟨false, up, fr, h1, h2, h3, Int64.toInt_inj.mp ?_⟩
        rw [h4, SC_ti7 hW, if_neg (by decide), ec]
      · refine Or.inr ⟨true, up, fr, h1, h2, h3, Int64.toInt_inj.mp ?_⟩
        rw [h4, SC_ti7 hW, if_pos rfl, ec]
  · rintro (h | ⟨neg, up, fr, h1, h2, h3, h4⟩)
    · exact Or.inl h
    · have hW : up * 2 ^ 52 + fr < 2 ^ 63 := by omega
      have ec : ((up * 2 ^ 52 + fr : Nat) : Int) = (up : Int) * 2 ^ 52 + fr := by omega
      refine Or.inr ⟨up, fr, h1, h2, h3, ?_⟩
      rw [h4, SC_ti7 hW, ec]
      cases neg with
      | false => left; rw [if_neg (by decide)]
      | true => right; rw [if_pos rfl]
theorem FK_v {k : Nat} (hk : k = 6 ∨ k = 7) (c : Int64) : VC k c ↔ FK k c := by
  rcases hk with rfl | rfl
  · exact FK_6 c
  · exact FK_7 c
theorem rT_pow (b l : Nat) : rT b (2 ^ l) l = 2 ^ b := by
  have := rT_dbl b 1 0 l
  rw [Nat.one_mul, Nat.zero_add] at this
  rw [this]
  unfold rT
  rw [if_pos (Nat.zero_le _), Nat.one_mul, Nat.sub_zero]
/-- a rounded number's exponent and fraction -/
theorem rT_split {b N l E : Nat} (h : Tp N l) (hx : rT b N l < 2 ^ (b + 1) ∨ rT b N l = 2 ^ (b + 1)) : ∃ up fr, fr < 2 ^ b ∧ E * 2 ^ b + rT b N l = up * 2 ^ b + fr ∧ ((up = E + 1 ∧ rT b N l < 2 ^ (b + 1)) ∨ (up = E + 2 ∧ fr = 0 ∧ rT b N l = 2 ^ (b + 1))) := by
  have hb := rT_bd b h
  have hs := p2s b
  rcases hx with hx | hx
  · exact ⟨E + 1, rT b N l - 2 ^ b, by omega, by rw [Nat.add_mul, Nat.one_mul]; omega, Or.inl ⟨rfl, hx⟩⟩
  · exact ⟨E + 2, 0, p2 b, by rw [Nat.add_mul]; omega, Or.inr ⟨rfl, rfl, hx⟩⟩
theorem FK_r {k : Nat} {neg : Bool} {N l E : Nat} (h : Tp N l) (h1 : BK k - 4 ≤ E) (hB : 4 ≤ BK k) (h2 : E ≤ BK k + 62) (h3 : E = BK k + 62 → N = 2 ^ l) : FK k (SC k neg (E * 2 ^ bK k + rT (bK k) N l)) := by
  have hb := rT_bd (bK k) h
  obtain ⟨up, fr, a1, a2, a3⟩ := rT_split (E := E) h (show rT (bK k) N l < 2 ^ (bK k + 1) ∨ rT (bK k) N l = 2 ^ (bK k + 1) by omega)
  refine Or.inr ⟨neg, up, fr, ?_, ?_, a1, by rw [a2]⟩
  · omega
  · rcases a3 with ⟨a4, -⟩ | ⟨a4, -, a5⟩
    · omega
    · have : E ≠ BK k + 62 := by
        intro z
        rw [h3 z, rT_pow] at a5
        have := p2lt (show bK k < bK k + 1 by omega)
        omega
      omega
theorem sv_ex (x : Int64) (h : ¬ x = 0) : ∃ (neg : Bool) (N : Nat), x = sv neg N ∧ 0 < N ∧ N ≤ 2 ^ 63 ∧ (neg = false → N < 2 ^ 63) := by
  have h1 := Int64.le_toInt x
  have h2 := Int64.toInt_lt x
  have h0 : x.toInt ≠ 0 := fun z => h (Int64.toInt_inj.mp (by rw [z]; rfl))
  by_cases z : 0 ≤ x.toInt
  · refine ⟨false, x.toInt.toNat, Int64.toInt_inj.mp ?_, by omega, by omega, fun _ => by omega⟩
    rw [sv_toInt (by omega) (fun _ => by omega)]
    show x.toInt = (x.toInt.toNat : Int)
    omega
  · refine ⟨true, (-x.toInt).toNat, Int64.toInt_inj.mp ?_, by omega, by omega, fun y => absurd y (by decide)⟩
    rw [sv_toInt (by omega) (fun y => absurd y (by decide))]
    show x.toInt = -((-x.toInt).toNat : Int)
    omega
theorem top63 {N l : Nat} (h : Tp N l) (hN : N ≤ 2 ^ 63) : l ≤ 63 ∧ (l = 63 → N = 2 ^ l) := by
  have := h.lt (show N < 2 ^ 64 by omega)
  refine ⟨by omega, fun z => ?_⟩
  have h1 := h.1
  subst z
  omega
/-- rounding a whole number, or an eighth of one -/
theorem n_near {k sc : Nat} (hk : k = 6 ∨ k = 7) (hs : sc ≤ 3) (v : Int64) : ∃ c, fX2_nearest (nI k) v (nI sc) = some c ∧ fX8_rounded (nI k) v (iI (-(sc : Int))) = some c ∧ VC k c := by
  have hB : 4 ≤ BK k := by rcases hk with rfl | rfl <;> decide
  by_cases z : v = 0
  · subst z
    refine ⟨0, cx_near0 hk, by unfold fX8_rounded; rw [if_pos rfl], (FK_v hk 0).mpr (Or.inl rfl)⟩
  · obtain ⟨neg, N, rfl, h0, hN, hp⟩ := sv_ex v z
    obtain ⟨l, h⟩ := Tp.ex h0
    obtain ⟨t1, t2⟩ := top63 h hN
    refine ⟨_, cx_near hk hN hp h hs, rm_round hk hN hp h (E := l + BK k - 1 - sc) (by omega) (by omega), (FK_v hk _).mpr (FK_r h (by omega) hB (by omega) (fun y => t2 (by omega)))⟩
