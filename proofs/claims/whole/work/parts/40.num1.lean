/-! NUMBERS 1: the top bit, leading zeros, rounding -/
def Tp (n l : Nat) : Prop := 2 ^ l ≤ n ∧ n < 2 ^ (l + 1)
theorem p2 (n : Nat) : 0 < 2 ^ n := Nat.two_pow_pos n
theorem p2s (n : Nat) : 2 ^ (n + 1) = 2 * 2 ^ n := by rw [Nat.pow_succ]; omega
theorem p2a (a b : Nat) : 2 ^ (a + b) = 2 ^ a * 2 ^ b := Nat.pow_add 2 a b
theorem p2le {a b : Nat} (h : a ≤ b) : 2 ^ a ≤ 2 ^ b := Nat.pow_le_pow_right (by decide) h
theorem p2lt {a b : Nat} (h : a < b) : 2 ^ a < 2 ^ b := Nat.pow_lt_pow_right (by decide) h
theorem Tp.ex {n : Nat} (h : 0 < n) : ∃ l, Tp n l := ⟨n.log2, Nat.log2_self_le (by omega), Nat.lt_log2_self⟩
theorem Tp.lt {n l w : Nat} (h : Tp n l) (hw : n < 2 ^ w) : l < w := by
  apply Nat.lt_of_not_le
  intro z
  have := p2le z
  have := h.1
  omega
theorem Tp.ge {n l w : Nat} (h : Tp n l) (hw : 2 ^ w ≤ n) : w ≤ l := by
  apply Nat.le_of_not_lt
  intro z
  have := p2le (show l + 1 ≤ w from z)
  have := h.2
  omega
theorem Tp.un {n l m : Nat} (h : Tp n l) (h2 : Tp n m) : l = m := Nat.le_antisymm (h2.ge h.1) (h.ge h2.1)
theorem Tp.pos {n l : Nat} (h : Tp n l) : 0 < n := Nat.lt_of_lt_of_le (p2 l) h.1
theorem Tp.mul {n l : Nat} (h : Tp n l) (j : Nat) : Tp (n * 2 ^ j) (l + j) := by
  refine ⟨?_, ?_⟩
  · rw [p2a]; exact Nat.mul_le_mul_right _ h.1
  · rw [show l + j + 1 = (l + 1) + j by omega, p2a]; exact (Nat.mul_lt_mul_right (p2 j)).mpr h.2
theorem Tp.div {n l j : Nat} (h : Tp n l) (hj : j ≤ l) : Tp (n / 2 ^ j) (l - j) := by
  refine ⟨?_, ?_⟩
  · rw [Nat.le_div_iff_mul_le (p2 j), ← p2a, Nat.sub_add_cancel hj]; exact h.1
  · rw [Nat.div_lt_iff_lt_mul (p2 j), ← p2a, show l - j + 1 + j = l + 1 by omega]; exact h.2
/-! shifts -/
theorem ushr_n {n k : Nat} (hn : n < 2 ^ 32) (hk : k < 32) : jushr (nI n) (nI k) = nI (n / 2 ^ k) := by
  have g : ∀ k, k < 32 → (((nI k).toUInt32 &&& Int32.toUInt32 31).toBitVec % 32).toNat = k := by decide +kernel
  unfold jushr
  exact pk_ushrN hn (nI k) k (g k hk)
theorem lushr_n {n k : Nat} (hn : n < 2 ^ 64) (hk : k < 64) : jlushr (lN n) (nI k) = lN (n / 2 ^ k) := by
  unfold jlushr
  exact wb_shr hn hk
theorem lshl_n (n : Nat) {k : Nat} (hk : k < 64) : jlshl (lN n) (nI k) = lN (n * 2 ^ k) := by
  unfold jlshl
  exact wb_shl n hk
theorem lshr_n {n k : Nat} (hn : n < 2 ^ 63) (hk : k < 64) : jlshr (lN n) (nI k) = lN (n / 2 ^ k) := by
  have hd : n / 2 ^ k ≤ n := Nat.div_le_self _ _
  have g : ∀ k, k < 64 → ((lN k).toBitVec.smod 64).toNat = k := by decide +kernel
  unfold jlshr
  rw [wb_c k hk]
  apply Int64.toInt_inj.mp
  have e : (lN n >>> lN k).toInt = (lN n).toInt >>> k := by
    have := g k hk
    show ((lN n).toBitVec.sshiftRight ((lN k).toBitVec.smod 64).toNat).toInt = _
    rw [this, BitVec.toInt_sshiftRight]
    rfl
  rw [e, Int.shiftRight_eq_div_pow, pk_lT hn, pk_lT (by omega)]
  rfl
/-! leading zeros -/
theorem i_sac (a b c : Int32) : a - b + c = a + c - b := by
  rw [Int32.sub_eq_add_neg, Int32.sub_eq_add_neg, Int32.add_assoc, Int32.add_comm (-b), ← Int32.add_assoc]
theorem i_sub2 (v : Int32) (a b : Nat) : v + -(nI a) - nI b = v - nI (a + b) := by
  rw [← nI_add, Int32.sub_eq_add_neg v, Int32.neg_add, Int32.sub_eq_add_neg, Int32.sub_eq_add_neg, Int32.add_assoc]
theorem nz73 {n l : Nat} (v : Int32) (hn : n < 4) (h : Tp n l) : fJ6_numberOfLeadingZeros_0f7a4_b73 (nI n) v = some (v - nI l) := by
  have g : ∀ n, n < 4 → 0 < n → jushr (nI n) 1 = nI n.log2 := by decide +kernel
  have e : l = n.log2 := h.un ⟨Nat.log2_self_le (by have := h.pos; omega), Nat.lt_log2_self⟩
  unfold fJ6_numberOfLeadingZeros_0f7a4_b73
  rw [g n hn h.pos, e]
theorem nz_step {f g : Int32 → Int32 → Option Int32} {j : Nat} (hj : j ≤ 16) (hf : ∀ n v, f (nI n) v = if nI n < nI (2 ^ j) then g (nI n) v else g (jushr (nI n) (nI j)) (v + -(nI j)))
    (hg : ∀ n l v, n < 2 ^ j → Tp n l → g (nI n) v = some (v - nI l)) : ∀ n l v, n < 2 ^ (j + j) → n < 2 ^ 31 → Tp n l → f (nI n) v = some (v - nI l) := by
  intro n l v hn h31 h
  have hj31 : 2 ^ j < 2 ^ 31 := p2lt (by omega)
  rw [hf]
  by_cases z : n < 2 ^ j
  · rw [if_pos (nI_lt z hj31)]
    exact hg n l v z h
  · have hjl := h.ge (show 2 ^ j ≤ n by omega)
    have hd : n / 2 ^ j < 2 ^ j := by
      rw [Nat.div_lt_iff_lt_mul (p2 j), ← p2a]; exact hn
    rw [if_neg (nI_nlt (by omega) h31), ushr_n (by omega) (by omega), hg _ (l - j) _ hd (h.div hjl), i_sub2, show j + (l - j) = l by omega]
theorem nz61 : ∀ n l v, n < 2 ^ 4 → n < 2 ^ 31 → Tp n l → fJ6_numberOfLeadingZeros_0f7a4_b61 (nI n) v = some (v - nI l) :=
  nz_step (j := 2) (by decide) (fun _ _ => rfl) (fun _ _ v hn h => nz73 v hn h)
theorem nz48 : ∀ n l v, n < 2 ^ 8 → n < 2 ^ 31 → Tp n l → fJ6_numberOfLeadingZeros_0f7a4_b48 (nI n) v = some (v - nI l) :=
  nz_step (j := 4) (by decide) (fun _ _ => rfl) (fun n l v hn h => nz61 n l v hn (by omega) h)
theorem nz33 : ∀ n l v, n < 2 ^ 16 → n < 2 ^ 31 → Tp n l → fJ6_numberOfLeadingZeros_0f7a4_b33 (nI n) v = some (v - nI l) :=
  nz_step (j := 8) (by decide) (fun _ _ => rfl) (fun n l v hn h => nz48 n l v hn (by omega) h)
theorem nI_neg {n : Nat} (h1 : 2 ^ 31 ≤ n) (h2 : n < 2 ^ 32) : (nI n).toInt = (n : Int) - 2 ^ 32 := by
  show (nI n).toBitVec.toInt = _
  rw [BitVec.toInt_eq_toNat_cond, pk_tn h2]
  split <;> omega
theorem nz32 {n l : Nat} (hn : n < 2 ^ 32) (h : Tp n l) : fJ6_numberOfLeadingZeros_0f7a4 (nI n) = some (nI (31 - l)) := by
  unfold fJ6_numberOfLeadingZeros_0f7a4
  by_cases z : n < 2 ^ 31
  · have hl := h.lt z
    have hp : (0 : Int32) < nI n := nI_lt (a := 0) h.pos z
    have := nz_step (f := fun p v => if p < (65536 : Int32) then fJ6_numberOfLeadingZeros_0f7a4_b33 p v else fJ6_numberOfLeadingZeros_0f7a4_b33 (jushr p 16) (v + (-16 : Int32))) (g := fJ6_numberOfLeadingZeros_0f7a4_b33) (j := 16) (by decide) (fun _ _ => rfl) (fun n l v hn h => nz33 n l v hn (by omega) h) n l 31 hn z h
    rw [if_pos hp]
    refine Eq.trans this ?_
    rw [show (31 : Int32) = nI 31 from rfl, pk_sub (by omega)]
  · have hl : l = 31 := h.un ⟨by omega, by omega⟩
    have hi := nI_neg (by omega) hn
    have hp : ¬ (0 : Int32) < nI n := by
      rw [Int32.lt_iff_toInt_lt, hi]
      show ¬ (0 : Int) < _
      omega
    have h0 : ¬ nI n = 0 := by
      intro z2
      rw [z2] at hi
      have : (0 : Int32).toInt = 0 := rfl
      omega
    rw [if_neg hp, if_neg h0, hl]
    rfl
theorem nlz {N l : Nat} (hN : N < 2 ^ 64) (h : Tp N l) : fJ13_numberOfLeadingZeros_95d88 (lN N) = some (nI (63 - l)) := by
  unfold fJ13_numberOfLeadingZeros_95d88
  have e : (jlushr (lN N) 32).toInt32 = nI (N / 2 ^ 32) := by
    rw [show jlushr (lN N) 32 = lN (N / 2 ^ 32) from lushr_n (k := 32) hN (by decide), lN_i]
  have hq : N / 2 ^ 32 < 2 ^ 32 := by omega
  have hz : nI (N / 2 ^ 32) = 0 ↔ N / 2 ^ 32 = 0 := by
    constructor
    · intro z
      have := congrArg (fun x : Int32 => x.toBitVec.toNat) z
      simp only [pk_tn hq] at this
      exact this
    · intro z; rw [z]; rfl
  rw [e, lN_i]
  by_cases z : N / 2 ^ 32 = 0
  · have hN2 : N < 2 ^ 32 := by omega
    have hl := h.lt hN2
    rw [if_pos (hz.mpr z), nz32 hN2 h]
    simp only [Option.bind_some]
    rw [show (32 : Int32) = nI 32 from rfl, nI_add, show 32 + (31 - l) = 63 - l by omega]
  · have hl : 32 ≤ l := h.ge (by omega)
    rw [if_neg (fun y => z (hz.mp y)), nz32 hq (h.div hl)]
    simp only [Option.bind_some]
    rw [show 31 - (l - 32) = 63 - l by omega]
/-! the reference's length -/
theorem len_lp : ∀ l n N c, Tp N l → N < 2 ^ 63 → l + 1 < n → fX8_lengthOf_b4 n (nI c) (lN N) = some (nI (c + l + 1)) := by
  intro l
  induction l with
  | zero =>
    intro n N c h hN hn
    obtain ⟨m, rfl⟩ : ∃ m, n = m + 1 + 1 := ⟨n - 2, by omega⟩
    have hp : ¬ lN N ≤ 0 := fun z => by
      have := (pk_lLE (b := 0) hN (by decide)).mp z
      have := h.pos
      omega
    unfold fX8_lengthOf_b4
    rw [if_neg hp, nI_1, show jlshr (lN N) 1 = lN (N / 2 ^ 1) from lshr_n (k := 1) hN (by decide)]
    have h0 : N / 2 ^ 1 = 0 := by have := h.2; omega
    unfold fX8_lengthOf_b4
    rw [h0, if_pos (by decide)]
  | succ l ih =>
    intro n N c h hN hn
    obtain ⟨m, rfl⟩ : ∃ m, n = m + 1 := ⟨n - 1, by omega⟩
    have hp : ¬ lN N ≤ 0 := fun z => by
      have := (pk_lLE (b := 0) hN (by decide)).mp z
      have := h.pos
      omega
    unfold fX8_lengthOf_b4
    rw [if_neg hp, nI_1, show jlshr (lN N) 1 = lN (N / 2 ^ 1) from lshr_n (k := 1) hN (by decide)]
    have := h.div (show 1 ≤ l + 1 by omega)
    rw [show l + 1 - 1 = l by omega] at this
    rw [ih m (N / 2 ^ 1) (c + 1) this (by omega) (by omega), show c + 1 + l + 1 = c + (l + 1) + 1 by omega]
theorem len_of {N l : Nat} (h : Tp N l) (hN : N < 2 ^ 63) : fX8_lengthOf (lN N) = some (nI (l + 1)) := by
  have hl := h.lt hN
  have := len_lp l 100 N 0 h hN (by omega)
  unfold fX8_lengthOf
  rw [show (0 : Int32) = nI 0 from rfl, this, show 0 + l + 1 = l + 1 by omega]
/-! the rounded number -/
def rT (b N l : Nat) : Nat := if l ≤ b then N * 2 ^ (b - l) else if 2 ^ (l - b - 1) < N % 2 ^ (l - b) ∨ (N % 2 ^ (l - b) = 2 ^ (l - b - 1) ∧ N / 2 ^ (l - b) % 2 = 1) then N / 2 ^ (l - b) + 1 else N / 2 ^ (l - b)
theorem rT_bd (b : Nat) {N l : Nat} (h : Tp N l) : 2 ^ b ≤ rT b N l ∧ rT b N l ≤ 2 ^ (b + 1) := by
  unfold rT
  by_cases z : l ≤ b
  · rw [if_pos z]
    have := h.mul (b - l)
    rw [show l + (b - l) = b by omega] at this
    exact ⟨this.1, Nat.le_of_lt this.2⟩
  · rw [if_neg z]
    have := h.div (show l - b ≤ l by omega)
    rw [show l - (l - b) = b by omega] at this
    split
    · exact ⟨Nat.le_succ_of_le this.1, this.2⟩
    · exact ⟨this.1, Nat.le_of_lt this.2⟩
theorem rT_2 (b N l : Nat) : rT b (N * 2) (l + 1) = rT b N l := by
  unfold rT
  rcases Nat.lt_trichotomy l b with z | z | z
  · rw [if_pos (show l + 1 ≤ b from z), if_pos (Nat.le_of_lt z), show b - l = (b - (l + 1)) + 1 by omega, p2s, Nat.mul_assoc]
  · subst z
    have m : N * 2 % 2 ^ 1 = 0 := by show N * 2 % 2 = 0; omega
    have q : N * 2 / 2 ^ 1 = N := by show N * 2 / 2 = N; omega
    rw [if_neg (by omega), if_pos (Nat.le_refl _), show l + 1 - l = 1 by omega, m, q, if_neg (fun h => by
      rcases h with h | h
      · exact absurd h (by decide)
      · exact absurd h.1 (by decide)), Nat.sub_self l, Nat.pow_zero, Nat.mul_one]
  · obtain ⟨d, rfl⟩ : ∃ d, l = b + 1 + d := ⟨l - b - 1, by omega⟩
    have m : N * 2 % 2 ^ (d + 1 + 1) = N % 2 ^ (d + 1) * 2 := by rw [Nat.pow_succ 2 (d + 1), Nat.mul_mod_mul_right]
    have q : N * 2 / 2 ^ (d + 1 + 1) = N / 2 ^ (d + 1) := by rw [Nat.pow_succ 2 (d + 1), Nat.mul_div_mul_right _ _ (by decide)]
    have s : 2 ^ (d + 1) = 2 * 2 ^ d := p2s d
    rw [if_neg (show ¬ b + 1 + d + 1 ≤ b by omega), if_neg (show ¬ b + 1 + d ≤ b by omega), show b + 1 + d + 1 - b = d + 1 + 1 by omega, show b + 1 + d - b = d + 1 by omega, m, q, Nat.add_sub_cancel, Nat.add_sub_cancel]
    generalize N % 2 ^ (d + 1) = X
    generalize N / 2 ^ (d + 1) = Q
    rw [s]
    generalize 2 ^ d = P
    by_cases c : P < X ∨ X = P ∧ Q % 2 = 1
    · rw [if_pos c, if_pos (by omega)]
    · rw [if_neg c, if_neg (by omega)]
theorem rT_dbl (b N l : Nat) : ∀ j, rT b (N * 2 ^ j) (l + j) = rT b N l := by
  intro j
  induction j with
  | zero => rw [Nat.pow_zero, Nat.mul_one, Nat.add_zero]
  | succ j ih => rw [Nat.pow_succ, ← Nat.mul_assoc, show l + (j + 1) = l + j + 1 by omega, rT_2, ih]
/-! the class's rounding -/
theorem cx_111 {l b B sc K : Nat} (hb : b < 64) (hl : l ≤ 64) (hB : B ≤ 1023) (hB1 : 4 ≤ B) (hs : sc ≤ 3) : fX2_rounded_b111 (nI sc) (nI b) (nI B) (nI l) (lN K) = some (lN ((l + B - 1 - sc) * 2 ^ b + K)) := by
  unfold fX2_rounded_b111
  rw [i_sac, nI_add, pk_sub (by omega), show (1 : Int32) = nI 1 from rfl, pk_sub (by omega), nI_l (by omega), lshl_n _ hb, lN_add, show l + B - sc - 1 = l + B - 1 - sc by omega]
theorem cx_round {N l b B sc : Nat} (hN : N < 2 ^ 64) (h : Tp N l) (hb1 : 23 ≤ b) (hb : b ≤ 52) (hB : B ≤ 1023) (hB1 : 4 ≤ B) (hs : sc ≤ 3) : fX2_rounded_b20 (nI sc) (nI b) (nI B) (lN N) = some (lN ((l + B - 1 - sc) * 2 ^ b + rT b N l)) := by
  have hl := h.lt hN
  have e63 : (63 : Int32) - nI (63 - l) = nI l := by
    rw [show (63 : Int32) = nI 63 from rfl, pk_sub (by omega), show 63 - (63 - l) = l by omega]
  unfold fX2_rounded_b20 rT
  rw [nlz hN h]
  simp only [Option.bind_some, e63]
  by_cases z : l ≤ b
  · have hn : ¬ (0 : Int32) < nI l - nI b := by
      rw [Int32.lt_iff_toInt_lt, pk_sub_toInt (by omega) (by omega)]
      show ¬ (0 : Int) < _
      omega
    rw [if_neg hn, if_pos z, Int32.neg_sub, pk_sub z, lshl_n _ (by omega), cx_111 (by omega) (by omega) hB hB1 hs]
  · obtain ⟨d, rfl⟩ : ∃ d, l = b + (d + 1) := ⟨l - b - 1, by omega⟩
    have hd : nI (b + (d + 1)) - nI b = nI (d + 1) := by rw [pk_sub (by omega), show b + (d + 1) - b = d + 1 by omega]
    have hp : (0 : Int32) < nI (d + 1) := nI_lt (a := 0) (by omega) (by omega)
    have hM : (jlshl (1 : Int64) (nI (d + 1))) - (1 : Int64) = lN (2 ^ (d + 1) - 1) := by
      rw [show (1 : Int64) = lN 1 from rfl, lshl_n _ (by omega), Nat.one_mul, lN_sub (p2 _)]
    have hH : jlshl (1 : Int64) (nI d) = lN (2 ^ d) := by
      rw [show (1 : Int64) = lN 1 from rfl, lshl_n _ (by omega), Nat.one_mul]
    have b1 : 2 ^ d < 2 ^ 63 := p2lt (by omega)
    have b2 : N % 2 ^ (d + 1) < 2 ^ 63 := Nat.lt_trans (Nat.mod_lt _ (p2 _)) (p2lt (by omega))
    have b3 : N / 2 ^ (d + 1) < 2 ^ 64 := Nat.lt_of_le_of_lt (Nat.div_le_self _ _) hN
    have b4 : N / 2 ^ (d + 1) % 2 < 2 ^ 63 := by omega
    have i1 : (lN (N / 2 ^ (d + 1)) &&& 1 = 1) ↔ N / 2 ^ (d + 1) % 2 = 1 := by
      rw [wb_a1 b3]
      exact pk_lEQ (b := 1) b4 (by decide)
    simp only [hd]
    rw [if_pos hp, if_neg z, show nI (d + 1) - 1 = nI d from nI_pred d, hH, hM, fb_maskL, lushr_n hN (by omega), show b + (d + 1) - b = d + 1 by omega, Nat.add_sub_cancel]
    unfold fX2_rounded_b105
    rw [lN_1, cx_111 (by omega) (by omega) hB hB1 hs, cx_111 (by omega) (by omega) hB hB1 hs]
    by_cases c1 : 2 ^ d < N % 2 ^ (d + 1)
    · rw [if_pos ((pk_lLT b1 b2).mpr c1), if_pos (Or.inl c1)]
    · rw [if_neg (fun y => c1 ((pk_lLT b1 b2).mp y))]
      by_cases c2 : N % 2 ^ (d + 1) = 2 ^ d
      · rw [if_pos ((pk_lEQ b2 b1).mpr c2)]
        by_cases c3 : N / 2 ^ (d + 1) % 2 = 1
        · rw [if_pos (i1.mpr c3), if_pos (Or.inr ⟨c2, c3⟩)]
        · rw [if_neg (fun y => c3 (i1.mp y)), if_neg (fun y => by rcases y with y | y; exact c1 y; exact c3 y.2)]
      · rw [if_neg (fun y => c2 ((pk_lEQ b2 b1).mp y)), if_neg (fun y => by rcases y with y | y; exact c1 y; exact c2 y.1)]
