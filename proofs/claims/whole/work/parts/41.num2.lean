/-! NUMBERS 2: signed codes, both roundings -/
def bK (k : Nat) : Nat := if k = 6 then 23 else 52
def BK (k : Nat) : Nat := if k = 6 then 127 else 1023
def mK (k : Nat) : Nat := if k = 6 then 256 else 2048
def SC (k : Nat) (neg : Bool) (W : Nat) : Int64 := if neg = true then (if k = 6 then lN (W + (2 ^ 64 - 2 ^ 31)) else lN (W + 2 ^ 63)) else lN W
def sv (neg : Bool) (N : Nat) : Int64 := if neg = true then -(lN N) else lN N
def iI (e : Int) : Int32 := Int32.ofInt e
theorem iI_n (n : Nat) : nI n = iI n := Int32.ofInt_eq_ofNat.symm
theorem iI_add (a b : Int) : iI a + iI b = iI (a + b) := (Int32.ofInt_add a b).symm
theorem iI_sub (a b : Int) : iI a - iI b = iI (a - b) := (Int32.ofInt_sub a b).symm
theorem nI_sx {n : Nat} (h1 : 2 ^ 31 ≤ n) (h2 : n < 2 ^ 32) : (nI n).toInt64 = lN (n + (2 ^ 64 - 2 ^ 32)) := by
  apply Int64.toInt_inj.mp
  rw [Int32.toInt_toInt64, nI_neg h1 h2, lN_ti (by omega), if_neg (by omega)]
  omega
theorem orT {W k : Nat} (h : W < 2 ^ k) : lN W ||| lN (2 ^ k) = lN (W + 2 ^ k) := by
  have := fb_or_sumL 1 h
  rw [Nat.mul_one] at this
  rw [Int64.or_comm, this, Nat.add_comm]
theorem sx31 {W : Nat} (h : W < 2 ^ 31) : (lN W ||| lN (2 ^ 31)).toInt32.toInt64 = lN (W + (2 ^ 64 - 2 ^ 31)) := by
  have h1 : 2 ^ 31 ≤ W + 2 ^ 31 := Nat.le_add_left _ _
  have h2 : W + 2 ^ 31 < 2 ^ 32 := by omega
  have h3 : W + 2 ^ 31 + (2 ^ 64 - 2 ^ 32) = W + (2 ^ 64 - 2 ^ 31) := by omega
  have h4 := nI_sx h1 h2
  rw [h3] at h4
  rw [orT h, lN_i, h4]
/-! a signed whole number -/
theorem sv_toInt {neg : Bool} {N : Nat} (hN : N ≤ 2 ^ 63) (hp : neg = false → N < 2 ^ 63) : (sv neg N).toInt = if neg = true then -(N : Int) else (N : Int) := by
  unfold sv
  cases neg with
  | false => exact pk_lT (hp rfl)
  | true => exact Int64.toInt_neg_ofNat_of_le hN
theorem sv_ge {neg : Bool} {N : Nat} (h0 : 0 < N) (hN : N ≤ 2 ^ 63) (hp : neg = false → N < 2 ^ 63) : 0 ≤ sv neg N ↔ neg = false := by
  rw [Int64.le_iff_toInt_le, sv_toInt hN hp]
  show (0 : Int) ≤ _ ↔ _
  cases neg with
  | false => exact ⟨fun _ => rfl, fun _ => by show (0 : Int) ≤ (N : Int); omega⟩
  | true => exact ⟨fun z => absurd (show (0 : Int) ≤ -(N : Int) from z) (by omega), fun z => absurd z (by decide)⟩
theorem sv_ne {neg : Bool} {N : Nat} (h0 : 0 < N) (hN : N ≤ 2 ^ 63) (hp : neg = false → N < 2 ^ 63) : ¬ sv neg N = 0 := by
  intro z
  have e := sv_toInt hN hp
  rw [z] at e
  have e0 : (0 : Int64).toInt = 0 := rfl
  rw [e0] at e
  cases neg with
  | false => have : (0 : Int) = (N : Int) := e
             omega
  | true => have : (0 : Int) = -(N : Int) := e
            omega
theorem sv_abs (N : Nat) : -(sv true N) = lN N := by
  show - -(lN N) = lN N
  rw [Int64.neg_neg]
/-! the class: nearest -/
theorem cx_near {k N l sc : Nat} (hk : k = 6 ∨ k = 7) {neg : Bool} (hN : N ≤ 2 ^ 63) (hp : neg = false → N < 2 ^ 63) (h : Tp N l) (hs : sc ≤ 3) : fX2_nearest (nI k) (sv neg N) (nI sc) = some (SC k neg ((l + BK k - 1 - sc) * 2 ^ bK k + rT (bK k) N l)) := by
  have hl := h.lt (show N < 2 ^ 64 by omega)
  have g := sv_ge h.pos hN hp
  have g0 := sv_ne h.pos hN hp
  rcases hk with rfl | rfl
  · have e : fX2_rounded_b20 (nI sc) 23 127 (lN N) = some (lN ((l + 127 - 1 - sc) * 2 ^ 23 + rT 23 N l)) := cx_round (b := 23) (B := 127) (by omega) h (by decide) (by decide) (by decide) (by decide) hs
    have hb := rT_bd 23 h
    have hW : (l + 127 - 1 - sc) * 2 ^ 23 + rT 23 N l < 2 ^ 31 := by omega
    unfold fX2_nearest fX2_nearest_b17 fX2_rounded
    rw [if_pos (show nI 6 = 6 from rfl), if_neg g0]
    cases neg with
    | false =>
      rw [if_pos (g.mpr rfl), if_pos (g.mpr rfl)]
      show ((fX2_rounded_b20 (nI sc) 23 127 (lN N)).bind _) = _
      rw [e]
      rfl
    | true =>
      rw [if_neg (fun z => absurd (g.mp z) (by decide)), if_neg (fun z => absurd (g.mp z) (by decide)), sv_abs, e]
      simp only [Option.bind_some]
      unfold fX2_signedFloat
      rw [if_neg (by decide), show (2147483648 : Int64) = lN (2 ^ 31) from rfl, sx31 hW]
      rfl
  · have e : fX2_rounded_b20 (nI sc) 52 1023 (lN N) = some (lN ((l + 1023 - 1 - sc) * 2 ^ 52 + rT 52 N l)) := cx_round (b := 52) (B := 1023) (by omega) h (by decide) (by decide) (by decide) (by decide) hs
    have hb := rT_bd 52 h
    have hW : (l + 1023 - 1 - sc) * 2 ^ 52 + rT 52 N l < 2 ^ 63 := by omega
    unfold fX2_nearest fX2_nearest_b41 fX2_rounded
    rw [if_neg (show ¬ nI 7 = 6 by decide), if_neg g0]
    cases neg with
    | false =>
      rw [if_pos (g.mpr rfl), if_pos (g.mpr rfl)]
      show ((fX2_rounded_b20 (nI sc) 52 1023 (lN N)).bind _) = _
      rw [e]
      rfl
    | true =>
      rw [if_neg (fun z => absurd (g.mp z) (by decide)), if_neg (fun z => absurd (g.mp z) (by decide)), sv_abs, e]
      simp only [Option.bind_some]
      unfold fX2_signedDouble
      rw [if_neg (by decide), show (-9223372036854775808 : Int64) = lN (2 ^ 63) by decide, orT hW]
      rfl
theorem cx_near0 {k sc : Nat} (hk : k = 6 ∨ k = 7) : fX2_nearest (nI k) 0 (nI sc) = some 0 := by
  rcases hk with rfl | rfl
  · unfold fX2_nearest fX2_nearest_b17 fX2_rounded
    rw [if_pos (show nI 6 = 6 from rfl), if_pos (by decide), if_pos rfl]
    rfl
  · unfold fX2_nearest fX2_nearest_b41 fX2_rounded
    rw [if_neg (show ¬ nI 7 = 6 by decide), if_pos (by decide), if_pos rfl]
    rfl
/-! the reference: rounded -/
theorem rm_told {b fr E1 : Nat} (hb : b < 63) (hE : E1 < 2 ^ 31) : (lN fr &&& ((jlshl (1 : Int64) (nI (b + 1) - (1 : Int32))) - (1 : Int64))) ||| (jlshl (Int32.toInt64 (nI E1)) (nI (b + 1) - (1 : Int32))) = lN (E1 * 2 ^ b + fr % 2 ^ b) := by
  rw [show nI (b + 1) - 1 = nI b from nI_pred b, show (1 : Int64) = lN 1 from rfl, lshl_n _ (by omega), Nat.one_mul, lN_sub (p2 _), fb_maskL, nI_l hE, lshl_n _ (by omega), Int64.or_comm, Nat.mul_comm E1, fb_or_sumL E1 (Nat.mod_lt _ (p2 b))]
theorem rm_226 {k : Nat} (hk : k = 6 ∨ k = 7) {neg : Bool} {v6 : Int64} (hv : 0 ≤ v6 ↔ neg = false) {fr E1 : Nat} {s0 s1 : Int32} (hs : s1 + s0 = nI E1) (hE : E1 < mK k) : fX8_rounded_b226 (nI k) (nI (bK k + 1)) v6 (lN fr) s0 s1 = some (SC k neg (E1 * 2 ^ bK k + fr % 2 ^ bK k)) := by
  have hE31 : E1 < 2 ^ 31 := by
    rcases hk with rfl | rfl
    · have : mK 6 = 256 := rfl
      omega
    · have : mK 7 = 2048 := rfl
      omega
  have hm : fr % 2 ^ bK k < 2 ^ bK k := Nat.mod_lt _ (p2 _)
  have hb : bK k < 63 := by rcases hk with rfl | rfl <;> decide
  unfold fX8_rounded_b226 fX8_rounded_b274
  rw [hs, rm_told hb hE31]
  unfold fX8_rounded_b281
  rcases hk with rfl | rfl
  · have hW : E1 * 2 ^ bK 6 + fr % 2 ^ bK 6 < 2 ^ 31 := by
      have e1 : bK 6 = 23 := rfl
      have e2 : mK 6 = 256 := rfl
      rw [e1] at hm ⊢
      omega
    rw [if_pos (show nI 6 = 6 from rfl), if_pos (show nI 6 = 6 from rfl), if_pos (show nI 6 = 6 from rfl)]
    cases neg with
    | false =>
      rw [if_pos (hv.mpr rfl), lN_i, nI_l hW]
      rfl
    | true =>
      rw [if_neg (fun z => absurd (hv.mp z) (by decide)), show jlshl (1 : Int64) 31 = lN (2 ^ 31) by decide, sx31 hW]
      rfl
  · have hW : E1 * 2 ^ bK 7 + fr % 2 ^ bK 7 < 2 ^ 63 := by
      have e1 : bK 7 = 52 := rfl
      have e2 : mK 7 = 2048 := rfl
      rw [e1] at hm ⊢
      omega
    rw [if_neg (show ¬ nI 7 = 6 by decide), if_neg (show ¬ nI 7 = 6 by decide), if_neg (show ¬ nI 7 = 6 by decide)]
    cases neg with
    | false =>
      rw [if_pos (hv.mpr rfl)]
      rfl
    | true =>
      rw [if_neg (fun z => absurd (hv.mp z) (by decide)), show jlshl (1 : Int64) 63 = lN (2 ^ 63) by decide, orT hW]
      rfl
theorem rm_170 {k : Nat} (hk : k = 6 ∨ k = 7) {neg : Bool} {v6 : Int64} (hv : 0 ≤ v6 ↔ neg = false) {a la E1 : Nat} {up : Int} (ha : Tp a la) (hla : la ≤ bK k + 1) (hE1 : (E1 : Int) = up + la + BK k) (hE : E1 < mK k) :
    fX8_rounded_b170 (nI k) (nI (bK k + 1)) v6 (iI up) (lN a) = some (SC k neg (E1 * 2 ^ bK k + (if la ≤ bK k then a * 2 ^ (bK k - la) else a / 2 ^ (la - bK k)) % 2 ^ bK k)) := by
  have hb : bK k ≤ 52 := by rcases hk with rfl | rfl <;> decide
  have ha63 : a < 2 ^ 63 := Nat.lt_of_lt_of_le ha.2 (p2le (by omega))
  have key : ∀ fr : Nat, fX8_rounded_b203 (nI k) (nI (bK k + 1)) v6 (iI up) (nI (la + 1)) (lN fr) = some (SC k neg (E1 * 2 ^ bK k + fr % 2 ^ bK k)) := by
    intro fr
    unfold fX8_rounded_b203
    have hx : ∀ B : Nat, B = BK k → iI up + nI (la + 1) - 1 + nI B = nI E1 := by
      intro B hB
      rw [show (1 : Int32) = nI 1 from rfl, iI_n, iI_n, iI_n, iI_n, iI_add, iI_sub, iI_add]
      congr 1
      omega
    rcases hk with rfl | rfl
    · rw [if_pos (show nI 6 = 6 from rfl)]
      exact rm_226 (Or.inl rfl) hv (hx 127 rfl) hE
    · rw [if_neg (show ¬ nI 7 = 6 by decide)]
      exact rm_226 (Or.inr rfl) hv (hx 1023 rfl) hE
  unfold fX8_rounded_b170
  rw [len_of ha ha63]
  simp only [Option.bind_some]
  by_cases z : la ≤ bK k
  · rw [if_pos (nI_le (by omega) (by omega)), if_pos z, pk_sub (by omega), lshl_n _ (by omega), show bK k + 1 - (la + 1) = bK k - la by omega]
    exact key _
  · rw [if_neg (nI_ge (by omega) (by omega)), if_neg z, pk_sub (by omega), lshr_n ha63 (by omega), show la + 1 - (bK k + 1) = la - bK k by omega]
    exact key _
theorem mod_top {X b : Nat} (h1 : 2 ^ b ≤ X) (h2 : X < 2 ^ (b + 1)) : X % 2 ^ b = X - 2 ^ b := by
  have := p2s b
  rw [Nat.mod_eq_sub_mod h1]
  exact Nat.mod_eq_of_lt (by omega)
theorem rm_83 {k : Nat} (hk : k = 6 ∨ k = 7) {neg : Bool} {v6 : Int64} (hv : 0 ≤ v6 ↔ neg = false) {N l E : Nat} {e : Int} (hN : N < 2 ^ 63) (h : Tp N l) (hE : (E : Int) = e + l + BK k - 1) (hE2 : E ≤ BK k + 62) :
    fX8_rounded_b83 (nI k) (nI (bK k + 1)) v6 (iI e) (lN N) = some (SC k neg (E * 2 ^ bK k + rT (bK k) N l)) := by
  have hl := h.lt hN
  have hb : 23 ≤ bK k ∧ bK k ≤ 52 := by rcases hk with rfl | rfl <;> decide
  have hm : BK k + 64 < mK k := by rcases hk with rfl | rfl <;> decide
  unfold fX8_rounded_b83
  rw [len_of h hN]
  simp only [Option.bind_some]
  by_cases z : l ≤ bK k
  · have hn : nI (l + 1) - nI (bK k + 1) ≤ (0 : Int32) := by
      rw [Int32.le_iff_toInt_le, pk_sub_toInt (by omega) (by omega)]
      show _ ≤ (0 : Int)
      omega
    have hX := h.mul (bK k - l)
    rw [show l + (bK k - l) = bK k by omega] at hX
    rw [if_pos hn, rm_170 hk hv (E1 := E + 1) h (by omega) (by omega) (by omega), if_pos z, mod_top hX.1 hX.2]
    have hr : rT (bK k) N l = N * 2 ^ (bK k - l) := by unfold rT; rw [if_pos z]
    rw [hr, Nat.add_mul, Nat.one_mul]
    have := hX.1
    congr 2
    omega
  · obtain ⟨d, hd⟩ : ∃ d, l = bK k + (d + 1) := ⟨l - bK k - 1, by omega⟩
    have hsub : nI (l + 1) - nI (bK k + 1) = nI (d + 1) := by rw [pk_sub (by omega)]; congr 1; omega
    have hp : ¬ nI (d + 1) ≤ (0 : Int32) := nI_nle (by omega) (by omega)
    have hM : (jlshl (1 : Int64) (nI (d + 1))) - (1 : Int64) = lN (2 ^ (d + 1) - 1) := by
      rw [show (1 : Int64) = lN 1 from rfl, lshl_n _ (by omega), Nat.one_mul, lN_sub (p2 _)]
    have hH : jlshl (1 : Int64) (nI d) = lN (2 ^ d) := by
      rw [show (1 : Int64) = lN 1 from rfl, lshl_n _ (by omega), Nat.one_mul]
    have b1 : 2 ^ d < 2 ^ 63 := p2lt (by omega)
    have b2 : N % 2 ^ (d + 1) < 2 ^ 63 := Nat.lt_trans (Nat.mod_lt _ (p2 _)) (p2lt (by omega))
    have b3 : N / 2 ^ (d + 1) < 2 ^ 63 := Nat.lt_of_le_of_lt (Nat.div_le_self _ _) hN
    have i1 : (jlrem (lN (N / 2 ^ (d + 1))) 2 = 1) ↔ N / 2 ^ (d + 1) % 2 = 1 := by
      have : jlrem (lN (N / 2 ^ (d + 1))) 2 = lN (N / 2 ^ (d + 1) % 2) := pk_lRem (b := 2) b3 (by decide) (by decide)
      rw [this]
      exact pk_lEQ (b := 1) (by omega) (by decide)
    have key : ∀ a, a = rT (bK k) N l → fX8_rounded_b170 (nI k) (nI (bK k + 1)) v6 (iI e + nI (d + 1)) (lN a) = some (SC k neg (E * 2 ^ bK k + rT (bK k) N l)) := by
      intro a ha
      have hbd := rT_bd (bK k) h
      rw [← ha] at hbd ⊢
      rw [iI_n (d + 1), iI_add]
      have hs := p2s (bK k)
      by_cases y : a < 2 ^ (bK k + 1)
      · rw [rm_170 hk hv (E1 := E + 1) ⟨hbd.1, y⟩ (by omega) (by omega) (by omega), if_pos (Nat.le_refl _), Nat.sub_self, Nat.pow_zero, Nat.mul_one, mod_top hbd.1 y, Nat.add_mul, Nat.one_mul]
        have := hbd.1
        congr 2
        omega
      · have ea : a = 2 ^ (bK k + 1) := by omega
        have hT : Tp a (bK k + 1) := ⟨by omega, by rw [ea]; exact p2lt (by omega)⟩
        rw [rm_170 hk hv (E1 := E + 2) hT (Nat.le_refl _) (by omega) (by omega), if_neg (by omega), show bK k + 1 - bK k = 1 by omega, ea, Nat.pow_succ 2 (bK k), Nat.pow_one, Nat.mul_div_cancel _ (by decide), Nat.mod_self, Nat.add_mul]
        congr 2
        omega
    rw [hsub]
    rw [if_neg hp, show nI (d + 1) - 1 = nI d from nI_pred d, hH, hM, fb_maskL, lshr_n hN (by omega)]
    have hl2 : l - bK k = d + 1 := by omega
    unfold rT at key
    rw [if_neg z, hl2, Nat.add_sub_cancel] at key
    unfold rT
    rw [if_neg z, hl2, Nat.add_sub_cancel]
    unfold fX8_rounded_b162 fX8_rounded_b166 fX8_rounded_b167
    rw [lN_1, show lN (N / 2 ^ (d + 1)) + 0 = lN (N / 2 ^ (d + 1)) from Int64.add_zero _]
    by_cases c1 : 2 ^ d < N % 2 ^ (d + 1)
    · rw [if_pos ((pk_lLT b1 b2).mpr c1)]
      exact key _ (by rw [if_pos (Or.inl c1)])
    · rw [if_neg (fun y => c1 ((pk_lLT b1 b2).mp y))]
      by_cases c2 : N % 2 ^ (d + 1) = 2 ^ d
      · rw [if_pos ((pk_lEQ b2 b1).mpr c2)]
        by_cases c3 : N / 2 ^ (d + 1) % 2 = 1
        · rw [if_pos (i1.mpr c3)]
          exact key _ (by rw [if_pos (Or.inr ⟨c2, c3⟩)])
        · rw [if_neg (fun y => c3 (i1.mp y))]
          exact key _ (by rw [if_neg (fun y => by rcases y with y | y; exact c1 y; exact c3 y.2)])
      · rw [if_neg (fun y => c2 ((pk_lEQ b2 b1).mp y))]
        exact key _ (by rw [if_neg (fun y => by rcases y with y | y; exact c1 y; exact c2 y.1)])
theorem rm_66 {k : Nat} (hk : k = 6 ∨ k = 7) {neg : Bool} {N l E : Nat} {e : Int} (hN : N < 2 ^ 63) (h : Tp N l) (hE : (E : Int) = e + l + BK k - 1) (hE2 : E ≤ BK k + 62) :
    fX8_rounded_b66 (nI k) (nI (bK k + 1)) (sv neg N) (iI e) = some (SC k neg (E * 2 ^ bK k + rT (bK k) N l)) := by
  have g := sv_ge (neg := neg) h.pos (Nat.le_of_lt hN) (fun _ => hN)
  unfold fX8_rounded_b66
  cases neg with
  | false =>
    rw [if_pos (g.mpr rfl)]
    exact rm_83 hk g hN h hE hE2
  | true =>
    rw [if_neg (fun z => absurd (g.mp z) (by decide)), sv_abs]
    exact rm_83 hk g hN h hE hE2
theorem rm_round {k : Nat} (hk : k = 6 ∨ k = 7) {neg : Bool} {N l E : Nat} {e : Int} (hN : N ≤ 2 ^ 63) (hp : neg = false → N < 2 ^ 63) (h : Tp N l) (hE : (E : Int) = e + l + BK k - 1) (hE2 : E ≤ BK k + 62) :
    fX8_rounded (nI k) (sv neg N) (iI e) = some (SC k neg (E * 2 ^ bK k + rT (bK k) N l)) := by
  have key : fX8_rounded_b21 (nI k) (sv neg N) (iI e) (nI (bK k + 1)) = some (SC k neg (E * 2 ^ bK k + rT (bK k) N l)) := by
    unfold fX8_rounded_b21 fX8_rounded_b36 fX8_rounded_b52
    by_cases z : N = 2 ^ 63
    · have hneg : neg = true := by
        cases neg with
        | false => have := hp rfl
                   omega
        | true => rfl
      subst hneg
      have hl : l = 63 := h.un ⟨by rw [z]; exact Nat.le_refl _, by rw [z]; exact p2lt (by decide)⟩
      subst hl
      rw [z, if_pos (by decide), if_neg (by decide), if_neg (by decide), show jldiv (sv true (2 ^ 63)) 2 = sv true (2 ^ 62) by decide, show (1 : Int32) = iI 1 from rfl, iI_add, rm_66 hk (E := E) (N := 2 ^ 62) (l := 62) (by decide) ⟨Nat.le_refl _, p2lt (by decide)⟩ (by omega) hE2, ← rT_2 (bK k) (2 ^ 62) 62]
    · have hN2 : N < 2 ^ 63 := by omega
      have hne : ¬ sv neg N = -9223372036854775808 := by
        intro y
        have e1 := sv_toInt hN hp
        rw [y] at e1
        have e0 : (-9223372036854775808 : Int64).toInt = -9223372036854775808 := by decide
        rw [e0] at e1
        split at e1 <;> omega
      rw [if_neg hne, if_pos rfl, if_pos rfl]
      exact rm_66 hk hN2 h hE hE2
  unfold fX8_rounded
  rw [if_neg (sv_ne h.pos hN hp)]
  rcases hk with rfl | rfl
  · rw [if_pos (show nI 6 = 6 from rfl)]
    exact key
  · rw [if_neg (show ¬ nI 7 = 6 by decide)]
    exact key
