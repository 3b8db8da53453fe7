/-! NUMBERS 9: the same number of another type -/
theorem in64 (p a b : Int64) : fX8_in p a b = some (bz (a ≤ p ∧ p ≤ b)) := by
  unfold fX8_in bz
  by_cases h1 : p < a
  · rw [if_pos h1, if_neg (fun z => absurd h1 (Int64.not_lt.mpr z.1))]
  · rw [if_neg h1]
    by_cases h2 : b < p
    · rw [if_pos h2, if_neg (fun z => absurd h2 (Int64.not_lt.mpr z.2))]
    · rw [if_neg h2, if_pos ⟨Int64.not_lt.mp h1, Int64.not_lt.mp h2⟩]
theorem bw64 (x lo hi : Int64) : (if x < lo then some (0 : Int32) else if hi < x then some (0 : Int32) else some (1 : Int32)) = some (bz (lo ≤ x ∧ x ≤ hi)) := by
  by_cases h1 : x < lo
  · rw [if_pos h1, bz_f (fun z => absurd h1 (Int64.not_lt.mpr z.1))]
  · rw [if_neg h1]
    by_cases h2 : hi < x
    · rw [if_pos h2, bz_f (fun z => absurd h2 (Int64.not_lt.mpr z.2))]
    · rw [if_neg h2, bz_t ⟨Int64.not_lt.mp h1, Int64.not_lt.mp h2⟩]
/-- whether a whole number is one of type b -/
theorem fits_b {b : Nat} (h1 : 1 ≤ b) (h5 : b ≤ 5) (x : Int64) : ∃ w : Bool, fX8_fits (nI b) x = some (bz (w = true)) ∧ fX2_isBetween x (nI b) = some (bz (w = true)) ∧ (w = true ↔ VC b x) := by
  have key : ∀ (lo hi : Int64), (lo ≤ x ∧ x ≤ hi) ↔ (decide (lo ≤ x ∧ x ≤ hi) = true) := fun lo hi => decide_eq_true_iff.symm
  have hb : b = 1 ∨ b = 2 ∨ b = 3 ∨ b = 4 ∨ b = 5 := by omega
  rcases hb with rfl | rfl | rfl | rfl | rfl
  · refine ⟨decide ((-128 : Int64) ≤ x ∧ x ≤ 127), ?_, ?_, ?_⟩
    · have : fX8_fits (nI 1) x = ((fX8_in x (-128) 127).bind fun r50 => if rbz r50 = true then some r50 else none) := rfl
      rw [this, in64, bd rfl, if_pos (rbz_bz _), bz_c (key _ _)]
    · have : fX2_isBetween x (nI 1) = (if x < (-128 : Int64) then some (0 : Int32) else if (127 : Int64) < x then some (0 : Int32) else some (1 : Int32)) := rfl
      rw [this, bw64, bz_c (key _ _)]
    · rw [decide_eq_true_iff, Int64.le_iff_toInt_le, Int64.le_iff_toInt_le]
      exact Iff.rfl
  · refine ⟨decide ((0 : Int64) ≤ x ∧ x ≤ 65535), ?_, ?_, ?_⟩
    · have : fX8_fits (nI 2) x = ((fX8_in x 0 65535).bind fun r50 => if rbz r50 = true then some r50 else none) := rfl
      rw [this, in64, bd rfl, if_pos (rbz_bz _), bz_c (key _ _)]
    · have : fX2_isBetween x (nI 2) = (if x < (0 : Int64) then some (0 : Int32) else if (65535 : Int64) < x then some (0 : Int32) else some (1 : Int32)) := rfl
      rw [this, bw64, bz_c (key _ _)]
    · rw [decide_eq_true_iff, Int64.le_iff_toInt_le, Int64.le_iff_toInt_le]
      exact Iff.rfl
  · refine ⟨decide ((-32768 : Int64) ≤ x ∧ x ≤ 32767), ?_, ?_, ?_⟩
    · have : fX8_fits (nI 3) x = ((fX8_in x (-32768) 32767).bind fun r50 => if rbz r50 = true then some r50 else none) := rfl
      rw [this, in64, bd rfl, if_pos (rbz_bz _), bz_c (key _ _)]
    · have : fX2_isBetween x (nI 3) = (if x < (-32768 : Int64) then some (0 : Int32) else if (32767 : Int64) < x then some (0 : Int32) else some (1 : Int32)) := rfl
      rw [this, bw64, bz_c (key _ _)]
    · rw [decide_eq_true_iff, Int64.le_iff_toInt_le, Int64.le_iff_toInt_le]
      exact Iff.rfl
  · refine ⟨decide ((-2147483648 : Int64) ≤ x ∧ x ≤ 2147483647), ?_, ?_, ?_⟩
    · have : fX8_fits (nI 4) x = ((fX8_in x (-2147483648) 2147483647).bind fun r50 => if rbz r50 = true then some r50 else none) := rfl
      rw [this, in64, bd rfl, if_pos (rbz_bz _), bz_c (key _ _)]
    · have : fX2_isBetween x (nI 4) = (if x < (-2147483648 : Int64) then some (0 : Int32) else if (2147483647 : Int64) < x then some (0 : Int32) else some (1 : Int32)) := rfl
      rw [this, bw64, bz_c (key _ _)]
    · rw [decide_eq_true_iff, Int64.le_iff_toInt_le, Int64.le_iff_toInt_le]
      exact Iff.rfl
  · refine ⟨true, rfl, ?_, ⟨fun _ => trivial, fun _ => rfl⟩⟩
    have : fX2_isBetween x (nI 5) = (if x < (-9223372036854775808 : Int64) then some (0 : Int32) else if (9223372036854775807 : Int64) < x then some (0 : Int32) else some (1 : Int32)) := rfl
    have l1 : (-9223372036854775808 : Int64) ≤ x := by
      rw [Int64.le_iff_toInt_le]
      have := Int64.le_toInt x
      have e : (-9223372036854775808 : Int64).toInt = -9223372036854775808 := by decide
      omega
    have l2 : x ≤ (9223372036854775807 : Int64) := by
      rw [Int64.le_iff_toInt_le]
      have := Int64.toInt_lt x
      have e : (9223372036854775807 : Int64).toInt = 9223372036854775807 := by decide
      omega
    rw [this, bw64, bz_t ⟨l1, l2⟩, bz_t rfl]
theorem VC_min {b : Nat} (h1 : 1 ≤ b) (h5 : b ≤ 5) : VC b (sv true (2 ^ 63)) ↔ b = 5 := by
  have e : (sv true (2 ^ 63)).toInt = -9223372036854775808 := by decide
  have hb : b = 1 ∨ b = 2 ∨ b = 3 ∨ b = 4 ∨ b = 5 := by omega
  rcases hb with rfl | rfl | rfl | rfl | rfl
  · simp only [VC, e]; omega
  · simp only [VC, e]; omega
  · simp only [VC, e]; omega
  · simp only [VC, e]; omega
  · exact ⟨fun _ => rfl, fun _ => trivial⟩
theorem sv_shl (neg : Bool) (M : Nat) {p : Nat} (hp : p < 64) : jlshl (sv neg M) (nI p) = sv neg (M * 2 ^ p) := by
  cases neg with
  | false => exact lshl_n M hp
  | true =>
    show jlshl (-(lN M)) (nI p) = -(lN (M * 2 ^ p))
    obtain ⟨n, hn, e⟩ := wb_of (-(lN M))
    rw [e, lshl_n n hp, ← lN_mul, ← e, Int64.neg_mul, lN_mul]
theorem iI_ge {p : Int} (h1 : -1000 ≤ p) (h2 : p ≤ 1000) : (0 : Int32) ≤ iI p ↔ 0 ≤ p := by
  rw [Int32.le_iff_toInt_le]
  have : (iI p).toInt = p := Int32.toInt_ofInt_of_le (by omega) (by omega)
  rw [this]
  exact Iff.rfl
theorem iI_le63 {p : Int} (h1 : -1000 ≤ p) (h2 : p ≤ 1000) : iI p ≤ (63 : Int32) ↔ p ≤ 63 := by
  rw [Int32.le_iff_toInt_le]
  have : (iI p).toInt = p := Int32.toInt_ofInt_of_le (by omega) (by omega)
  rw [this]
  exact Iff.rfl
theorem iI_eq63 {p : Int} (h1 : -1000 ≤ p) (h2 : p ≤ 1000) : iI p = (63 : Int32) ↔ p = 63 := by
  rw [← Int32.toInt_inj]
  have : (iI p).toInt = p := Int32.toInt_ofInt_of_le (by omega) (by omega)
  rw [this]
  exact Iff.rfl
/-- the parts of a number that isn't 0 -/
def Pt (a : Nat) (c : Int64) (neg : Bool) (M : Nat) (p : Int) : Prop := M % 2 = 1 ∧ M < 2 ^ 63 ∧ ∀ μ, ∃ μ', fX8_takeApart (nI a) c μ = some μ' ∧ EqA μ μ' ∧ μ'.2 0 42 = sv neg M ∧ μ'.1 0 43 = iI p
theorem one_hi {a b : Nat} {c : Int64} {neg : Bool} {M m : Nat} {p : Int} (h : Pt a c neg M p) (hm : Tp M m) (hb : b = 6 ∨ b = 7) (μ : Mm) : ∃ μ1, fX8_isOne (nI a) c (nI b) μ = some (bz (m ≤ bK b), μ1) ∧ EqA μ μ1 := by
  obtain ⟨h1, h2, h3⟩ := h
  obtain ⟨μ', g1, g2, g3, g4⟩ := h3 μ
  refine ⟨μ', ?_, g2⟩
  have hm63 := hm.lt h2
  have hge := sv_ge (neg := neg) hm.pos (Nat.le_of_lt h2) (fun _ => h2)
  have hb6 : ¬ nI b < 6 := by rcases hb with rfl | rfl <;> decide
  have key : fX8_isOne_b34 (nI b) (lN M) μ' = some (bz (m ≤ bK b), μ') := by
    unfold fX8_isOne_b34 fX8_isOne_b51
    rw [bd (len_of hm h2)]
    rcases hb with rfl | rfl
    · rw [if_pos (show nI 6 = 6 from rfl)]
      have i : (24 : Int32) < nI (m + 1) ↔ 24 < m + 1 := nI_ltI (a := 24) (by decide) (by omega)
      by_cases z : m ≤ 23
      · rw [if_neg (fun y => by have := i.mp y; omega), bz_t (show m ≤ bK 6 from z)]
      · rw [if_pos (i.mpr (by omega)), bz_f (show ¬ m ≤ bK 6 from z)]
    · rw [if_neg (show ¬ nI 7 = 6 by decide)]
      have i : (53 : Int32) < nI (m + 1) ↔ 53 < m + 1 := nI_ltI (a := 53) (by decide) (by omega)
      by_cases z : m ≤ 52
      · rw [if_neg (fun y => by have := i.mp y; omega), bz_t (show m ≤ bK 7 from z)]
      · rw [if_pos (i.mpr (by omega)), bz_f (show ¬ m ≤ bK 7 from z)]
  unfold fX8_isOne
  rw [bd g1, if_neg hb6, g3]
  cases neg with
  | false => rw [if_pos (hge.mpr rfl)]; exact key
  | true => rw [if_neg (fun z => absurd (hge.mp z) (by decide)), sv_abs]; exact key
theorem one_lo {a b : Nat} {c : Int64} {neg : Bool} {M m : Nat} {p : Int} (h : Pt a c neg M p) (hm : Tp M m) (h1b : 1 ≤ b) (hb : b ≤ 5) (hp1 : -200 ≤ p) (hp2 : p + m ≤ 63) (μ : Mm) :
    ∃ μ1, EqA μ μ1 ∧ (p < 0 → fX8_isOne (nI a) c (nI b) μ = some (0, μ1)) ∧ (0 ≤ p → p + m ≤ 62 → fX8_isOne (nI a) c (nI b) μ = (fX8_fits (nI b) (sv neg (M * 2 ^ p.toNat))).bind fun r => if rbz r = true then some (r, μ1) else none) ∧ (0 ≤ p → p + m = 63 → fX8_isOne (nI a) c (nI b) μ = some (bz (b = 5 ∧ neg = true ∧ M = 1 ∧ p = 63), μ1)) := by
  obtain ⟨h1, h2, h3⟩ := h
  obtain ⟨μ', g1, g2, g3, g4⟩ := h3 μ
  have hm63 := hm.lt h2
  have hge := sv_ge (neg := neg) hm.pos (Nat.le_of_lt h2) (fun _ => h2)
  have hne := sv_ne (neg := neg) hm.pos (Nat.le_of_lt h2) (fun _ => h2)
  have hb6 : nI b < 6 := nI_lt (b := 6) (by omega) (by decide)
  have pge := iI_ge (p := p) (by omega) (by omega)
  have pre : 0 ≤ p → fX8_isOne (nI a) c (nI b) μ = fX8_isOne_b101 (nI b) (lN M) μ' := by
    intro hp
    unfold fX8_isOne
    rw [bd g1, if_pos hb6, g3, if_neg hne, g4, if_pos (pge.mpr hp)]
    cases neg with
    | false => rw [if_pos (hge.mpr rfl)]; rfl
    | true => rw [if_neg (fun z => absurd (hge.mp z) (by decide)), sv_abs]
  have hsum : nI (m + 1) + iI p = iI (m + 1 + p) := by rw [iI_n, iI_add]; congr 1
  have i63 := iI_le63 (p := m + 1 + p) (by omega) (by omega)
  refine ⟨μ', g2, fun hp => ?_, fun hp hs => ?_, fun hp hs => ?_⟩
  · unfold fX8_isOne
    rw [bd g1, if_pos hb6, g3, if_neg hne, g4, if_neg (fun z => by have := pge.mp z; omega)]
  · rw [pre hp]
    unfold fX8_isOne_b101
    have hpn : iI p = nI p.toNat := by rw [iI_n]; congr 1; omega
    rw [bd (len_of hm h2), g3, g4, hsum, if_pos (i63.mpr (by omega)), hpn, sv_shl neg M (by omega)]
  · rw [pre hp]
    unfold fX8_isOne_b101
    rw [bd (len_of hm h2), g3, g4, hsum, if_neg (fun z => by have := i63.mp z; omega)]
    have b5 : nI b = 5 ↔ b = 5 := nI_eq (b := 5) (by omega) (by decide)
    have p63 := iI_eq63 (p := p) (by omega) (by omega)
    have w1 : sv neg M = -1 ↔ neg = true ∧ M = 1 := by
      rw [← Int64.toInt_inj, sv_toInt (Nat.le_of_lt h2) (fun _ => h2), show (-1 : Int64).toInt = -1 from rfl]
      cases neg with
      | false =>
        refine ⟨fun z => ?_, fun z => absurd z.1 (by decide)⟩
        have : (M : Int) = -1 := z
        omega
      | true =>
        refine ⟨fun z => ⟨rfl, ?_⟩, fun z => ?_⟩
        · have : -(M : Int) = -1 := z
          omega
        · show -(M : Int) = -1
          omega
    by_cases z1 : b = 5
    · rw [if_pos (b5.mpr z1)]
      by_cases z2 : neg = true ∧ M = 1
      · rw [if_pos (w1.mpr z2)]
        by_cases z3 : p = 63
        · rw [if_pos (p63.mpr z3), bz_t ⟨z1, z2.1, z2.2, z3⟩]
        · rw [if_neg (fun y => z3 (p63.mp y)), bz_f (fun y => z3 y.2.2.2)]
      · rw [if_neg (fun y => z2 (w1.mp y)), bz_f (fun y => z2 ⟨y.2.1, y.2.2.1⟩)]
    · rw [if_neg (fun y => z1 (b5.mp y)), bz_f (fun y => z1 y.1)]
theorem as_lo {a b : Nat} {c : Int64} {neg : Bool} {M : Nat} {p : Int} (h : Pt a c neg M p) (hb : b ≤ 5) (hp : 0 ≤ p) (hp2 : p < 64) (μ : Mm) : ∃ μ1, fX8_asOne (nI a) c (nI b) μ = some (sv neg (M * 2 ^ p.toNat), μ1) ∧ EqA μ μ1 := by
  obtain ⟨h1, h2, h3⟩ := h
  obtain ⟨μ', g1, g2, g3, g4⟩ := h3 μ
  have hne := sv_ne (neg := neg) (show 0 < M by omega) (Nat.le_of_lt h2) (fun _ => h2)
  have hb6 : nI b < 6 := nI_lt (b := 6) (by omega) (by decide)
  have hpn : iI p = nI p.toNat := by rw [iI_n]; congr 1; omega
  refine ⟨μ', ?_, g2⟩
  unfold fX8_asOne
  rw [bd g1, if_pos hb6, g3, if_neg hne, g4, hpn, sv_shl neg M (by omega)]
theorem as_hi {a b : Nat} {c : Int64} {neg : Bool} {M m E : Nat} {p : Int} (h : Pt a c neg M p) (hm : Tp M m) (hb : b = 6 ∨ b = 7) (hE : (E : Int) = p + m + BK b - 1) (hE2 : E ≤ BK b + 62) (μ : Mm) : ∃ μ1, fX8_asOne (nI a) c (nI b) μ = some (SC b neg (E * 2 ^ bK b + rT (bK b) M m), μ1) ∧ EqA μ μ1 := by
  obtain ⟨h1, h2, h3⟩ := h
  obtain ⟨μ', g1, g2, g3, g4⟩ := h3 μ
  have hb6 : ¬ nI b < 6 := by rcases hb with rfl | rfl <;> decide
  refine ⟨μ', ?_, g2⟩
  unfold fX8_asOne
  rw [bd g1, if_neg hb6, g3, g4, rm_round hb (Nat.le_of_lt h2) (fun _ => h2) hm hE hE2, bd rfl]
