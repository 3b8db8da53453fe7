/-! THE READER, 1: letters, numbers -/
theorem idx_ind (μ μ' : Mm) : ∀ n a b c, fJ1_indexOfChar_4cfef_b7 μ n a b c = fJ1_indexOfChar_4cfef_b7 μ' n a b c := by
  intro n
  induction n with
  | zero => intro a b c; rfl
  | succ n ih =>
    intro a b c
    unfold fJ1_indexOfChar_4cfef_b7
    rw [ih]
theorem po_ind (p : Int32) (μ μ' : Mm) : fX3_primitiveOf p μ = fX3_primitiveOf p μ' := by
  unfold fX3_primitiveOf fJ0_indexOf_0f7a4 fJ0_indexOf_7cf53 fJ1_indexOf_4cfef fJ1_indexOfChar_4cfef
  simp only [idx_ind μ μ']
  rfl
theorem po_c : ∀ c, c < 256 → fX3_primitiveOf (nI c) μ0M = fX8_plainOf (nI c) ∧ (fX8_plainOf (nI c) = some (-9) ∨ ∃ k, k < 8 ∧ fX8_plainOf (nI c) = some (nI k)) := by decide +kernel
theorem at_c : ∀ c, c < 256 → fX8_rowKindOf (nI c) = some (-9) ∨ ∃ k, k < 13 ∧ fX8_rowKindOf (nI c) = some (nI k) ∧ (k < 8 ∨ k = 10 ∨ k = 11 ∨ k = 12) := by decide +kernel
theorem at_eq {c : Nat} (hc : c < 256) (μ : Mm) : fX3_arrayTypeOf (nI c) μ = fX8_rowKindOf (nI c) := by
  unfold fX3_arrayTypeOf fX8_rowKindOf
  rw [po_ind _ μ μ0M, (po_c c hc).1]
  by_cases h1 : nI c = 111
  · rw [if_pos h1, if_neg (by rw [h1]; decide), if_neg (by rw [h1]; decide), if_pos h1]
  · rw [if_neg h1]
    by_cases h2 : nI c = 116
    · rw [if_pos h2, if_pos h2]
    · rw [if_neg h2, if_neg h2]
      by_cases h3 : nI c = 119
      · rw [if_pos h3, if_pos h3]
      · rw [if_neg h3, if_neg h3, if_neg h1]
theorem po9 (μ : Mm) : fX3_primitiveOf (-9) μ = some (-9) := rfl
/-- the text on both sides -/
def Tx (μx μm : Mm) (n : Nat) (L : Nat → Int32) : Prop := n ≤ 60 ∧ μx.1 1 1 = nI n ∧ μm.1 0 1 = nI n ∧ ∀ j, j < n → μx.1 8 j = L j ∧ μm.1 1 j = L j ∧ ∃ c, c < 256 ∧ L j = nI c
def ltr (n : Nat) (L : Nat → Int32) (p : Nat) : Int32 := if p < n then L p else -9
theorem ltr_c {μx μm : Mm} {n : Nat} {L : Nat → Int32} (h : Tx μx μm n L) (p : Nat) : (ltr n L p = -9 ∧ n ≤ p) ∨ (p < n ∧ ∃ c, c < 256 ∧ ltr n L p = nI c) := by
  unfold ltr
  by_cases z : p < n
  · rw [if_pos z]
    exact Or.inr ⟨z, (h.2.2.2 p z).2.2⟩
  · rw [if_neg z]
    exact Or.inl ⟨rfl, by omega⟩
theorem x_letter {μx μm : Mm} {n p : Nat} {L : Nat → Int32} (h : Tx μx μm n L) (h6 : μx.1 1 6 = nI p) (hp : p ≤ n) : fX3_letter μx = some (ltr n L p) := by
  obtain ⟨h1, h2, h3, h4⟩ := h
  unfold fX3_letter ltr
  rw [h2, h6]
  by_cases z : p < n
  · rw [if_neg (nI_ge z (by omega)), if_pos (inb_nI (show p < 60 by omega) (by decide)), cl (by omega), if_pos z, (h4 p z).1]
  · rw [if_pos (nI_le (by omega) (by omega)), if_neg z]
theorem m_letter {μx μm : Mm} {n p : Nat} {L : Nat → Int32} (h : Tx μx μm n L) (h6 : μm.1 0 44 = nI p) (hp : p ≤ n) : fX8_letter μm = some (ltr n L p) := by
  obtain ⟨h1, h2, h3, h4⟩ := h
  unfold fX8_letter ltr
  rw [h3, h6]
  by_cases z : p < n
  · rw [if_neg (nI_ge z (by omega)), if_pos (inb_nI (show p < 60 by omega) (by decide)), cl (by omega), if_pos z, (h4 p z).2.1]
  · rw [if_pos (nI_le (by omega) (by omega)), if_neg z]
/-! frames: only the place has changed -/
def FX (μ μ' : Mm) : Prop := (∀ o j, ¬ (o = 1 ∧ j = 6) → μ'.1 o j = μ.1 o j) ∧ μ'.2 = μ.2
def FM (μ μ' : Mm) : Prop := (∀ o j, ¬ (o = 0 ∧ j = 44) → μ'.1 o j = μ.1 o j) ∧ μ'.2 = μ.2
theorem FX.rf {μ : Mm} : FX μ μ := ⟨fun _ _ _ => rfl, rfl⟩
theorem FM.rf {μ : Mm} : FM μ μ := ⟨fun _ _ _ => rfl, rfl⟩
theorem FX.w {μ μ1 : Mm} (h : FX μ μ1) (v : Int32) : FX μ (wI μ1 1 6 v) := ⟨fun o j hj => by rw [wI_1, if_neg hj]; exact h.1 o j hj, h.2⟩
theorem FM.w {μ μ1 : Mm} (h : FM μ μ1) (v : Int32) : FM μ (wI μ1 0 44 v) := ⟨fun o j hj => by rw [wI_1, if_neg hj]; exact h.1 o j hj, h.2⟩
theorem Tx.f {μx μm μx' μm' : Mm} {n : Nat} {L : Nat → Int32} (h : Tx μx μm n L) (hx : FX μx μx') (hm : FM μm μm') : Tx μx' μm' n L := by
  obtain ⟨h1, h2, h3, h4⟩ := h
  refine ⟨h1, by rw [hx.1 1 1 (by omega)]; exact h2, by rw [hm.1 0 1 (by omega)]; exact h3, fun j hj => ?_⟩
  rw [hx.1 8 j (by omega), hm.1 1 j (by omega)]
  exact h4 j hj
/-! numbers that are read -/
def VV (κ : Nat) (x : Int64) : Prop := (κ < 6 → VC κ x) ∧ (κ = 10 → ∃ j, j < 10000 ∧ x = lN j)
theorem bt {κ : Nat} (hκ : κ < 8 ∨ κ = 10) (x : Int64) : ∃ w : Bool, fX2_isBetween x (nI κ) = some (bz (w = true)) ∧ fX8_isNumber (nI κ) x = some (bz (w = true)) ∧ (w = true → VV κ x) := by
  have key : ∀ (lo hi : Int64), (lo ≤ x ∧ x ≤ hi) ↔ (decide (lo ≤ x ∧ x ≤ hi) = true) := fun lo hi => decide_eq_true_iff.symm
  have l1 : (-9223372036854775808 : Int64) ≤ x := by
    rw [Int64.le_iff_toInt_le]
    have := Int64.le_toInt x
    have e : (-9223372036854775808 : Int64).toInt = -9223372036854775808 := by decide
    omega
  have l2 : x ≤ (9223372036854775807 : Int64) := by
    rw [Int64.le_iff_toInt_le]
    have := Int64.toInt_lt x
    have e : (9223372036854775807 : Int64).toInt = 9223372036854775807 := by decide
    omega
  by_cases h0 : κ = 0
  · subst h0
    refine ⟨decide ((0 : Int64) ≤ x ∧ x ≤ 1), ?_, ?_, fun w => ⟨fun _ => ?_, fun z => absurd z (by decide)⟩⟩
    · have : fX2_isBetween x (nI 0) = (if x < (0 : Int64) then some (0 : Int32) else if (1 : Int64) < x then some (0 : Int32) else some (1 : Int32)) := rfl
      rw [this, bw64, bz_c (key _ _)]
    · have : fX8_isNumber (nI 0) x = (((fX8_in x 0 1).bind fun r50 => if rbz r50 = true then some r50 else none).bind fun r19 => if rbz r19 = true then some r19 else none) := rfl
      rw [this, in64, bd rfl, if_pos (rbz_bz _), bd rfl, if_pos (rbz_bz _), bz_c (key _ _)]
    · have := of_decide_eq_true w
      rw [Int64.le_iff_toInt_le, Int64.le_iff_toInt_le] at this
      have e0 : (0 : Int64).toInt = 0 := rfl
      have e1 : (1 : Int64).toInt = 1 := rfl
      show x = 0 ∨ x = 1
      have hx : x.toInt = 0 ∨ x.toInt = 1 := by omega
      rcases hx with y | y
      · left; exact Int64.toInt_inj.mp (y.trans e0.symm)
      · right; exact Int64.toInt_inj.mp (y.trans e1.symm)
  · by_cases h5 : κ ≤ 5
    · obtain ⟨w, w1, w2, w3⟩ := fits_b (show 1 ≤ κ by omega) h5 x
      refine ⟨w, w2, ?_, fun hw => ⟨fun _ => w3.mp hw, fun z => by omega⟩⟩
      unfold fX8_isNumber
      rw [if_neg (show ¬ nI κ = 10 from nI_ne (b := 10) (by omega) (by decide) (by omega)), bd w1, if_pos (rbz_bz _)]
    · by_cases h10 : κ = 10
      · subst h10
        refine ⟨decide ((0 : Int64) ≤ x ∧ x ≤ 9999), ?_, ?_, fun w => ⟨fun z => absurd z (by decide), fun _ => ?_⟩⟩
        · have : fX2_isBetween x (nI 10) = (if x < (0 : Int64) then some (0 : Int32) else if (9999 : Int64) < x then some (0 : Int32) else some (1 : Int32)) := rfl
          rw [this, bw64, bz_c (key _ _)]
        · have : fX8_isNumber (nI 10) x = ((fX8_in x 0 9999).bind fun r11 => if rbz r11 = true then some r11 else none) := rfl
          rw [this, in64, bd rfl, if_pos (rbz_bz _), bz_c (key _ _)]
        · have := of_decide_eq_true w
          obtain ⟨j, hj, e⟩ := pk_lOf (Int64.not_lt.mpr this.1)
          refine ⟨j, ?_, e⟩
          have h2 := this.2
          rw [e] at h2
          have := (pk_lLE (b := 9999) hj (by decide)).mp h2
          omega
      · have h67 : κ = 6 ∨ κ = 7 := by omega
        refine ⟨true, ?_, ?_, fun _ => ⟨fun z => by omega, fun z => by omega⟩⟩
        · have : fX2_isBetween x (nI κ) = (if x < (-9223372036854775808 : Int64) then some (0 : Int32) else if (9223372036854775807 : Int64) < x then some (0 : Int32) else some (1 : Int32)) := by
            rcases h67 with rfl | rfl <;> rfl
          rw [this, bw64, bz_t ⟨l1, l2⟩, bz_t rfl]
        · rcases h67 with rfl | rfl <;> rfl
theorem dg_c : ∀ c, c < 256 → fX3_isDigit (nI c) = some (bz (48 ≤ c ∧ c ≤ 57)) ∧ fX8_in (Int32.toInt64 (nI c - 48)) 0 9 = some (bz (48 ≤ c ∧ c ≤ 57)) := by decide +kernel
theorem dg_n : ∀ d, d < 10 → (-(nI d)).toInt64 = -(lN d) := by decide +kernel
theorem sv_next (neg : Bool) (v : Nat) {d : Nat} (hd : d < 10) : sv neg v * 10 + (if neg = true then -(nI d) else nI d).toInt64 = sv neg (10 * v + d) := by
  cases neg with
  | false =>
    show lN v * 10 + (nI d).toInt64 = lN (10 * v + d)
    rw [nI_l (by omega), show (10 : Int64) = lN 10 from rfl, lN_mul, lN_add, Nat.mul_comm]
  | true =>
    show -(lN v) * 10 + (-(nI d)).toInt64 = -(lN (10 * v + d))
    rw [dg_n d hd, show (10 : Int64) = lN 10 from rfl, Int64.neg_mul, lN_mul, ← lN_add, Int64.neg_add, Int64.sub_eq_add_neg, Nat.mul_comm]
theorem sv_0 {neg : Bool} {v : Nat} (hv : v < 2 ^ 62) : sv neg v = 0 ↔ v = 0 := by
  constructor
  · intro z
    apply Decidable.byContradiction
    intro y
    exact sv_ne (neg := neg) (show 0 < v by omega) (by omega) (fun _ => by omega) z
  · intro z
    subst z
    cases neg with
    | false => rfl
    | true => rfl
/-- the reference's number ends -/
theorem m_rs {κ : Int32} {neg : Bool} {d v p : Nat} {th : Int64} {μ : Mm} (h44 : μ.1 0 44 = nI p) (f : Nat) : fX8_readNumber_b171 (fX8_readNumber_b67 (f + 1)) κ (bz (neg = true)) (nI d) (lN v) th μ = fX8_readNumber_b238 (nI d) (sv neg v) (wI μ 0 44 (nI p)) := by
  unfold fX8_readNumber_b171 fX8_readNumber_b172 fX8_readNumber_b186 fX8_readNumber_b200 fX8_readNumber_b218
  rw [if_pos rfl, if_pos rfl, if_pos rfl, h44, Int32.add_zero, Int32.add_zero, fX8_readNumber_b67, if_pos rfl]
  cases neg with
  | false => rw [bz_f (by decide), if_pos rfl]; rfl
  | true => rw [bz_t rfl, if_neg one_ne]; rfl
theorem rn_loop {μxb μmb : Mm} {n κ : Nat} {L : Nat → Int32} {neg : Bool} (hTx : Tx μxb μmb n L) (hκ : κ < 8 ∨ κ = 10) :
    ∀ m f d v p (μx μm : Mm), d + m = 9 → m + 2 < f → v < 10 ^ d → FX μxb μx → FM μmb μm → μx.1 1 6 = nI p → μm.1 0 44 = nI p → p ≤ n → (0 < d → VV κ (sv neg v)) →
    ∃ d' v' p' μx' μm', fX3_readNumber_b29 f (nI κ) (bz (neg = true)) (sv neg v) (nI d) μx = fX3_readNumber_b139 (nI κ) (sv neg v') (nI d') μx' ∧ fX8_readNumber_b67 f (nI κ) (bz (neg = true)) (nI d) (lN v) 1 μm = fX8_readNumber_b238 (nI d') (sv neg v') μm' ∧ FX μxb μx' ∧ FM μmb μm' ∧ μx'.1 1 6 = nI p' ∧ μm'.1 0 44 = nI p' ∧ p' ≤ n ∧ d' ≤ 9 ∧ (0 < d' → VV κ (sv neg v')) := by
  intro m
  induction m with
  | zero =>
    intro f d v p μx μm he hf hv hX hM h6 h44 hp hV
    obtain ⟨f, rfl⟩ : ∃ g, f = g + 1 + 1 := ⟨f - 2, by omega⟩
    have hd : d = 9 := by omega
    subst hd
    refine ⟨9, v, p, μx, wI μm 0 44 (nI p), ?_, ?_, hX, hM.w _, h6, rfl, hp, Nat.le_refl _, hV⟩
    · rw [fX3_readNumber_b29, if_pos (by decide)]
    · rw [fX8_readNumber_b67, if_neg one_ne, bd (m_letter (hTx.f hX hM) h44 hp)]
      have hin : ∃ w : Int32, fX8_in (Int32.toInt64 (ltr n L p - 48)) 0 9 = some w := ⟨_, in64 _ _ _⟩
      obtain ⟨w, hw⟩ := hin
      rw [bd hw, if_pos (show (9 : Int32) ≤ nI 9 by decide), ite_self]
      unfold fX8_readNumber_b140 fX8_readNumber_b141
      rw [if_pos rfl]
      exact m_rs h44 f
  | succ m ih =>
    intro f d v p μx μm he hf hv hX hM h6 h44 hp hV
    obtain ⟨f, rfl⟩ : ∃ g, f = g + 1 + 1 := ⟨f - 2, by omega⟩
    have hl := x_letter (hTx.f hX hM) h6 hp
    have hlm := m_letter (hTx.f hX hM) h44 hp
    have n9 : ¬ (9 : Int32) ≤ nI d := nI_ge (b := 9) (by omega) (by decide)
    have hv62 : v < 2 ^ 62 := Nat.lt_of_lt_of_le hv (Nat.le_trans (Nat.pow_le_pow_right (by decide) (show d ≤ 9 by omega)) (by decide))
    -- both end here
    have stop : ∀ th, fX3_readNumber_b29 (f + 1 + 1) (nI κ) (bz (neg = true)) (sv neg v) (nI d) μx = fX3_readNumber_b139 (nI κ) (sv neg v) (nI d) μx → fX8_readNumber_b67 (f + 1 + 1) (nI κ) (bz (neg = true)) (nI d) (lN v) 1 μm = fX8_readNumber_b171 (fX8_readNumber_b67 (f + 1)) (nI κ) (bz (neg = true)) (nI d) (lN v) th μm →
        ∃ d' v' p' μx' μm', fX3_readNumber_b29 (f + 1 + 1) (nI κ) (bz (neg = true)) (sv neg v) (nI d) μx = fX3_readNumber_b139 (nI κ) (sv neg v') (nI d') μx' ∧ fX8_readNumber_b67 (f + 1 + 1) (nI κ) (bz (neg = true)) (nI d) (lN v) 1 μm = fX8_readNumber_b238 (nI d') (sv neg v') μm' ∧ FX μxb μx' ∧ FM μmb μm' ∧ μx'.1 1 6 = nI p' ∧ μm'.1 0 44 = nI p' ∧ p' ≤ n ∧ d' ≤ 9 ∧ (0 < d' → VV κ (sv neg v')) := by
      intro th hx hm
      exact ⟨d, v, p, μx, wI μm 0 44 (nI p), hx, hm.trans (m_rs h44 f), hX, hM.w _, h6, rfl, hp, by omega, hV⟩
    have xpre : fX3_readNumber_b29 (f + 1 + 1) (nI κ) (bz (neg = true)) (sv neg v) (nI d) μx = ((fX3_isDigit (ltr n L p)).bind fun r40 => (if r40 = 0 then fX3_readNumber_b139 (nI κ) (sv neg v) (nI d) μx else (if bz (neg = true) = 0 then fX3_readNumber_b72 (fX3_readNumber_b29 (f + 1)) (nI κ) (bz (neg = true)) (sv neg v) (nI d) (ltr n L p - (48 : Int32)) (ltr n L p - (48 : Int32)) (sv neg v * (10 : Int64)) μx else fX3_readNumber_b72 (fX3_readNumber_b29 (f + 1)) (nI κ) (bz (neg = true)) (sv neg v) (nI d) (ltr n L p - (48 : Int32)) (-(ltr n L p - (48 : Int32))) (sv neg v * (10 : Int64)) μx))) := by
      rw [fX3_readNumber_b29, if_neg n9, bd hl]
      congr 1
      funext r40
      rw [bd hl]
    have mpre : fX8_readNumber_b67 (f + 1 + 1) (nI κ) (bz (neg = true)) (nI d) (lN v) 1 μm = ((fX8_in (Int32.toInt64 (ltr n L p - (48 : Int32))) (0 : Int64) (9 : Int64)).bind fun r100 => (if r100 = 0 then fX8_readNumber_b140 (fX8_readNumber_b67 (f + 1)) (nI κ) (bz (neg = true)) (nI d) (lN v) (((10 : Int64) * lN v) + (Int32.toInt64 (ltr n L p - (48 : Int32)))) μm else (if nI d ≤ 0 then fX8_readNumber_b125 (fX8_readNumber_b67 (f + 1)) (nI κ) (bz (neg = true)) (nI d) (lN v) (((10 : Int64) * lN v) + (Int32.toInt64 (ltr n L p - (48 : Int32)))) μm else (if lN v = (0 : Int64) then fX8_readNumber_b140 (fX8_readNumber_b67 (f + 1)) (nI κ) (bz (neg = true)) (nI d) (lN v) (((10 : Int64) * lN v) + (Int32.toInt64 (ltr n L p - (48 : Int32)))) μm else fX8_readNumber_b125 (fX8_readNumber_b67 (f + 1)) (nI κ) (bz (neg = true)) (nI d) (lN v) (((10 : Int64) * lN v) + (Int32.toInt64 (ltr n L p - (48 : Int32)))) μm)))) := by
      rw [fX8_readNumber_b67, if_neg one_ne, bd hlm]
      congr 1
      funext r100
      rw [if_neg n9]
    have b140 : ∀ th, fX8_readNumber_b140 (fX8_readNumber_b67 (f + 1)) (nI κ) (bz (neg = true)) (nI d) (lN v) th μm = fX8_readNumber_b171 (fX8_readNumber_b67 (f + 1)) (nI κ) (bz (neg = true)) (nI d) (lN v) th μm := by
      intro th
      unfold fX8_readNumber_b140 fX8_readNumber_b141
      rw [if_pos rfl]
    rcases ltr_c hTx p with ⟨z, hnp⟩ | ⟨hpn, c, hc, z⟩
    · refine stop (((10 : Int64) * lN v) + (Int32.toInt64 (ltr n L p - (48 : Int32)))) ?_ ?_
      · rw [xpre, z]; rfl
      · rw [mpre, ← b140, z]; rfl
    · obtain ⟨dg1, dg2⟩ := dg_c c hc
      by_cases hdig : 48 ≤ c ∧ c ≤ 57
      · obtain ⟨g, hg, rfl⟩ : ∃ g, g < 10 ∧ c = g + 48 := ⟨c - 48, by omega, by omega⟩
        have hsub : nI (g + 48) - 48 = nI g := by rw [show (48 : Int32) = nI 48 from rfl, pk_sub (by omega), Nat.add_sub_cancel]
        have hnext := sv_next neg v hg
        have hthen : (10 : Int64) * lN v + (nI g).toInt64 = lN (10 * v + g) := by rw [nI_l (by omega), show (10 : Int64) = lN 10 from rfl, lN_mul, lN_add]
        have xpre2 : fX3_readNumber_b29 (f + 1 + 1) (nI κ) (bz (neg = true)) (sv neg v) (nI d) μx = fX3_readNumber_b72 (fX3_readNumber_b29 (f + 1)) (nI κ) (bz (neg = true)) (sv neg v) (nI d) (nI g) (if neg = true then -(nI g) else nI g) (sv neg v * (10 : Int64)) μx := by
          rw [xpre, z, bd dg1, bz_t hdig, if_neg one_ne, hsub]
          cases neg with
          | false => rw [bz_f (by decide), if_pos rfl]; rfl
          | true => rw [bz_t rfl, if_neg one_ne]; rfl
        rw [z, bd dg2, bz_t hdig, if_neg one_ne, hsub, hthen] at mpre
        have hd0 : nI d ≤ 0 ↔ d = 0 := by
          constructor
          · intro y
            apply Decidable.byContradiction
            intro w
            exact nI_nle (by omega) (by omega) y
          · intro y; rw [y]; decide
        have hd0' : (0 : Int32) < nI d ↔ 0 < d := nI_ltI (a := 0) (by decide) (by omega)
        have hlv0 : lN v = 0 ↔ v = 0 := pk_lEQ (b := 0) (by omega) (by decide)
        have hw62 : 10 * v + g < 2 ^ 63 := by
          have : v < 10 ^ 8 := Nat.lt_of_lt_of_le hv (Nat.pow_le_pow_right (by decide) (show d ≤ 8 by omega))
          omega
        have hlw0 : lN (10 * v + g) = 0 ↔ 10 * v + g = 0 := pk_lEQ (b := 0) hw62 (by decide)
        have b96 : fX3_readNumber_b96 (fX3_readNumber_b29 (f + 1)) (nI κ) (bz (neg = true)) (sv neg v) (nI d) (sv neg v * 10 + (if neg = true then -(nI g) else nI g).toInt64) μx = fX3_readNumber_b139 (nI κ) (sv neg v) (nI d) μx := by
          unfold fX3_readNumber_b96 fX3_readNumber_b101
          rw [if_neg one_ne]
        -- a zero in front: both end
        by_cases hzero : v = 0 ∧ (0 < d ∨ (neg = true ∧ g = 0))
        · refine stop (lN (10 * v + g)) ?_ ?_
          · rw [xpre2]
            unfold fX3_readNumber_b72
            rw [if_pos ((sv_0 hv62).mpr hzero.1)]
            by_cases y : 0 < d
            · rw [if_pos (hd0'.mpr y), b96]
            · have y2 : neg = true ∧ g = 0 := by
                rcases hzero.2 with w | w
                · exact absurd w y
                · exact w
              rw [if_neg (fun w => y (hd0'.mp w)), if_neg (show ¬ bz (neg = true) = 0 by rw [bz_t y2.1]; decide), if_pos (show nI g = 0 by rw [y2.2]; rfl), b96]
          · rw [mpre]
            by_cases y : 0 < d
            · rw [if_neg (fun w => by have := hd0.mp w; omega), if_pos (hlv0.mpr hzero.1), b140]
            · have y2 : neg = true ∧ g = 0 := by
                rcases hzero.2 with w | w
                · exact absurd w y
                · exact w
              rw [if_pos (hd0.mpr (by omega))]
              unfold fX8_readNumber_b125
              rw [if_neg (show ¬ bz (neg = true) = 0 by rw [bz_t y2.1]; decide), if_pos (hlw0.mpr (by omega)), b140]
        · -- the digit is tried
          have xb100 : fX3_readNumber_b29 (f + 1 + 1) (nI κ) (bz (neg = true)) (sv neg v) (nI d) μx = ((fX2_isBetween (sv neg (10 * v + g)) (nI κ)).bind fun r111 => (if r111 = 0 then fX3_readNumber_b139 (nI κ) (sv neg v) (nI d) μx else fX3_readNumber_b29 (f + 1) (nI κ) (bz (neg = true)) (sv neg (10 * v + g)) (nI (d + 1)) (wI μx 1 6 (nI (p + 1))))) := by
            have b100 : fX3_readNumber_b100 (fX3_readNumber_b29 (f + 1)) (nI κ) (bz (neg = true)) (sv neg v) (nI d) (sv neg v * 10 + (if neg = true then -(nI g) else nI g).toInt64) μx = ((fX2_isBetween (sv neg (10 * v + g)) (nI κ)).bind fun r111 => (if r111 = 0 then fX3_readNumber_b139 (nI κ) (sv neg v) (nI d) μx else fX3_readNumber_b29 (f + 1) (nI κ) (bz (neg = true)) (sv neg (10 * v + g)) (nI (d + 1)) (wI μx 1 6 (nI (p + 1))))) := by
              unfold fX3_readNumber_b100 fX3_readNumber_b101
              rw [if_pos rfl, hnext, h6, nI_1, nI_1]
            rw [xpre2, ← b100]
            unfold fX3_readNumber_b72
            by_cases hv0 : v = 0
            · have y1 : ¬ 0 < d := fun w => hzero ⟨hv0, Or.inl w⟩
              rw [if_pos ((sv_0 hv62).mpr hv0), if_neg (fun w => y1 (hd0'.mp w))]
              by_cases hneg : neg = true
              · have hg0 : ¬ g = 0 := fun w => hzero ⟨hv0, Or.inr ⟨hneg, w⟩⟩
                rw [if_neg (show ¬ bz (neg = true) = 0 by rw [bz_t hneg]; decide), if_neg (show ¬ nI g = 0 from nI_ne (b := 0) (by omega) (by decide) hg0)]
              · rw [if_pos (bz_f hneg)]
            · rw [if_neg (fun w => hv0 ((sv_0 hv62).mp w))]
          have mb136 : fX8_readNumber_b67 (f + 1 + 1) (nI κ) (bz (neg = true)) (nI d) (lN v) 1 μm = fX8_readNumber_b136 (fX8_readNumber_b67 (f + 1)) (nI κ) (bz (neg = true)) (nI d) (lN v) (lN (10 * v + g)) μm := by
            have b125 : fX8_readNumber_b125 (fX8_readNumber_b67 (f + 1)) (nI κ) (bz (neg = true)) (nI d) (lN v) (lN (10 * v + g)) μm = fX8_readNumber_b136 (fX8_readNumber_b67 (f + 1)) (nI κ) (bz (neg = true)) (nI d) (lN v) (lN (10 * v + g)) μm := by
              unfold fX8_readNumber_b125
              by_cases hneg : neg = true
              · have hw0 : ¬ 10 * v + g = 0 := fun w => hzero ⟨by omega, Or.inr ⟨hneg, by omega⟩⟩
                rw [if_neg (show ¬ bz (neg = true) = 0 by rw [bz_t hneg]; decide), if_neg (fun w => hw0 (hlw0.mp w))]
              · rw [if_pos (bz_f hneg)]
            rw [mpre]
            by_cases y : d = 0
            · rw [if_pos (hd0.mpr y), b125]
            · have hv0 : ¬ v = 0 := fun w => hzero ⟨w, Or.inl (by omega)⟩
              rw [if_neg (fun w => y (hd0.mp w)), if_neg (fun w => hv0 (hlv0.mp w)), b125]
          obtain ⟨w, w1, w2, w3⟩ := bt hκ (sv neg (10 * v + g))
          have mb : fX8_readNumber_b67 (f + 1 + 1) (nI κ) (bz (neg = true)) (nI d) (lN v) 1 μm = (if bz (w = true) = 0 then fX8_readNumber_b171 (fX8_readNumber_b67 (f + 1)) (nI κ) (bz (neg = true)) (nI d) (lN v) (lN (10 * v + g)) μm else fX8_readNumber_b67 (f + 1) (nI κ) (bz (neg = true)) (nI (d + 1)) (lN (10 * v + g)) 1 (wI μm 0 44 (nI (p + 1)))) := by
            rw [mb136]
            unfold fX8_readNumber_b136 fX8_readNumber_b141
            rw [if_neg one_ne]
            have b161 : fX8_readNumber_b161 (fX8_readNumber_b67 (f + 1)) (nI κ) (bz (neg = true)) (nI d) (lN v) (lN (10 * v + g)) (sv neg (10 * v + g)) (nI κ) μm = (if bz (w = true) = 0 then fX8_readNumber_b171 (fX8_readNumber_b67 (f + 1)) (nI κ) (bz (neg = true)) (nI d) (lN v) (lN (10 * v + g)) μm else fX8_readNumber_b67 (f + 1) (nI κ) (bz (neg = true)) (nI (d + 1)) (lN (10 * v + g)) 1 (wI μm 0 44 (nI (p + 1)))) := by
              unfold fX8_readNumber_b161
              rw [bd w2]
              congr 1
              unfold fX8_readNumber_b172 fX8_readNumber_b186 fX8_readNumber_b200 fX8_readNumber_b218
              rw [if_neg one_ne, if_neg one_ne, if_neg one_ne, h44, nI_1, nI_1]
            rw [← b161]
            cases neg with
            | false => rw [bz_f (by decide), if_pos rfl]; rfl
            | true => rw [bz_t rfl, if_neg one_ne]; rfl
          rw [bd w1] at xb100
          cases w with
          | false =>
            rw [bz_f (c := false = true) (by decide), if_pos rfl] at xb100 mb
            exact stop _ xb100 mb
          | true =>
            rw [bz_t (c := true = true) rfl, if_neg one_ne] at xb100 mb
            rw [xb100, mb]
            exact ih (f + 1) (d + 1) (10 * v + g) (p + 1) (wI μx 1 6 (nI (p + 1))) (wI μm 0 44 (nI (p + 1))) (by omega) (by omega) (by rw [Nat.pow_succ]; omega) (hX.w _) (hM.w _) rfl rfl (by omega) (fun _ => w3 rfl)
      · refine stop (((10 : Int64) * lN v) + (Int32.toInt64 (ltr n L p - (48 : Int32)))) ?_ ?_
        · rw [xpre, z, bd dg1, bz_f hdig, if_pos rfl]
        · rw [mpre, ← b140, z, bd dg2, bz_f hdig, if_pos rfl]
