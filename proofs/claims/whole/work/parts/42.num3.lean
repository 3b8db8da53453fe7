/-! NUMBERS 3: a number taken apart -/
def EqA (μ μ' : Mm) : Prop := (∀ o k, ¬ (o = 0 ∧ k = 43) → μ'.1 o k = μ.1 o k) ∧ ∀ o k, ¬ (o = 0 ∧ k = 42) → μ'.2 o k = μ.2 o k
theorem EqA.rf {μ : Mm} : EqA μ μ := ⟨fun _ _ _ => rfl, fun _ _ _ => rfl⟩
theorem EqA.tr {μ μ1 μ2 : Mm} (h : EqA μ μ1) (h2 : EqA μ1 μ2) : EqA μ μ2 := ⟨fun o k hk => (h2.1 o k hk).trans (h.1 o k hk), fun o k hk => (h2.2 o k hk).trans (h.2 o k hk)⟩
theorem EqA.w {μ : Mm} {v : Int32} {x : Int64} : EqA μ (wI (wL μ 0 42 x) 0 43 v) := by
  refine ⟨fun o k hk => ?_, fun o k hk => ?_⟩
  · rw [wI_1, if_neg hk, wL_1]
  · rw [wI_2, wL_2, if_neg hk]
theorem EqA.wl {μ : Mm} {x : Int64} : EqA μ (wL μ 0 42 x) := ⟨fun _ _ _ => rfl, fun o k hk => by rw [wL_2, if_neg hk]⟩
theorem EqA.m {μ μ' : Mm} (h : EqA μ μ') : EqM μ μ' := by
  refine ⟨fun o k hk => h.1 o k (fun z => ?_), fun o k hk => h.2 o k (fun z => ?_)⟩
  · rw [z.1, z.2] at hk
    exact absurd hk (by decide)
  · rw [z.1, z.2] at hk
    exact absurd hk (by decide)
theorem lN_eqm {a b : Nat} (h : lN a = lN b) : a % 2 ^ 64 = b % 2 ^ 64 := by
  have := congrArg (fun x : Int64 => x.toBitVec.toNat) h
  exact this
theorem sv_l {neg : Bool} {N : Nat} (hN : N ≤ 2 ^ 63) (h0 : 0 < N) : sv neg N = lN (if neg = true then 2 ^ 64 - N else N) := by
  cases neg with
  | false => rfl
  | true =>
    apply Int64.toInt_inj.mp
    show (-(lN N)).toInt = (lN (2 ^ 64 - N)).toInt
    rw [show (-(lN N)).toInt = -(N : Int) from Int64.toInt_neg_ofNat_of_le hN, lN_ti (by omega), if_neg (by omega)]
    omega
theorem sv_mul2 (neg : Bool) (N : Nat) : sv neg N * 2 = sv neg (N * 2) := by
  cases neg with
  | false => exact lN_mul N 2
  | true =>
    show -(lN N) * 2 = -(lN (N * 2))
    rw [Int64.neg_mul, show (2 : Int64) = lN 2 from rfl, lN_mul]
theorem sv_div2 {neg : Bool} {N : Nat} (hN : N * 2 ≤ 2 ^ 63) (hp : neg = false → N * 2 < 2 ^ 63) : jldiv (sv neg (N * 2)) 2 = sv neg N := by
  unfold jldiv
  apply Int64.toInt_inj.mp
  rw [Int64.toInt_div_of_ne_right _ _ (by decide), sv_toInt hN hp, sv_toInt (by omega) (fun z => by have := hp z; omega), show (2 : Int64).toInt = 2 from rfl]
  cases neg with
  | false =>
    show (((N * 2 : Nat) : Int)).tdiv 2 = (N : Int)
    rw [Int.natCast_mul]
    exact Int.mul_tdiv_cancel _ (by decide)
  | true =>
    show (-((N * 2 : Nat) : Int)).tdiv 2 = -(N : Int)
    rw [Int.natCast_mul, ← Int.neg_mul]
    exact Int.mul_tdiv_cancel _ (by decide)
theorem sv_rem0 {neg : Bool} {N : Nat} (hN : N * 2 ≤ 2 ^ 63) (hp : neg = false → N * 2 < 2 ^ 63) : jlrem (sv neg (N * 2)) 2 = 0 := by
  have := sv_div2 hN hp
  unfold jldiv at this
  unfold jlrem
  rw [this, sv_mul2, Int64.sub_self]
theorem sv_rem1 {neg : Bool} {N : Nat} (hN : N ≤ 2 ^ 63) (h1 : N % 2 = 1) : ¬ jlrem (sv neg N) 2 = 0 := by
  intro z
  unfold jlrem at z
  have e : sv neg N = sv neg N / 2 * 2 := by
    have h2 : sv neg N - sv neg N / 2 * 2 + sv neg N / 2 * 2 = 0 + sv neg N / 2 * 2 := by rw [z]
    rw [Int64.sub_add_cancel, Int64.zero_add] at h2
    exact h2
  obtain ⟨m, hm, em⟩ := wb_of (sv neg N / 2)
  rw [em, sv_l hN (by omega), show (2 : Int64) = lN 2 from rfl, lN_mul] at e
  have := lN_eqm e
  split at this <;> omega
theorem ta_loop {neg : Bool} {M : Nat} (hM : M % 2 = 1) : ∀ j n i (μ : Mm) (p : Int), M * 2 ^ j ≤ 2 ^ 63 → (neg = false → M * 2 ^ j < 2 ^ 63) → μ.2 0 42 = sv neg (M * 2 ^ j) → μ.1 0 43 = iI p → i + j < 64 → j < n →
    ∃ μ', fX8_takeApart_b185 n (nI i) μ = some μ' ∧ EqA μ μ' ∧ μ'.2 0 42 = sv neg M ∧ μ'.1 0 43 = iI (p + j) := by
  intro j
  induction j with
  | zero =>
    intro n i μ p hN hp e42 e43 hi hn
    obtain ⟨m, rfl⟩ : ∃ m, n = m + 1 := ⟨n - 1, by omega⟩
    rw [Nat.pow_zero, Nat.mul_one] at hN hp e42
    refine ⟨μ, ?_, EqA.rf, e42, by rw [e43]; congr 1; omega⟩
    unfold fX8_takeApart_b185
    rw [if_neg (show ¬ (64 : Int32) ≤ nI i from nI_ge (b := 64) (by omega) (by decide)), e42, if_neg (sv_ne (by omega) hN hp), if_neg (sv_rem1 hN hM)]
  | succ j ih =>
    intro n i μ p hN hp e42 e43 hi hn
    obtain ⟨m, rfl⟩ : ∃ m, n = m + 1 := ⟨n - 1, by omega⟩
    rw [Nat.pow_succ, ← Nat.mul_assoc] at hN hp e42
    have h0 : 0 < M * 2 ^ j := Nat.mul_pos (by omega) (p2 j)
    obtain ⟨μ', g1, g2, g3, g4⟩ := ih m (i + 1) (wI (wL μ 0 42 (sv neg (M * 2 ^ j))) 0 43 (iI p + 1)) (p + 1) (by omega) (fun z => by have := hp z; omega) (by rw [wI_2, wL_2, if_pos ⟨rfl, rfl⟩]) (by rw [wI_1, if_pos ⟨rfl, rfl⟩]; exact iI_add p 1) (by omega) (by omega)
    refine ⟨μ', ?_, EqA.w.tr g2, g3, by rw [g4]; congr 1; omega⟩
    unfold fX8_takeApart_b185
    rw [if_neg (show ¬ (64 : Int32) ≤ nI i from nI_ge (b := 64) (by omega) (by decide)), e42, if_neg (sv_ne (by omega) hN hp), if_pos (sv_rem0 hN hp), sv_div2 hN hp, nI_1, wL_1, e43]
    exact g1
theorem ta_zero {μ : Mm} (h : μ.2 0 42 = 0) (i : Nat) (hi : i < 64) (n : Nat) : fX8_takeApart_b185 (n + 1) (nI i) μ = some μ := by
  unfold fX8_takeApart_b185
  rw [if_neg (show ¬ (64 : Int32) ≤ nI i from nI_ge (b := 64) (by omega) (by decide)), if_pos h]
theorem odd_ex {N : Nat} (h : 0 < N) : ∃ M j, N = M * 2 ^ j ∧ M % 2 = 1 := by
  induction N using Nat.strongRecOn with
  | _ N ih =>
    by_cases z : N % 2 = 1
    · exact ⟨N, 0, by rw [Nat.pow_zero, Nat.mul_one], z⟩
    · obtain ⟨M, j, e, hM⟩ := ih (N / 2) (by omega) (by omega)
      refine ⟨M, j + 1, ?_, hM⟩
      rw [Nat.pow_succ, ← Nat.mul_assoc, ← e]
      omega
theorem ta_182 {neg : Bool} {M j : Nat} {μ : Mm} {p : Int} (hM : M % 2 = 1) (hN : M * 2 ^ j ≤ 2 ^ 63) (hp : neg = false → M * 2 ^ j < 2 ^ 63) (e42 : μ.2 0 42 = sv neg (M * 2 ^ j)) (e43 : μ.1 0 43 = iI p) :
    ∃ μ', fX8_takeApart_b182 μ = some μ' ∧ EqA μ μ' ∧ μ'.2 0 42 = sv neg M ∧ μ'.1 0 43 = iI (p + j) := by
  have hj : j < 64 := by
    apply Nat.lt_of_not_le
    intro z
    have h1 := p2le z
    have h2 : 1 * 2 ^ j ≤ M * 2 ^ j := Nat.mul_le_mul_right _ (by omega)
    omega
  exact ta_loop hM j 100 0 μ p hN hp e42 e43 (by omega) (by omega)
/-- a whole number's parts -/
theorem ta_int {k : Nat} (hk : k < 6) {neg : Bool} {M j : Nat} (μ : Mm) (hM : M % 2 = 1) (hN : M * 2 ^ j ≤ 2 ^ 63) (hp : neg = false → M * 2 ^ j < 2 ^ 63) :
    ∃ μ', fX8_takeApart (nI k) (sv neg (M * 2 ^ j)) μ = some μ' ∧ EqA μ μ' ∧ μ'.2 0 42 = sv neg M ∧ μ'.1 0 43 = iI j := by
  have g : ∀ k, k < 6 → ¬ nI k = 6 ∧ ¬ nI k = 7 := by decide +kernel
  obtain ⟨μ', g1, g2, g3, g4⟩ := ta_182 (μ := wI (wL μ 0 42 (sv neg (M * 2 ^ j))) 0 43 0) (p := 0) hM hN hp (by rw [wI_2, wL_2, if_pos ⟨rfl, rfl⟩]) (by rw [wI_1, if_pos ⟨rfl, rfl⟩]; rfl)
  refine ⟨μ', ?_, EqA.w.tr g2, g3, by rw [g4]; congr 1; omega⟩
  unfold fX8_takeApart
  rw [if_neg (g k hk).1, if_neg (g k hk).2]
  exact g1
theorem ta_int0 {k : Nat} (hk : k < 6) (μ : Mm) : ∃ μ', fX8_takeApart (nI k) 0 μ = some μ' ∧ EqA μ μ' ∧ μ'.2 0 42 = 0 := by
  have g : ∀ k, k < 6 → ¬ nI k = 6 ∧ ¬ nI k = 7 := by decide +kernel
  have e : (wI (wL μ 0 42 0) 0 43 0).2 0 42 = 0 := by rw [wI_2, wL_2, if_pos ⟨rfl, rfl⟩]
  refine ⟨wI (wL μ 0 42 0) 0 43 0, ?_, EqA.w, e⟩
  unfold fX8_takeApart
  rw [if_neg (g k hk).1, if_neg (g k hk).2]
  exact ta_zero e 0 (by decide) 99
/-! parts of a float or double -/
theorem sar_mask {n s w : Nat} (hw : s + w ≤ 64) (hs : s < 64) : jlshr (lN n) (nI s) &&& lN (2 ^ w - 1) = lN (n / 2 ^ s % 2 ^ w) := by
  have g : ∀ k, k < 64 → ((lN k).toBitVec.smod 64).toNat = k := by decide +kernel
  unfold jlshr
  rw [wb_c s hs]
  apply Int64.toBitVec_inj.1
  show ((lN n).toBitVec.sshiftRight ((lN s).toBitVec.smod 64).toNat) &&& BitVec.ofNat 64 (2 ^ w - 1) = BitVec.ofNat 64 (n / 2 ^ s % 2 ^ w)
  rw [g s hs, wb_tb]
  apply BitVec.eq_of_getLsbD_eq
  intro i hi
  rw [BitVec.getLsbD_and, BitVec.getLsbD_sshiftRight, BitVec.getLsbD_ofNat, BitVec.getLsbD_ofNat, BitVec.getLsbD_ofNat, Nat.testBit_mod_two_pow, Nat.testBit_div_two_pow, Nat.testBit_two_pow_sub_one]
  by_cases z : i < w
  · have h1 : s + i < 64 := by omega
    simp [z, hi, h1, Nat.add_comm]
  · simp [z]
theorem sar_mask32 {n s w : Nat} (hw : s + w ≤ 64) (hs : s < 64) : (jlshr (lN n) (nI s)).toInt32 &&& nI (2 ^ w - 1) = nI (n / 2 ^ s % 2 ^ w) := by
  rw [← lN_i (2 ^ w - 1), ← Int64.toInt32_and, sar_mask hw hs, lN_i]
def uN (k : Nat) (neg : Bool) (W : Nat) : Nat := if neg = true then (if k = 6 then W + (2 ^ 64 - 2 ^ 31) else W + 2 ^ 63) else W
theorem SC_u (k : Nat) (neg : Bool) (W : Nat) : SC k neg W = lN (uN k neg W) := by
  unfold SC uN
  split
  · split <;> rfl
  · rfl
theorem uN_6 {neg : Bool} {up fr : Nat} (hu : up < 256) (hf : fr < 2 ^ 23) : uN 6 neg (up * 2 ^ 23 + fr) % 2 ^ 23 = fr ∧ uN 6 neg (up * 2 ^ 23 + fr) / 2 ^ 23 % 2 ^ 8 = up ∧ uN 6 neg (up * 2 ^ 23 + fr) / 2 ^ 31 % 2 ^ 1 = if neg = true then 1 else 0 := by
  unfold uN
  cases neg with
  | false => simp only [Bool.false_eq_true, if_false]; omega
  | true => simp only [if_true]; omega
theorem uN_7 {neg : Bool} {up fr : Nat} (hu : up < 2048) (hf : fr < 2 ^ 52) : uN 7 neg (up * 2 ^ 52 + fr) % 2 ^ 52 = fr ∧ uN 7 neg (up * 2 ^ 52 + fr) / 2 ^ 52 % 2 ^ 11 = up ∧ uN 7 neg (up * 2 ^ 52 + fr) / 2 ^ 63 % 2 ^ 1 = if neg = true then 1 else 0 := by
  unfold uN
  cases neg with
  | false => simp only [Bool.false_eq_true, if_false]; omega
  | true => simp only [if_true, Nat.reduceEqDiff, if_false]; omega
theorem ta_120 {b B up fr : Nat} {neg : Bool} {M j : Nat} {μ : Mm} (hb : b ≤ 52) (hu : 0 < up) (hu2 : up < 2048) (hf : fr < 2 ^ b) (hM : M % 2 = 1) (hS : 2 ^ b + fr = M * 2 ^ j) :
    ∃ μ', fX8_takeApart_b120 (nI b) (nI B) (lN fr) (nI up) (if neg = true then 1 else 0) μ = some μ' ∧ EqA μ μ' ∧ μ'.2 0 42 = sv neg M ∧ μ'.1 0 43 = iI ((up : Int) - B - b + j) := by
  have hlt : M * 2 ^ j < 2 ^ 63 := by
    rw [← hS]
    have h1 := p2le (show b + 1 ≤ 53 by omega)
    have h2 := p2s b
    omega
  have e1 : lN fr ||| jlshl 1 (nI b) = lN (M * 2 ^ j) := by
    rw [show (1 : Int64) = lN 1 from rfl, lshl_n _ (by omega), Nat.one_mul, orT hf, Nat.add_comm, hS]
  unfold fX8_takeApart_b120
  rw [if_neg (nI_ne0 hu (by omega))]
  unfold fX8_takeApart_b139 fX8_takeApart_b146 fX8_takeApart_b167
  rw [e1]
  have hw : ∀ x : Int64, (wL μ 0 42 x).2 0 42 = x := fun x => by rw [wL_2, if_pos ⟨rfl, rfl⟩]
  rw [hw]
  have ei : nI up - nI B - nI b = iI ((up : Int) - B - b) := by rw [iI_n, iI_n, iI_n, iI_sub, iI_sub]
  rw [ei]
  cases neg with
  | false =>
    rw [if_pos (show (if false = true then (1 : Int32) else 0) = 0 from rfl)]
    obtain ⟨μ', g1, g2, g3, g4⟩ := ta_182 (neg := false) (μ := wI (wL (wL μ 0 42 (lN (M * 2 ^ j))) 0 42 (lN (M * 2 ^ j))) 0 43 (iI ((up : Int) - B - b))) (p := (up : Int) - B - b) hM (Nat.le_of_lt hlt) (fun _ => hlt) (by rw [wI_2, wL_2, if_pos ⟨rfl, rfl⟩]; rfl) (by rw [wI_1, if_pos ⟨rfl, rfl⟩])
    exact ⟨μ', g1, (EqA.wl.tr EqA.w).tr g2, g3, g4⟩
  | true =>
    rw [if_neg (show ¬ (if true = true then (1 : Int32) else 0) = 0 by decide)]
    obtain ⟨μ', g1, g2, g3, g4⟩ := ta_182 (neg := true) (μ := wI (wL (wL μ 0 42 (lN (M * 2 ^ j))) 0 42 (-(lN (M * 2 ^ j)))) 0 43 (iI ((up : Int) - B - b))) (p := (up : Int) - B - b) hM (Nat.le_of_lt hlt) (fun _ => hlt) (by rw [wI_2, wL_2, if_pos ⟨rfl, rfl⟩]; rfl) (by rw [wI_1, if_pos ⟨rfl, rfl⟩])
    exact ⟨μ', g1, (EqA.wl.tr EqA.w).tr g2, g3, g4⟩
theorem bit_1 (neg : Bool) {x : Int64} (h : x = lN (if neg = true then 1 else 0)) (a b : Option Mm) : (if x = (1 : Int64) then a else b) = if neg = true then a else b := by
  rw [h]
  cases neg with
  | false => rw [if_neg (by decide), if_neg (by decide)]
  | true => rw [if_pos (by decide), if_pos rfl]
theorem ta_flt {k : Nat} (hk : k = 6 ∨ k = 7) {neg : Bool} {up fr M j : Nat} (μ : Mm) (hu : 0 < up) (hu2 : up < mK k) (hf : fr < 2 ^ bK k) (hM : M % 2 = 1) (hS : 2 ^ bK k + fr = M * 2 ^ j) :
    ∃ μ', fX8_takeApart (nI k) (SC k neg (up * 2 ^ bK k + fr)) μ = some μ' ∧ EqA μ μ' ∧ μ'.2 0 42 = sv neg M ∧ μ'.1 0 43 = iI ((up : Int) - BK k - bK k + j) := by
  rcases hk with rfl | rfl
  · obtain ⟨a1, a2, a3⟩ := uN_6 (neg := neg) (up := up) (fr := fr) hu2 hf
    have f1 : SC 6 neg (up * 2 ^ bK 6 + fr) &&& (jlshl 1 23 - 1) = lN fr := by
      rw [SC_u, show jlshl 1 23 - 1 = lN (2 ^ 23 - 1) by decide, fb_maskL]
      exact congrArg lN a1
    have f2 : (jlshr (SC 6 neg (up * 2 ^ bK 6 + fr)) 23).toInt32 &&& 255 = nI up := by
      rw [SC_u]
      exact (sar_mask32 (s := 23) (w := 8) (by decide) (by decide)).trans (congrArg nI a2)
    have f3 : jlshr (SC 6 neg (up * 2 ^ bK 6 + fr)) (23 + 8) &&& 1 = lN (if neg = true then 1 else 0) := by
      rw [SC_u]
      exact (sar_mask (s := 31) (w := 1) (by decide) (by decide)).trans (congrArg lN a3)
    obtain ⟨μ', g1, g2, g3, g4⟩ := ta_120 (b := 23) (B := 127) (neg := neg) (μ := wI (wL μ 0 42 (SC 6 neg (up * 2 ^ bK 6 + fr))) 0 43 0) (by decide) hu (by have : mK 6 = 256 := rfl; omega) hf hM hS
    refine ⟨μ', ?_, EqA.w.tr g2, g3, g4⟩
    unfold fX8_takeApart fX8_takeApart_b22 fX8_takeApart_b35 fX8_takeApart_b52 fX8_takeApart_b68 fX8_takeApart_b106
    rw [if_pos (show nI 6 = 6 from rfl), if_pos (show nI 6 = 6 from rfl), if_pos (show nI 6 = 6 from rfl), if_pos (show nI 6 = 6 from rfl), if_pos (show nI 6 = 6 from rfl), f1, f2, bit_1 neg f3]
    cases neg with
    | false => exact g1
    | true => exact g1
  · obtain ⟨a1, a2, a3⟩ := uN_7 (neg := neg) (up := up) (fr := fr) hu2 hf
    have f1 : SC 7 neg (up * 2 ^ bK 7 + fr) &&& (jlshl 1 52 - 1) = lN fr := by
      rw [SC_u, show jlshl 1 52 - 1 = lN (2 ^ 52 - 1) by decide, fb_maskL]
      exact congrArg lN a1
    have f2 : (jlshr (SC 7 neg (up * 2 ^ bK 7 + fr)) 52).toInt32 &&& 2047 = nI up := by
      rw [SC_u]
      exact (sar_mask32 (s := 52) (w := 11) (by decide) (by decide)).trans (congrArg nI a2)
    have f3 : jlshr (SC 7 neg (up * 2 ^ bK 7 + fr)) (52 + 11) &&& 1 = lN (if neg = true then 1 else 0) := by
      rw [SC_u]
      exact (sar_mask (s := 63) (w := 1) (by decide) (by decide)).trans (congrArg lN a3)
    obtain ⟨μ', g1, g2, g3, g4⟩ := ta_120 (b := 52) (B := 1023) (neg := neg) (μ := wI (wL μ 0 42 (SC 7 neg (up * 2 ^ bK 7 + fr))) 0 43 0) (by decide) hu (by have : mK 7 = 2048 := rfl; omega) hf hM hS
    refine ⟨μ', ?_, EqA.w.tr g2, g3, g4⟩
    unfold fX8_takeApart fX8_takeApart_b22 fX8_takeApart_b35 fX8_takeApart_b52 fX8_takeApart_b68 fX8_takeApart_b106
    rw [if_neg (show ¬ nI 7 = 6 by decide), if_pos (show nI 7 = 7 from rfl), if_neg (show ¬ nI 7 = 6 by decide), if_neg (show ¬ nI 7 = 6 by decide), if_neg (show ¬ nI 7 = 6 by decide), if_neg (show ¬ nI 7 = 6 by decide), f1, f2, bit_1 neg f3]
    cases neg with
    | false => exact g1
    | true => exact g1
theorem ta_flt0 {k : Nat} (hk : k = 6 ∨ k = 7) (μ : Mm) : ∃ μ', fX8_takeApart (nI k) 0 μ = some μ' ∧ EqA μ μ' ∧ μ'.2 0 42 = 0 := by
  have hw : ∀ (μ : Mm) (v : Int32), (wI (wL μ 0 42 0) 0 43 v).2 0 42 = 0 := fun μ v => by rw [wI_2, wL_2, if_pos ⟨rfl, rfl⟩]
  have hw2 : ∀ (μ : Mm) (x : Int64), (wL μ 0 42 x).2 0 42 = x := fun μ x => by rw [wL_2, if_pos ⟨rfl, rfl⟩]
  rcases hk with rfl | rfl
  · refine ⟨wI (wL (wL (wI (wL μ 0 42 0) 0 43 0) 0 42 0) 0 42 0) 0 43 ((0 : Int32) - 127 - 23), ?_, EqA.w.tr (EqA.wl.tr EqA.w), hw _ _⟩
    unfold fX8_takeApart fX8_takeApart_b22 fX8_takeApart_b35 fX8_takeApart_b52 fX8_takeApart_b68 fX8_takeApart_b106 fX8_takeApart_b120 fX8_takeApart_b146 fX8_takeApart_b167 fX8_takeApart_b182
    rw [if_pos (show nI 6 = 6 from rfl), if_pos (show nI 6 = 6 from rfl), if_pos (show nI 6 = 6 from rfl), if_pos (show nI 6 = 6 from rfl), if_pos (show nI 6 = 6 from rfl), if_neg (by decide), if_pos (by decide), if_pos (by decide), if_pos rfl, hw2]
    exact ta_zero (hw _ _) 0 (by decide) 99
  · refine ⟨wI (wL (wL (wI (wL μ 0 42 0) 0 43 0) 0 42 0) 0 42 0) 0 43 ((0 : Int32) - 1023 - 52), ?_, EqA.w.tr (EqA.wl.tr EqA.w), hw _ _⟩
    unfold fX8_takeApart fX8_takeApart_b22 fX8_takeApart_b35 fX8_takeApart_b52 fX8_takeApart_b68 fX8_takeApart_b106 fX8_takeApart_b120 fX8_takeApart_b146 fX8_takeApart_b167 fX8_takeApart_b182
    rw [if_neg (show ¬ nI 7 = 6 by decide), if_pos (show nI 7 = 7 from rfl), if_neg (show ¬ nI 7 = 6 by decide), if_neg (show ¬ nI 7 = 6 by decide), if_neg (show ¬ nI 7 = 6 by decide), if_neg (show ¬ nI 7 = 6 by decide), if_neg (by decide), if_pos (by decide), if_pos (by decide), if_pos rfl, hw2]
    exact ta_zero (hw _ _) 0 (by decide) 99
