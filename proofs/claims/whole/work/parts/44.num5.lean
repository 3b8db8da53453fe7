/-! NUMBERS 5: made and given; widened -/
theorem gv {w H P : Nat} (h : (w = 8 ∧ H = 128 ∧ P = 256) ∨ (w = 16 ∧ H = 32768 ∧ P = 65536) ∨ (w = 32 ∧ H = 2147483648 ∧ P = 4294967296)) {n : Nat} {z : Int64} (hz : z.toInt = (n : Int).bmod P) :
    (if lN n &&& lN H = 0 then some ((lN n &&& lN (P - 1)) - (0 : Int64)) else some ((lN n &&& lN (P - 1)) - lN P)) = some z ∧ -(H : Int) ≤ z.toInt ∧ z.toInt < H := by
  have hH : H = 2 ^ (w - 1) := by rcases h with h | h | h <;> (obtain ⟨rfl, rfl, rfl⟩ := h; rfl)
  have hP : P = 2 ^ w := by rcases h with h | h | h <;> (obtain ⟨rfl, rfl, rfl⟩ := h; rfl)
  have hPH : P = H * 2 := by omega
  have hH0 : 0 < H := by omega
  have hP63 : P < 2 ^ 63 := by omega
  have hw : w - 1 < 63 := by omega
  have hb : (lN n &&& lN H = 0) ↔ n / H % 2 = 0 := by
    rw [hH, fb_bitL hw, Nat.testBit_eq_decide_div_mod_eq, decide_eq_false_iff_not]
    omega
  have hm : lN n &&& lN (P - 1) = lN (n % P) := by rw [hP, fb_maskL]
  have hmod : n % P = n % H + H * (n / H % 2) := by rw [hPH, Nat.mod_mul]
  have hlt : n % H < H := Nat.mod_lt _ hH0
  have hbm : (n : Int).bmod P = if n / H % 2 = 0 then ((n % P : Nat) : Int) else ((n % P : Nat) : Int) - P := by
    unfold Int.bmod
    rw [← Int.natCast_emod]
    have e2 : ((P : Int) + 1) / 2 = H := by omega
    rw [e2]
    by_cases c : n / H % 2 = 0
    · rw [c, Nat.mul_zero] at hmod
      rw [if_pos c, if_pos (by omega)]
    · have c1 : n / H % 2 = 1 := by omega
      rw [c1, Nat.mul_one] at hmod
      rw [if_neg c, if_neg (by omega)]
  rw [hbm] at hz
  rw [hm]
  by_cases c : n / H % 2 = 0
  · rw [c, Nat.mul_zero] at hmod
    rw [if_pos c] at hz
    refine ⟨?_, by omega, by omega⟩
    rw [if_pos (hb.mpr c)]
    congr 1
    apply Int64.toInt_inj.mp
    rw [Int64.sub_zero, pk_lT (by omega), hz]
  · have c1 : n / H % 2 = 1 := by omega
    rw [c1, Nat.mul_one] at hmod
    rw [if_neg c] at hz
    refine ⟨?_, by omega, by omega⟩
    rw [if_neg (fun y => c (hb.mp y))]
    congr 1
    apply Int64.toInt_inj.mp
    rw [fb_subL (by rw [pk_lT (by omega), pk_lT hP63]; omega) (by rw [pk_lT (by omega), pk_lT hP63]; omega), pk_lT (by omega), pk_lT hP63, hz]
theorem lN_bm (n : Nat) : (lN n).toInt = (n : Int).bmod (2 ^ 64) := Int64.toInt_ofNat'
theorem n_made {k : Nat} (hk : k < 8) (v : Int64) : ∃ c, fX2_made (nI k) v = some c ∧ fX8_given (nI k) v = some c ∧ VC k c := by
  obtain ⟨n, hn, rfl⟩ := wb_of v
  have hc : k = 0 ∨ k = 1 ∨ k = 2 ∨ k = 3 ∨ k = 4 ∨ k = 5 ∨ k = 6 ∨ k = 7 := by omega
  rcases hc with rfl | rfl | rfl | rfl | rfl | rfl | rfl | rfl
  · refine ⟨lN (n % 2), ?_, ?_, ?_⟩
    · unfold fX2_made
      rw [if_pos (show nI 0 = 0 from rfl), wb_a1 hn]
    · unfold fX8_given
      rw [if_pos (show nI 0 = 0 from rfl), wb_a1 hn]
    · show lN (n % 2) = 0 ∨ lN (n % 2) = 1
      have : n % 2 = 0 ∨ n % 2 = 1 := by omega
      rcases this with e | e <;> rw [e]
      · left; rfl
      · right; rfl
  · have hz : ((ji2b (lN n).toInt32).toInt64).toInt = (n : Int).bmod (256 : Nat) := by
      unfold ji2b
      rw [Int32.toInt_toInt64, Int8.toInt_toInt32, Int32.toInt_toInt8, Int64.toInt_toInt32, lN_bm, Int.bmod_bmod_of_dvd (by decide), Int.bmod_bmod_of_dvd (by decide)]
    obtain ⟨g1, g2, g3⟩ := gv (w := 8) (Or.inl ⟨rfl, rfl, rfl⟩) hz
    refine ⟨(ji2b (lN n).toInt32).toInt64, ?_, ?_, ?_⟩
    · unfold fX2_made
      rw [if_neg (show ¬ nI 1 = 0 by decide), if_pos (show nI 1 = 1 from rfl)]
    · unfold fX8_given
      rw [if_neg (show ¬ nI 1 = 0 by decide), if_pos (show nI 1 = 1 from rfl)]
      exact g1
    · exact ⟨g2, Int.le_of_lt_add_one g3⟩
  · have e : ji2c (lN n).toInt32 = nI (n % 65536) := by
      unfold ji2c
      rw [lN_i, pk_char]
      congr 1
      show n % 2 ^ 32 % 65536 = n % 65536
      omega
    refine ⟨lN (n % 65536), ?_, ?_, ?_⟩
    · unfold fX2_made
      rw [if_neg (show ¬ nI 2 = 0 by decide), if_neg (show ¬ nI 2 = 1 by decide), if_pos (show nI 2 = 2 from rfl), e, nI_l (by omega)]
    · unfold fX8_given
      rw [if_neg (show ¬ nI 2 = 0 by decide), if_neg (show ¬ nI 2 = 1 by decide), if_pos (show nI 2 = 2 from rfl), show (65535 : Int64) = lN (2 ^ 16 - 1) from rfl, fb_maskL]
    · show 0 ≤ (lN (n % 65536)).toInt ∧ (lN (n % 65536)).toInt ≤ 65535
      rw [pk_lT (by omega)]
      omega
  · have hz : ((ji2s (lN n).toInt32).toInt64).toInt = (n : Int).bmod (65536 : Nat) := by
      unfold ji2s
      rw [Int32.toInt_toInt64, Int16.toInt_toInt32, Int32.toInt_toInt16, Int64.toInt_toInt32, lN_bm, Int.bmod_bmod_of_dvd (by decide), Int.bmod_bmod_of_dvd (by decide)]
    obtain ⟨g1, g2, g3⟩ := gv (w := 16) (Or.inr (Or.inl ⟨rfl, rfl, rfl⟩)) hz
    refine ⟨(ji2s (lN n).toInt32).toInt64, ?_, ?_, ?_⟩
    · unfold fX2_made
      rw [if_neg (show ¬ nI 3 = 0 by decide), if_neg (show ¬ nI 3 = 1 by decide), if_neg (show ¬ nI 3 = 2 by decide), if_pos (show nI 3 = 3 from rfl)]
    · unfold fX8_given
      rw [if_neg (show ¬ nI 3 = 0 by decide), if_neg (show ¬ nI 3 = 1 by decide), if_neg (show ¬ nI 3 = 2 by decide), if_pos (show nI 3 = 3 from rfl)]
      exact g1
    · exact ⟨g2, Int.le_of_lt_add_one g3⟩
  · have hz : (((lN n).toInt32).toInt64).toInt = (n : Int).bmod (4294967296 : Nat) := by
      rw [Int32.toInt_toInt64, Int64.toInt_toInt32, lN_bm, Int.bmod_bmod_of_dvd (by decide)]
    obtain ⟨g1, g2, g3⟩ := gv (w := 32) (Or.inr (Or.inr ⟨rfl, rfl, rfl⟩)) hz
    refine ⟨((lN n).toInt32).toInt64, ?_, ?_, ?_⟩
    · unfold fX2_made
      rw [if_neg (show ¬ nI 4 = 0 by decide), if_neg (show ¬ nI 4 = 1 by decide), if_neg (show ¬ nI 4 = 2 by decide), if_neg (show ¬ nI 4 = 3 by decide), if_pos (show nI 4 = 4 from rfl)]
    · unfold fX8_given
      rw [if_neg (show ¬ nI 4 = 0 by decide), if_neg (show ¬ nI 4 = 1 by decide), if_neg (show ¬ nI 4 = 2 by decide), if_neg (show ¬ nI 4 = 3 by decide), if_pos (show nI 4 = 4 from rfl)]
      exact g1
    · exact ⟨g2, Int.le_of_lt_add_one g3⟩
  · exact ⟨lN n, rfl, rfl, trivial⟩
  · obtain ⟨c, h1, h2, h3⟩ := n_near (k := 6) (sc := 3) (Or.inl rfl) (by decide) (lN n)
    refine ⟨c, ?_, ?_, h3⟩
    · have h1' : fX2_nearest 6 (lN n) 3 = some c := h1
      have : fX2_made 6 (lN n) = (fX2_nearest 6 (lN n) 3).bind fun r => some r := rfl
      rw [show nI 6 = 6 from rfl, this, h1']
      rfl
    · have h2' : fX8_rounded 6 (lN n) (-3) = some c := h2
      have : fX8_given 6 (lN n) = (fX8_rounded 6 (lN n) (-3)).bind fun r => some r := rfl
      rw [show nI 6 = 6 from rfl, this, h2']
      rfl
  · obtain ⟨c, h1, h2, h3⟩ := n_near (k := 7) (sc := 3) (Or.inr rfl) (by decide) (lN n)
    refine ⟨c, ?_, ?_, h3⟩
    · have h1' : fX2_nearest 7 (lN n) 3 = some c := h1
      have : fX2_made 7 (lN n) = (fX2_nearest 7 (lN n) 3).bind fun r => some r := rfl
      rw [show nI 7 = 7 from rfl, this, h1']
      rfl
    · have h2' : fX8_rounded 7 (lN n) (-3) = some c := h2
      have : fX8_given 7 (lN n) = (fX8_rounded 7 (lN n) (-3)).bind fun r => some r := rfl
      rw [show nI 7 = 7 from rfl, this, h2']
      rfl
/-- a number that was read, as told -/
theorem n_told {k : Nat} (hk : k < 8) (v : Int64) : ∃ c, fX2_ofWhole (nI k) v = some c ∧ fX8_toldOf (nI k) v = some c ∧ (k < 6 → c = v) ∧ (6 ≤ k → VC k c) := by
  by_cases h : k < 6
  · have g : ∀ k, k < 6 → ¬ nI k = 6 ∧ ¬ nI k = 7 ∧ nI k < 6 := by decide +kernel
    obtain ⟨g1, g2, g3⟩ := g k h
    refine ⟨v, ?_, ?_, fun _ => rfl, fun z => absurd z (by omega)⟩
    · unfold fX2_ofWhole
      rw [if_neg g1, if_neg g2]
    · unfold fX8_toldOf
      rw [if_pos g3]
  · have hk2 : k = 6 ∨ k = 7 := by omega
    obtain ⟨c, h1, h2, h3⟩ := n_near (sc := 0) hk2 (by decide) v
    refine ⟨c, ?_, ?_, fun z => absurd z h, fun _ => h3⟩
    · unfold fX2_ofWhole fX2_ofWhole_b12
      rw [show (0 : Int32) = nI 0 from rfl, h1]
      rcases hk2 with rfl | rfl
      · rw [if_pos (show nI 6 = 6 from rfl)]; rfl
      · rw [if_neg (show ¬ nI 7 = 6 by decide), if_pos (show nI 7 = 7 from rfl)]; rfl
    · unfold fX8_toldOf
      have h2' : fX8_rounded (nI k) v 0 = some c := h2
      rw [h2', if_neg (by rcases hk2 with rfl | rfl <;> decide)]
      rfl
/-! a float as a double -/
theorem dofW {u X : Nat} (hu : u < 256) (hX : X < 2 ^ 52) : (u + 896) * 2 ^ 52 + X < 2 ^ 63 := by omega
theorem cx_dof {neg : Bool} {up fr : Nat} (hu0 : 0 < up) (hu : up < 256) (hf : fr < 2 ^ 23) : fX2_doubleOfFloat (SC 6 neg (up * 2 ^ 23 + fr)) = some (SC 7 neg ((up + 896) * 2 ^ 52 + fr * 2 ^ 29)) := by
  have hlt : fr * 2 ^ 29 < 2 ^ 52 := by
    rw [show 2 ^ 52 = 2 ^ 23 * 2 ^ 29 from (p2a 23 29)]
    exact (Nat.mul_lt_mul_right (p2 29)).mpr hf
  have hW : (up + 896) * 2 ^ 52 + fr * 2 ^ 29 < 2 ^ 63 := dofW hu hlt
  obtain ⟨a1, a2, a3⟩ := uN_6 (neg := neg) (up := up) (fr := fr) hu hf
  have hne : ¬ SC 6 neg (up * 2 ^ 23 + fr) = 0 := SC_ne (k := 6) (Or.inl rfl) hu0 hu hf
  have hge : 0 ≤ SC 6 neg (up * 2 ^ 23 + fr) ↔ neg = false := SC_ge (k := 6) (Or.inl rfl) hu hf
  have f1 : SC 6 neg (up * 2 ^ 23 + fr) &&& 8388607 = lN fr := by
    rw [SC_u, show (8388607 : Int64) = lN (2 ^ 23 - 1) from rfl, fb_maskL]
    exact congrArg lN a1
  have f2 : jlshr (SC 6 neg (up * 2 ^ 23 + fr)) 23 &&& 255 = lN up := by
    rw [SC_u]
    exact (sar_mask (s := 23) (w := 8) (by decide) (by decide)).trans (congrArg lN a2)
  have e : (jlshl (lN up + 896) 52) ||| (jlshl (lN fr) 29) = lN ((up + 896) * 2 ^ 52 + fr * 2 ^ 29) := by
    have e1 : jlshl (lN up + 896) 52 = lN ((up + 896) * 2 ^ 52) := by
      rw [show (896 : Int64) = lN 896 from rfl, lN_add]
      exact lshl_n (k := 52) _ (by decide)
    have e2 : jlshl (lN fr) 29 = lN (fr * 2 ^ 29) := lshl_n (k := 29) _ (by decide)
    rw [e1, e2, Nat.mul_comm (up + 896), fb_or_sumL (k := 52) (a := fr * 2 ^ 29) (up + 896) hlt]
  unfold fX2_doubleOfFloat fX2_doubleOfFloat_b39
  rw [if_neg hne, f1, f2, e]
  unfold fX2_signedDouble
  cases neg with
  | false =>
    rw [if_pos (hge.mpr rfl), if_pos rfl]
    rfl
  | true =>
    rw [if_neg (fun z => absurd (hge.mp z) (by decide)), if_neg (by decide), show (-9223372036854775808 : Int64) = lN (2 ^ 63) by decide, orT hW]
    rfl
/-! widening -/
theorem wid_in0 : ∀ a, a < 8 → ∀ b, b < 6 → ¬ fX8_widens (nI a) (nI b) = some 1 ∨ a = b ∨ (a, b) ∈ [(1, 3), (1, 4), (1, 5), (2, 4), (2, 5), (3, 4), (3, 5), (4, 5)] := by decide +kernel
theorem wid_in (a : Nat) (ha : a < 8) (b : Nat) (hb : b < 6) (h : fX8_widens (nI a) (nI b) = some 1) (hn : a ≠ b) : (a, b) ∈ [(1, 3), (1, 4), (1, 5), (2, 4), (2, 5), (3, 4), (3, 5), (4, 5)] := by
  rcases wid_in0 a ha b hb with z | z | z
  · exact absurd h z
  · exact absurd z hn
  · exact z
theorem wid_up0 : ∀ a, a < 8 → ∀ b, b < 8 → b < 6 ∨ ¬ fX8_widens (nI a) (nI b) = some 1 ∨ a = b ∨ (0 < a ∧ a < 6) ∨ (a = 6 ∧ b = 7) := by decide +kernel
theorem wid_up (a : Nat) (ha : a < 8) (b : Nat) (hb : b < 8) (h6 : 6 ≤ b) (h : fX8_widens (nI a) (nI b) = some 1) (hn : a ≠ b) : (0 < a ∧ a < 6) ∨ (a = 6 ∧ b = 7) := by
  rcases wid_up0 a ha b hb with z | z | z | z
  · omega
  · exact absurd h z
  · exact absurd z hn
  · exact z
theorem odd_tp {N M j l : Nat} (h : Tp N l) (e : N = M * 2 ^ j) : j ≤ l ∧ Tp M (l - j) := by
  have hM : 0 < M := by
    rcases Nat.eq_zero_or_pos M with z | z
    · rw [z, Nat.zero_mul] at e
      have := h.pos
      omega
    · exact z
  have hj : j ≤ l := h.ge (by rw [e]; exact Nat.le_mul_of_pos_left _ hM)
  have := h.div hj
  rw [e, Nat.mul_div_cancel _ (p2 j)] at this
  exact ⟨hj, this⟩
/-- rounding the parts of a whole number -/
theorem n_parts {a k : Nat} (ha : a < 6) (hk : k = 6 ∨ k = 7) (c : Int64) (μ : Mm) : ∃ c', fX2_nearest (nI k) c (nI 0) = some c' ∧ VC k c' ∧ ∃ μ', fX8_takeApart (nI a) c μ = some μ' ∧ EqA μ μ' ∧ fX8_rounded (nI k) (μ'.2 0 42) (μ'.1 0 43) = some c' := by
  have hB : 4 ≤ BK k := by rcases hk with rfl | rfl <;> decide
  by_cases z : c = 0
  · subst z
    obtain ⟨μ', g1, g2, g3⟩ := ta_int0 ha μ
    refine ⟨0, cx_near0 hk, (FK_v hk 0).mpr (Or.inl rfl), μ', g1, g2, ?_⟩
    rw [g3]
    unfold fX8_rounded
    rw [if_pos rfl]
  · obtain ⟨neg, N, rfl, h0, hN, hp⟩ := sv_ex c z
    obtain ⟨l, h⟩ := Tp.ex h0
    obtain ⟨M, j, e, hM⟩ := odd_ex h0
    obtain ⟨t1, t2⟩ := top63 h hN
    obtain ⟨hj, hT⟩ := odd_tp h e
    have hMN : M ≤ N := by rw [e]; exact Nat.le_mul_of_pos_right _ (p2 j)
    obtain ⟨μ', g1, g2, g3, g4⟩ := ta_int (neg := neg) (j := j) ha μ hM (by rw [← e]; exact hN) (by rw [← e]; exact hp)
    have hd := rT_dbl (bK k) M (l - j) j
    rw [← e, Nat.sub_add_cancel hj] at hd
    refine ⟨_, cx_near hk hN hp h (by decide), (FK_v hk _).mpr (FK_r h (by omega) hB (by omega) (fun y => t2 (by omega))), μ', by rw [e]; exact g1, g2, ?_⟩
    rw [g3, g4, hd]
    exact rm_round hk (by omega) (fun y => by have := hp y; omega) hT (E := l + BK k - 1 - 0) (by omega) (by omega)
theorem n_wid {a b : Nat} (ha : a < 8) (hb : b < 8) (hw : fX8_widens (nI a) (nI b) = some 1) {c : Int64} (hc : VC a c) (μ : Mm) : ∃ c', fX2_widened c (nI a) (nI b) = some c' ∧ VC b c' ∧ ∃ μ', fX8_widened (nI a) c (nI b) μ = some (c', μ') ∧ EqA μ μ' := by
  by_cases hab : a = b
  · subst hab
    refine ⟨c, by unfold fX2_widened; rw [if_pos rfl], hc, μ, ?_, EqA.rf⟩
    unfold fX8_widened
    split
    · rfl
    · rw [if_pos rfl]
  have hne : ¬ nI a = nI b := nI_ne (by omega) (by omega) hab
  by_cases hb6 : b < 6
  · have hl := wid_in a ha b hb6 hw hab
    have g6 : ∀ b, b < 6 → nI b < 6 ∧ ¬ (6 : Int32) ≤ nI b := by decide +kernel
    have ha6 : ¬ nI a = 6 := by
      simp only [List.mem_cons, Prod.mk.injEq, List.not_mem_nil, or_false] at hl
      exact nI_ne (b := 6) (by omega) (by omega) (by omega)
    refine ⟨c, ?_, ?_, μ, ?_, EqA.rf⟩
    · unfold fX2_widened
      rw [if_neg hne, if_neg ha6, if_neg (g6 b hb6).2]
    · simp only [List.mem_cons, Prod.mk.injEq, List.not_mem_nil, or_false] at hl
      rcases hl with ⟨rfl, rfl⟩ | ⟨rfl, rfl⟩ | ⟨rfl, rfl⟩ | ⟨rfl, rfl⟩ | ⟨rfl, rfl⟩ | ⟨rfl, rfl⟩ | ⟨rfl, rfl⟩ | ⟨rfl, rfl⟩ <;> simp only [VC] at hc ⊢ <;> omega
    · unfold fX8_widened
      rw [if_pos (g6 b hb6).1]
  · have g6 : ∀ b, b < 8 → 6 ≤ b → ¬ nI b < 6 ∧ (6 : Int32) ≤ nI b := by decide +kernel
    have hb2 : b = 6 ∨ b = 7 := by omega
    rcases wid_up a ha b hb (by omega) hw hab with ⟨-, ha6⟩ | ⟨rfl, rfl⟩
    · have ha6' : ¬ nI a = 6 := nI_ne (b := 6) (by omega) (by omega) (by omega)
      obtain ⟨c', q1, q2, μ', q3, q4, q5⟩ := n_parts ha6 hb2 c μ
      refine ⟨c', ?_, q2, μ', ?_, q4⟩
      · unfold fX2_widened
        rw [if_neg hne, if_neg ha6', if_pos (g6 b hb (by omega)).2, show (0 : Int32) = nI 0 from rfl, q1]
        rfl
      · unfold fX8_widened
        rw [if_neg (g6 b hb (by omega)).1, if_neg hne, q3]
        simp only [Option.bind_some]
        rw [q5]
        rfl
    · have n67 : ¬ nI 6 = nI 7 := hne
      rcases (FK_6e c).mp ((FK_6 c).mp hc) with rfl | ⟨neg, up, fr, u1, u2, hf, rfl⟩
      · obtain ⟨μ', g1, g2, g3⟩ := ta_flt0 (k := 6) (Or.inl rfl) μ
        refine ⟨0, ?_, (FK_7 0).mpr (Or.inl rfl), μ', ?_, g2⟩
        · unfold fX2_widened fX2_doubleOfFloat
          rw [if_neg n67, if_pos (show nI 6 = 6 from rfl), if_pos rfl]
          rfl
        · unfold fX8_widened
          rw [if_neg (by decide), if_neg n67, g1]
          simp only [Option.bind_some]
          rw [g3]
          unfold fX8_rounded
          rw [if_pos rfl]
          rfl
      · have h0 : 0 < 2 ^ 23 + fr := by omega
        obtain ⟨M, j, e, hM⟩ := odd_ex h0
        have hT0 : Tp (2 ^ 23 + fr) 23 := ⟨by omega, by omega⟩
        obtain ⟨hj, hT⟩ := odd_tp hT0 e
        have hMN : M ≤ 2 ^ 23 + fr := by rw [e]; exact Nat.le_mul_of_pos_right _ (p2 j)
        obtain ⟨μ', g1, g2, g3, g4⟩ := ta_flt (k := 6) (Or.inl rfl) (neg := neg) (up := up) (fr := fr) (M := M) (j := j) μ (by omega) (by show up < 256; omega) hf hM e
        have hr : rT 52 M (23 - j) = 2 ^ 52 + fr * 2 ^ 29 := by
          have hd := rT_dbl 52 M (23 - j) j
          rw [← e, Nat.sub_add_cancel hj] at hd
          rw [← hd]
          unfold rT
          rw [if_pos (by decide), show 52 - 23 = 29 from rfl]
          omega
        have hround := rm_round (k := 7) (Or.inr rfl) (neg := neg) (N := M) (l := 23 - j) (E := up + 895) (e := (up : Int) - 127 - 23 + j) (by omega) (fun _ => by omega) hT (by show ((up + 895 : Nat) : Int) = _ + ((23 - j : Nat) : Int) + 1023 - 1; omega) (by show up + 895 ≤ 1023 + 62; omega)
        have hW : (up + 895) * 2 ^ bK 7 + rT (bK 7) M (23 - j) = (up + 896) * 2 ^ 52 + fr * 2 ^ 29 := by
          rw [show bK 7 = 52 from rfl, hr, show up + 896 = up + 895 + 1 by omega, Nat.add_mul (up + 895) 1, Nat.one_mul, Nat.add_assoc]
        rw [hW] at hround
        refine ⟨_, ?_, (FK_7 _).mpr ((FK_7e _).mpr (Or.inr ⟨neg, up + 896, fr * 2 ^ 29, by omega, by omega, by omega, rfl⟩)), μ', ?_, g2⟩
        · unfold fX2_widened
          rw [if_neg n67, if_pos (show nI 6 = 6 from rfl), cx_dof (by omega) (by omega) hf]
          rfl
        · unfold fX8_widened
          rw [if_neg (by decide), if_neg n67]
          have g1' : fX8_takeApart (nI 6) (SC 6 neg (up * 2 ^ 23 + fr)) μ = some μ' := g1
          have g4' : μ'.1 0 43 = iI ((up : Int) - 127 - 23 + j) := g4
          rw [g1']
          simp only [Option.bind_some]
          rw [g3, g4', hround]
          rfl
