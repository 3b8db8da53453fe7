/-! NUMBERS 10: whole numbers among doubles -/
theorem d_exp {neg : Bool} {up fr : Nat} (hu : up < 2048) (hf : fr < 2 ^ 52) : fX2_exponentOf (SC 7 neg (up * 2 ^ 52 + fr)) = some (nI up - 1023) := by
  obtain ⟨a1, a2, a3⟩ := uN_7 (neg := neg) (up := up) (fr := fr) hu hf
  have f2 : jlshr (SC 7 neg (up * 2 ^ 52 + fr)) 52 &&& 2047 = lN up := by
    rw [SC_u]
    exact (sar_mask (s := 52) (w := 11) (by decide) (by decide)).trans (congrArg lN a2)
  unfold fX2_exponentOf
  rw [f2, lN_i]
theorem d_sig {neg : Bool} {up fr : Nat} (hu : up < 2048) (hf : fr < 2 ^ 52) : fX2_significand (SC 7 neg (up * 2 ^ 52 + fr)) = some (lN (fr + 2 ^ 52)) := by
  obtain ⟨a1, a2, a3⟩ := uN_7 (neg := neg) (up := up) (fr := fr) hu hf
  have f1 : SC 7 neg (up * 2 ^ 52 + fr) &&& 4503599627370495 = lN fr := by
    rw [SC_u, show (4503599627370495 : Int64) = lN (2 ^ 52 - 1) from rfl, fb_maskL]
    exact congrArg lN a1
  unfold fX2_significand
  rw [f1, show (4503599627370496 : Int64) = lN (2 ^ 52) from rfl, orT hf]
theorem d_least {neg : Bool} {up fr : Nat} (hu : up < 2048) (hf : fr < 2 ^ 52) : SC 7 neg (up * 2 ^ 52 + fr) = (-4332462841530417152 : Int64) ↔ neg = true ∧ up = 1086 ∧ fr = 0 := by
  have e : (-4332462841530417152 : Int64) = lN (uN 7 true (1086 * 2 ^ 52 + 0)) := by decide
  rw [e, SC_u]
  constructor
  · intro z
    have y := lN_eqm z
    have h1 : uN 7 neg (up * 2 ^ 52 + fr) < 2 ^ 64 := (uN_lt (k := 7) (Or.inr rfl) hu hf).1
    have h2 : uN 7 true (1086 * 2 ^ 52 + 0) < 2 ^ 64 := by decide
    rw [Nat.mod_eq_of_lt h1, Nat.mod_eq_of_lt h2] at y
    have e2 : uN 7 true (1086 * 2 ^ 52 + 0) = 1086 * 2 ^ 52 + 2 ^ 63 := by decide
    rw [e2] at y
    unfold uN at y
    cases neg with
    | false =>
      simp only [Bool.false_eq_true, if_false] at y
      omega
    | true =>
      simp only [if_true, Nat.reduceEqDiff, if_false] at y
      refine ⟨rfl, ?_, ?_⟩ <;> omega
  · rintro ⟨rfl, rfl, rfl⟩
    rfl
theorem d_b23 {neg : Bool} {up fr : Nat} (hu : up < 2048) (hf : fr < 2 ^ 52) : fX2_hasWhole_b23 (SC 7 neg (up * 2 ^ 52 + fr)) = some (bz (neg = true ∧ up = 1086 ∧ fr = 0)) := by
  unfold fX2_hasWhole_b23
  by_cases z : neg = true ∧ up = 1086 ∧ fr = 0
  · rw [if_pos ((d_least hu hf).mpr z), bz_t z]
  · rw [if_neg (fun y => z ((d_least hu hf).mp y)), bz_f z]
theorem d_ne {neg : Bool} {up fr : Nat} (h0 : 0 < up) (hu : up < 2048) (hf : fr < 2 ^ 52) : ¬ SC 7 neg (up * 2 ^ 52 + fr) = 0 := SC_ne (k := 7) (Or.inr rfl) h0 hu hf
/-- a double below 1 is no whole number -/
theorem hw_no {neg : Bool} {up fr : Nat} (h0 : 0 < up) (hu : up < 1023) (hf : fr < 2 ^ 52) : fX2_hasWhole (SC 7 neg (up * 2 ^ 52 + fr)) = some 0 := by
  have hneg : nI up - 1023 < (0 : Int32) := pk_sneg (b := 1023) (by decide) hu
  unfold fX2_hasWhole
  rw [if_neg (d_ne h0 (by omega) hf), bd (d_exp (by omega) hf), if_pos hneg, d_b23 (by omega) hf, bz_f (by omega)]
theorem d_x {x : Nat} : nI (1023 + x) - 1023 = nI x := by
  rw [show (1023 : Int32) = nI 1023 from rfl, pk_sub (by omega), Nat.add_sub_cancel_left]
theorem hw_frac {neg : Bool} {x fr : Nat} (hx : x < 52) (hf : fr < 2 ^ 52) (hd : ¬ (fr + 2 ^ 52) % 2 ^ (52 - x) = 0) : fX2_hasWhole (SC 7 neg ((1023 + x) * 2 ^ 52 + fr)) = some 0 := by
  have hM : jlshl (1 : Int64) (52 - nI x) - 1 = lN (2 ^ (52 - x) - 1) := by
    rw [show (52 : Int32) = nI 52 from rfl, pk_sub (by omega), show (1 : Int64) = lN 1 from rfl, lshl_n _ (by omega), Nat.one_mul, lN_sub (p2 _)]
  have hmod : (fr + 2 ^ 52) % 2 ^ (52 - x) < 2 ^ 63 := Nat.lt_of_le_of_lt (Nat.mod_le _ _) (by omega)
  unfold fX2_hasWhole
  rw [if_neg (d_ne (by omega) (by omega) hf), bd (d_exp (by omega) hf), d_x, if_neg (nI_pos (by omega)), if_pos (show nI x ≤ (62 : Int32) from nI_le (b := 62) (by omega) (by decide)), if_neg (show ¬ (52 : Int32) ≤ nI x from nI_ge (b := 52) hx (by decide)), bd (d_sig (by omega) hf), hM, fb_maskL, if_neg (show ¬ lN ((fr + 2 ^ 52) % 2 ^ (52 - x)) = 0 from fun z => hd ((pk_lEQ (b := 0) hmod (by decide)).mp z))]
theorem hw_int {neg : Bool} {x fr V : Nat} (hx : x ≤ 63) (hf : fr < 2 ^ 52) (hV : (fr + 2 ^ 52) * 2 ^ x = V * 2 ^ 52) : fX2_hasWhole (SC 7 neg ((1023 + x) * 2 ^ 52 + fr)) = some (bz (x ≤ 62 ∨ (neg = true ∧ fr = 0))) ∧ fX2_wholeOf (SC 7 neg ((1023 + x) * 2 ^ 52 + fr)) = some (sv neg V) := by
  have hne := d_ne (neg := neg) (up := 1023 + x) (by omega) (by omega) hf
  have hge : 0 ≤ SC 7 neg ((1023 + x) * 2 ^ 52 + fr) ↔ neg = false := SC_ge (k := 7) (Or.inr rfl) (show 1023 + x < 2048 by omega) hf
  have b39 : ∀ s, fX2_wholeOf_b39 (SC 7 neg ((1023 + x) * 2 ^ 52 + fr)) (lN s) = some (sv neg s) := by
    intro s
    unfold fX2_wholeOf_b39
    cases neg with
    | false => rw [if_pos (hge.mpr rfl)]; rfl
    | true => rw [if_neg (fun z => absurd (hge.mp z) (by decide))]; rfl
  by_cases h52 : x < 52
  · have hS : fr + 2 ^ 52 = V * 2 ^ (52 - x) := by
      have e : 2 ^ 52 = 2 ^ (52 - x) * 2 ^ x := by rw [← p2a]; congr 1; omega
      have : (fr + 2 ^ 52) * 2 ^ x = V * 2 ^ (52 - x) * 2 ^ x := by rw [hV, Nat.mul_assoc, ← e]
      exact Nat.eq_of_mul_eq_mul_right (p2 x) this
    have hM : jlshl (1 : Int64) (52 - nI x) - 1 = lN (2 ^ (52 - x) - 1) := by
      rw [show (52 : Int32) = nI 52 from rfl, pk_sub (by omega), show (1 : Int64) = lN 1 from rfl, lshl_n _ (by omega), Nat.one_mul, lN_sub (p2 _)]
    refine ⟨?_, ?_⟩
    · unfold fX2_hasWhole
      rw [if_neg hne, bd (d_exp (by omega) hf), d_x, if_neg (nI_pos (by omega)), if_pos (show nI x ≤ (62 : Int32) from nI_le (b := 62) (by omega) (by decide)), if_neg (show ¬ (52 : Int32) ≤ nI x from nI_ge (b := 52) h52 (by decide)), bd (d_sig (by omega) hf), hM, fb_maskL, hS, Nat.mul_mod_left, if_pos (show lN 0 = 0 from rfl), bz_t (Or.inl (by omega))]
    · unfold fX2_wholeOf
      rw [if_neg hne, bd (d_exp (by omega) hf), d_x, bd (d_sig (by omega) hf), if_pos (show nI x < (52 : Int32) from nI_lt (b := 52) h52 (by decide)), show (52 : Int32) = nI 52 from rfl, pk_sub (by omega), lshr_n (by omega) (by omega), hS, Nat.mul_div_cancel _ (p2 _)]
      exact b39 V
  · have hS : V = (fr + 2 ^ 52) * 2 ^ (x - 52) := by
      have e : 2 ^ x = 2 ^ (x - 52) * 2 ^ 52 := by rw [← p2a]; congr 1; omega
      rw [e, ← Nat.mul_assoc] at hV
      exact (Nat.eq_of_mul_eq_mul_right (p2 52) hV).symm
    refine ⟨?_, ?_⟩
    · unfold fX2_hasWhole
      rw [if_neg hne, bd (d_exp (by omega) hf), d_x, if_neg (nI_pos (by omega))]
      by_cases h62 : x ≤ 62
      · rw [if_pos (show nI x ≤ (62 : Int32) from nI_le (b := 62) h62 (by decide)), if_pos (show (52 : Int32) ≤ nI x from nI_le (a := 52) (by omega) (by omega)), bz_t (Or.inl h62)]
      · rw [if_neg (show ¬ nI x ≤ (62 : Int32) from nI_ge (a := 62) (by omega) (by omega)), d_b23 (by omega) hf]
        congr 1
        apply bz_c
        constructor
        · intro z; exact Or.inr ⟨z.1, z.2.2⟩
        · intro z
          rcases z with z | z
          · omega
          · exact ⟨z.1, by omega, z.2⟩
    · unfold fX2_wholeOf
      rw [if_neg hne, bd (d_exp (by omega) hf), d_x, bd (d_sig (by omega) hf), if_neg (show ¬ nI x < (52 : Int32) from nI_nlt (b := 52) (by omega) (by omega)), show (52 : Int32) = nI 52 from rfl, pk_sub (by omega), lshl_n _ (by omega), ← hS]
      exact b39 V
/-- a float or double as a double, and its parts -/
theorem fl_parts {a : Nat} (ha : a = 6 ∨ a = 7) {c : Int64} (hc : VC a c) : (c = 0 ∧ fX2_asDouble c (nI a) = some 0) ∨ ∃ neg up fr M J, 1020 ≤ up ∧ up ≤ 1086 ∧ fr < 2 ^ 52 ∧ J ≤ 52 ∧ fr + 2 ^ 52 = M * 2 ^ J ∧ Tp M (52 - J) ∧ fX2_asDouble c (nI a) = some (SC 7 neg (up * 2 ^ 52 + fr)) ∧ Pt a c neg M ((up : Int) - 1023 - 52 + J) := by
  have T52 : ∀ {M J fr : Nat}, fr < 2 ^ 52 → fr + 2 ^ 52 = M * 2 ^ J → J ≤ 52 ∧ Tp M (52 - J) := by
    intro M J fr hf e
    have h : Tp (fr + 2 ^ 52) 52 := ⟨by omega, by omega⟩
    exact odd_tp h e
  rcases ha with rfl | rfl
  · rcases (FK_6e c).mp ((FK_6 c).mp hc) with rfl | ⟨neg, up, fr, u1, u2, hf, rfl⟩
    · left
      refine ⟨rfl, ?_⟩
      unfold fX2_asDouble fX2_doubleOfFloat
      rw [if_pos (show nI 6 = 6 from rfl), if_pos rfl]
      rfl
    · right
      obtain ⟨M, j, e, hM⟩ := odd_ex (show 0 < 2 ^ 23 + fr by omega)
      have hlt : fr * 2 ^ 29 < 2 ^ 52 := by
        rw [show 2 ^ 52 = 2 ^ 23 * 2 ^ 29 from (p2a 23 29)]
        exact (Nat.mul_lt_mul_right (p2 29)).mpr hf
      have e2 : fr * 2 ^ 29 + 2 ^ 52 = M * 2 ^ (j + 29) := by
        rw [p2a, ← Nat.mul_assoc, ← e, Nat.add_mul, ← p2a, Nat.add_comm]
      obtain ⟨t1, t2⟩ := T52 hlt e2
      have hM63 : M < 2 ^ 63 := Nat.lt_of_lt_of_le t2.2 (p2le (by omega))
      refine ⟨neg, up + 896, fr * 2 ^ 29, M, j + 29, by omega, by omega, hlt, t1, e2, t2, ?_, hM, hM63, fun μ => ?_⟩
      · unfold fX2_asDouble
        rw [if_pos (show nI 6 = 6 from rfl), cx_dof (by omega) (by omega) hf]
        rfl
      · obtain ⟨μ', g1, g2, g3, g4⟩ := ta_flt (k := 6) (Or.inl rfl) (neg := neg) (up := up) (fr := fr) (M := M) (j := j) μ (by omega) (by show up < 256; omega) hf hM e
        have ee : (up : Int) - 127 - 23 + j = ((up + 896 : Nat) : Int) - 1023 - 52 + ((j + 29 : Nat) : Int) := by omega
        refine ⟨μ', g1, g2, g3, ?_⟩
        rw [← ee]
        exact g4
  · rcases (FK_7e c).mp ((FK_7 c).mp hc) with rfl | ⟨neg, up, fr, u1, u2, hf, rfl⟩
    · left
      refine ⟨rfl, ?_⟩
      unfold fX2_asDouble
      rw [if_neg (show ¬ nI 7 = 6 by decide)]
    · right
      obtain ⟨M, j, e, hM⟩ := odd_ex (show 0 < 2 ^ 52 + fr by omega)
      have e2 : fr + 2 ^ 52 = M * 2 ^ j := by rw [← e, Nat.add_comm]
      obtain ⟨t1, t2⟩ := T52 hf e2
      have hM63 : M < 2 ^ 63 := Nat.lt_of_lt_of_le t2.2 (p2le (by omega))
      refine ⟨neg, up, fr, M, j, u1, u2, hf, t1, e2, t2, ?_, hM, hM63, fun μ => ?_⟩
      · unfold fX2_asDouble
        rw [if_neg (show ¬ nI 7 = 6 by decide)]
      · exact ta_flt (k := 7) (Or.inr rfl) (neg := neg) (up := up) (fr := fr) (M := M) (j := j) μ (by omega) (by show up < 2048; omega) hf hM e
theorem fodW {u X : Nat} (hu : u < 256) (hX : X < 2 ^ 23) : u * 2 ^ 23 + X < 2 ^ 31 := by omega
theorem cx_fod {neg : Bool} {up fr : Nat} (hu1 : 1020 ≤ up) (hu : up ≤ 1086) (hf : fr < 2 ^ 52) : fX2_floatOfDouble (SC 7 neg (up * 2 ^ 52 + fr)) = some (SC 6 neg ((up - 896) * 2 ^ 23 + fr / 2 ^ 29)) := by
  obtain ⟨a1, a2, a3⟩ := uN_7 (neg := neg) (up := up) (fr := fr) (by omega) hf
  have hne := d_ne (neg := neg) (up := up) (fr := fr) (by omega) (by omega) hf
  have hge : 0 ≤ SC 7 neg (up * 2 ^ 52 + fr) ↔ neg = false := SC_ge (k := 7) (Or.inr rfl) (show up < 2048 by omega) hf
  have f1 : SC 7 neg (up * 2 ^ 52 + fr) &&& 4503599627370495 = lN fr := by
    rw [SC_u, show (4503599627370495 : Int64) = lN (2 ^ 52 - 1) from rfl, fb_maskL]
    exact congrArg lN a1
  have f2 : jlshr (SC 7 neg (up * 2 ^ 52 + fr)) 52 &&& 2047 = lN up := by
    rw [SC_u]
    exact (sar_mask (s := 52) (w := 11) (by decide) (by decide)).trans (congrArg lN a2)
  have hq : fr / 2 ^ 29 < 2 ^ 23 := by
    rw [Nat.div_lt_iff_lt_mul (p2 29), ← p2a]
    exact hf
  have e0 : lN up - 896 = lN (up - 896) := by
    rw [show (896 : Int64) = lN 896 from rfl, lN_sub (by omega)]
  have e1 : jlshl (lN (up - 896)) 23 = lN ((up - 896) * 2 ^ 23) := lshl_n (k := 23) _ (by decide)
  have e2 : jlshr (lN fr) 29 = lN (fr / 2 ^ 29) := lshr_n (k := 29) (by omega) (by decide)
  have e : (jlshl (lN (up - 896)) 23) ||| lN (fr / 2 ^ 29) = lN ((up - 896) * 2 ^ 23 + fr / 2 ^ 29) := by
    rw [e1, Nat.mul_comm (up - 896), fb_or_sumL (k := 23) (a := fr / 2 ^ 29) (up - 896) hq]
  have hW : (up - 896) * 2 ^ 23 + fr / 2 ^ 29 < 2 ^ 31 := fodW (by omega) hq
  unfold fX2_floatOfDouble fX2_floatOfDouble_b42
  rw [if_neg hne, f1, f2, e0, e2, e]
  unfold fX2_signedFloat
  cases neg with
  | false =>
    rw [if_pos (hge.mpr rfl), if_pos rfl]
    rfl
  | true =>
    rw [if_neg (fun z => absurd (hge.mp z) (by decide)), if_neg (by decide), show (2147483648 : Int64) = lN (2 ^ 31) from rfl, sx31 hW]
    rfl
