/-! NUMBERS 12: the same number, from floats and doubles -/
theorem odd_div {M J k : Nat} (hM : M % 2 = 1) : M * 2 ^ J % 2 ^ k = 0 ↔ k ≤ J := by
  constructor
  · intro z
    apply Nat.le_of_not_lt
    intro y
    obtain ⟨q, hq⟩ := Nat.dvd_of_mod_eq_zero z
    have e : 2 ^ k = 2 * 2 ^ (k - J - 1) * 2 ^ J := by rw [← p2s, ← p2a]; congr 1; omega
    rw [e, Nat.mul_right_comm] at hq
    have := Nat.eq_of_mul_eq_mul_right (p2 J) hq
    rw [Nat.mul_assoc] at this
    omega
  · intro z
    have e : 2 ^ J = 2 ^ (J - k) * 2 ^ k := by rw [← p2a, Nat.sub_add_cancel z]
    rw [e, ← Nat.mul_assoc, Nat.mul_mod_left]
theorem ob_C {a b : Nat} (ha : a = 6 ∨ a = 7) (hb1 : 1 ≤ b) (hb : b < 6) {c : Int64} {neg : Bool} {up fr M J : Nat} (u1 : 1020 ≤ up) (u2 : up ≤ 1086) (hf : fr < 2 ^ 52) (hJ : J ≤ 52) (hS : fr + 2 ^ 52 = M * 2 ^ J) (hT : Tp M (52 - J)) (hD : fX2_asDouble c (nI a) = some (SC 7 neg (up * 2 ^ 52 + fr))) (hP : Pt a c neg M ((up : Int) - 1023 - 52 + J)) : Ob a b c := by
  have na : (6 : Int32) ≤ nI a := nI_le (a := 6) (by omega) (by omega)
  have nb : ¬ (6 : Int32) ≤ nI b := nI_ge (b := 6) hb (by decide)
  have hM := hP.1
  have hno : fX2_hasWhole (SC 7 neg (up * 2 ^ 52 + fr)) = some 0 → (up : Int) - 1023 - 52 + J < 0 → Ob a b c := by
    intro h1 h2
    refine ⟨false, ?_, fun μ => ?_, fun z => absurd z (by decide)⟩
    · unfold fX2_hasNumber
      rw [if_pos na, bd hD, if_neg nb, bd h1, if_pos rfl]
      rfl
    · obtain ⟨μ1, k0, k1, -, -⟩ := one_lo hP hT hb1 (show b ≤ 5 by omega) (by omega) (by omega) μ
      exact ⟨μ1, k1 h2, k0⟩
  by_cases hup : up < 1023
  · exact hno (hw_no (by omega) hup hf) (by omega)
  · obtain ⟨x, rfl⟩ : ∃ x, up = 1023 + x := ⟨up - 1023, by omega⟩
    by_cases hfrac : x < 52 ∧ ¬ (fr + 2 ^ 52) % 2 ^ (52 - x) = 0
    · have hlt : ¬ 52 - x ≤ J := by
        intro z
        apply hfrac.2
        rw [hS]
        exact (odd_div hM).mpr z
      exact hno (hw_frac hfrac.1 hf hfrac.2) (by omega)
    · have hge : 52 ≤ J + x := by
        by_cases z : x < 52
        · have h0 : (fr + 2 ^ 52) % 2 ^ (52 - x) = 0 := by
            apply Decidable.byContradiction
            intro y
            exact hfrac ⟨z, y⟩
          rw [hS] at h0
          have := (odd_div hM).mp h0
          omega
        · omega
      obtain ⟨p, hp⟩ : ∃ p, J + x = p + 52 := ⟨J + x - 52, by omega⟩
      have hpi : ((1023 + x : Nat) : Int) - 1023 - 52 + J = (p : Int) := by omega
      rw [hpi] at hP
      have htn : ((p : Nat) : Int).toNat = p := rfl
      have hV : (fr + 2 ^ 52) * 2 ^ x = M * 2 ^ p * 2 ^ 52 := by rw [hS, Nat.mul_assoc, ← p2a, hp, p2a, ← Nat.mul_assoc]
      obtain ⟨hW1, hW2⟩ := hw_int (neg := neg) (show x ≤ 63 by omega) hf hV
      obtain ⟨w, w1, w2, w3⟩ := fits_b hb1 (show b ≤ 5 by omega) (sv neg (M * 2 ^ p))
      have hsame : fX2_sameNumber c (nI a) (nI b) = some (sv neg (M * 2 ^ p)) := by
        unfold fX2_sameNumber
        rw [if_pos na, bd hD, if_neg nb, bd hW2]
      have has : ∀ μ, ∃ μ1, fX8_asOne (nI a) c (nI b) μ = some (sv neg (M * 2 ^ p), μ1) ∧ EqA μ μ1 := by
        intro μ
        have := as_lo (b := b) hP (by omega) (by omega) (by omega) μ
        rw [htn] at this
        exact this
      by_cases hx : x ≤ 62
      · refine ⟨w, ?_, fun μ => ?_, fun hw => ⟨_, hsame, w3.mp hw, has⟩⟩
        · unfold fX2_hasNumber
          rw [if_pos na, bd hD, if_neg nb, bd hW1, bz_t (Or.inl hx), if_neg one_ne, bd hW2, bd w2]
          cases w with
          | false => rfl
          | true => rfl
        · obtain ⟨μ1, k0, -, k2, -⟩ := one_lo hP hT hb1 (show b ≤ 5 by omega) (by omega) (by omega) μ
          refine ⟨μ1, ?_, k0⟩
          rw [k2 (by omega) (by omega), htn, bd w1, if_pos (rbz_bz _)]
      · have hx63 : x = 63 := by omega
        by_cases hmin : neg = true ∧ fr = 0
        · have ho : M = 1 ∧ J = 52 := by
            rw [hmin.2, Nat.zero_add] at hS
            exact odd_pow hM hS.symm
          have hp63 : p = 63 := by omega
          have hval : sv neg (M * 2 ^ p) = sv true (2 ^ 63) := by rw [hmin.1, ho.1, hp63, Nat.one_mul]
          refine ⟨w, ?_, fun μ => ?_, fun hw => ⟨_, hsame, w3.mp hw, has⟩⟩
          · unfold fX2_hasNumber
            rw [if_pos na, bd hD, if_neg nb, bd hW1, bz_t (Or.inr hmin), if_neg one_ne, bd hW2, bd w2]
            cases w with
            | false => rfl
            | true => rfl
          · obtain ⟨μ1, k0, -, -, k3⟩ := one_lo hP hT hb1 (show b ≤ 5 by omega) (by omega) (by omega) μ
            refine ⟨μ1, ?_, k0⟩
            rw [k3 (by omega) (by omega)]
            congr 2
            apply bz_c
            rw [w3, hval, VC_min hb1 (by omega)]
            exact ⟨fun y => y.1, fun y => ⟨y, hmin.1, ho.1, by omega⟩⟩
        · refine ⟨false, ?_, fun μ => ?_, fun z => absurd z (by decide)⟩
          · unfold fX2_hasNumber
            rw [if_pos na, bd hD, if_neg nb, bd hW1, bz_f (fun z => by rcases z with z | z; exact hx z; exact hmin z), if_pos rfl]
            rfl
          · obtain ⟨μ1, k0, -, -, k3⟩ := one_lo hP hT hb1 (show b ≤ 5 by omega) (by omega) (by omega) μ
            refine ⟨μ1, ?_, k0⟩
            rw [k3 (by omega) (by omega), bz_f (fun z => hmin ⟨z.2.1, by
              have hJ52 : J = 52 := by omega
              have hM1 := z.2.2.1
              rw [hM1, hJ52, Nat.one_mul] at hS
              omega⟩)]
            rfl
theorem ob_D {a b : Nat} (ha : a = 6 ∨ a = 7) (hb : b = 6 ∨ b = 7) {c : Int64} {neg : Bool} {up fr M J : Nat} (u1 : 1020 ≤ up) (u2 : up ≤ 1086) (hf : fr < 2 ^ 52) (hJ : J ≤ 52) (hS : fr + 2 ^ 52 = M * 2 ^ J) (hT : Tp M (52 - J)) (hD : fX2_asDouble c (nI a) = some (SC 7 neg (up * 2 ^ 52 + fr))) (hP : Pt a c neg M ((up : Int) - 1023 - 52 + J)) : Ob a b c := by
  have na : (6 : Int32) ≤ nI a := nI_le (a := 6) (by omega) (by omega)
  have nb : (6 : Int32) ≤ nI b := nI_le (a := 6) (by omega) (by omega)
  have hM := hP.1
  rcases hb with rfl | rfl
  · have hu := (uN_7 (neg := neg) (up := up) (fr := fr) (by omega) hf)
    have hand : SC 7 neg (up * 2 ^ 52 + fr) &&& 536870911 = lN (fr % 2 ^ 29) := by
      rw [SC_u, show (536870911 : Int64) = lN (2 ^ 29 - 1) from rfl, fb_maskL]
      congr 1
      have e1 := hu.1
      generalize uN 7 neg (up * 2 ^ 52 + fr) = X at e1
      rw [← e1, show 2 ^ 52 = 2 ^ 29 * 2 ^ 23 from p2a 29 23, Nat.mod_mul_right_mod]
    have hfS : fr % 2 ^ 29 = 0 ↔ 29 ≤ J := by
      rw [← odd_div (k := 29) hM, ← hS]
      omega
    have hand0 : (SC 7 neg (up * 2 ^ 52 + fr) &&& 536870911 = 0) ↔ fr % 2 ^ 29 = 0 := by
      rw [hand]
      exact pk_lEQ (b := 0) (by omega) (by decide)
    have hm : 52 - J ≤ bK 6 ↔ 29 ≤ J := by
      show 52 - J ≤ 23 ↔ _
      omega
    refine ⟨decide (29 ≤ J), ?_, fun μ => ?_, fun hw => ?_⟩
    · unfold fX2_hasNumber
      rw [if_pos na, bd hD, if_pos nb, if_neg (show ¬ nI 6 = 7 by decide)]
      by_cases z : 29 ≤ J
      · rw [if_pos (hand0.mpr (hfS.mpr z)), bz_t (decide_eq_true z)]
      · rw [if_neg (fun y => z (hfS.mp (hand0.mp y))), bz_f (by rw [decide_eq_false z]; decide)]
    · obtain ⟨μ1, k1, k2⟩ := one_hi hP hT (Or.inl rfl) μ
      refine ⟨μ1, ?_, k2⟩
      rw [k1]
      congr 2
      exact bz_c (hm.trans decide_eq_true_iff.symm)
    · have hJ29 : 29 ≤ J := of_decide_eq_true hw
      have hq : fr / 2 ^ 29 < 2 ^ 23 := by
        rw [Nat.div_lt_iff_lt_mul (p2 29), ← p2a]
        exact hf
      have hSd : fr / 2 ^ 29 + 2 ^ 23 = M * 2 ^ (J - 29) := by
        have e1 : 2 ^ J = 2 ^ (J - 29) * 2 ^ 29 := by rw [← p2a, Nat.sub_add_cancel hJ29]
        have e2 : (fr + 2 ^ 52) / 2 ^ 29 = M * 2 ^ (J - 29) := by rw [hS, e1, ← Nat.mul_assoc, Nat.mul_div_cancel _ (p2 29)]
        rw [← e2, show 2 ^ 52 = 2 ^ 23 * 2 ^ 29 from p2a 23 29, Nat.add_mul_div_right _ _ (p2 29)]
      have hrT : rT 23 M (52 - J) = M * 2 ^ (J - 29) := by
        unfold rT
        rw [if_pos (by omega)]
        congr 2
        omega
      refine ⟨SC 6 neg ((up - 896) * 2 ^ 23 + fr / 2 ^ 29), ?_, (FK_6 _).mpr ((FK_6e _).mpr (Or.inr ⟨neg, up - 896, fr / 2 ^ 29, by omega, by omega, hq, rfl⟩)), fun μ => ?_⟩
      · unfold fX2_sameNumber
        rw [if_pos na, bd hD, if_pos nb, if_neg (show ¬ nI 6 = 7 by decide), bd (cx_fod u1 u2 hf)]
      · obtain ⟨μ1, k1, k2⟩ := as_hi (b := 6) (E := up - 897) hP hT (Or.inl rfl) (by show ((up - 897 : Nat) : Int) = _ + ((52 - J : Nat) : Int) + 127 - 1; omega) (by show up - 897 ≤ 127 + 62; omega) μ
        refine ⟨μ1, ?_, k2⟩
        have hW : (up - 897) * 2 ^ bK 6 + rT (bK 6) M (52 - J) = (up - 896) * 2 ^ 23 + fr / 2 ^ 29 := by
          rw [show bK 6 = 23 from rfl, hrT, ← hSd, show up - 896 = up - 897 + 1 by omega, Nat.add_mul (up - 897) 1, Nat.one_mul, Nat.add_assoc, Nat.add_comm (2 ^ 23)]
        rw [k1, hW]
  · have hm : 52 - J ≤ bK 7 := by
      show 52 - J ≤ 52
      omega
    refine ⟨true, ?_, fun μ => ?_, fun _ => ⟨SC 7 neg (up * 2 ^ 52 + fr), ?_, (FK_7 _).mpr ((FK_7e _).mpr (Or.inr ⟨neg, up, fr, u1, u2, hf, rfl⟩)), fun μ => ?_⟩⟩
    · unfold fX2_hasNumber
      rw [if_pos na, bd hD, if_pos nb, if_pos (show nI 7 = 7 from rfl)]
      rfl
    · obtain ⟨μ1, k1, k2⟩ := one_hi hP hT (Or.inr rfl) μ
      refine ⟨μ1, ?_, k2⟩
      rw [k1, bz_t hm]
      rfl
    · unfold fX2_sameNumber
      rw [if_pos na, bd hD, if_pos nb, if_pos (show nI 7 = 7 from rfl)]
    · obtain ⟨μ1, k1, k2⟩ := as_hi (b := 7) (E := up - 1) hP hT (Or.inr rfl) (by show ((up - 1 : Nat) : Int) = _ + ((52 - J : Nat) : Int) + 1023 - 1; omega) (by show up - 1 ≤ 1023 + 62; omega) μ
      refine ⟨μ1, ?_, k2⟩
      have hrT : rT 52 M (52 - J) = fr + 2 ^ 52 := by
        unfold rT
        rw [if_pos (by omega), hS]
        congr 2
        omega
      have hW : (up - 1) * 2 ^ bK 7 + rT (bK 7) M (52 - J) = up * 2 ^ 52 + fr := by
        have e : up = up - 1 + 1 := by omega
        rw [show bK 7 = 52 from rfl, hrT]
        conv => rhs; rw [e, Nat.add_mul, Nat.one_mul]
        rw [Nat.add_assoc, Nat.add_comm (2 ^ 52)]
      rw [k1, hW]
/-- the same number of another type: both sides agree -/
theorem n_one {a b : Nat} (ha1 : 1 ≤ a) (ha : a < 8) (hb1 : 1 ≤ b) (hb : b < 8) {c : Int64} (hc : VC a c) : Ob a b c := by
  by_cases z : c = 0
  · subst z
    exact ob_0 ha1 ha hb1 hb
  · by_cases h6 : a < 6
    · by_cases g6 : b < 6
      · exact ob_A h6 hb1 g6 z
      · exact ob_B h6 (by omega) z
    · have ha67 : a = 6 ∨ a = 7 := by omega
      rcases fl_parts ha67 hc with ⟨y, -⟩ | ⟨neg, up, fr, M, J, u1, u2, hf, hJ, hS, hT, hD, hP⟩
      · exact absurd y z
      · by_cases g6 : b < 6
        · exact ob_C ha67 hb1 g6 u1 u2 hf hJ hS hT hD hP
        · exact ob_D ha67 (by omega) u1 u2 hf hJ hS hT hD hP
