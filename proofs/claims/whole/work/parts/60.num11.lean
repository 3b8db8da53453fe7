/-! NUMBERS 11: the same number, both sides -/
def Ob (a b : Nat) (c : Int64) : Prop := ∃ w : Bool, fX2_hasNumber c (nI a) (nI b) = some (bz (w = true)) ∧ (∀ μ, ∃ μ1, fX8_isOne (nI a) c (nI b) μ = some (bz (w = true), μ1) ∧ EqA μ μ1) ∧ (w = true → ∃ c', fX2_sameNumber c (nI a) (nI b) = some c' ∧ VC b c' ∧ ∀ μ, ∃ μ1, fX8_asOne (nI a) c (nI b) μ = some (c', μ1) ∧ EqA μ μ1)
theorem hn_0 : ∀ a, a < 8 → ∀ b, b < 8 → a = 0 ∨ b = 0 ∨ (fX2_hasNumber 0 (nI a) (nI b) = some 1 ∧ fX2_sameNumber 0 (nI a) (nI b) = some 0) := by decide +kernel
theorem VC_0 {b : Nat} (hb : b < 8) : VC b 0 := by
  have g : b = 0 ∨ b = 1 ∨ b = 2 ∨ b = 3 ∨ b = 4 ∨ b = 5 ∨ b = 6 ∨ b = 7 := by omega
  rcases g with rfl | rfl | rfl | rfl | rfl | rfl | rfl | rfl
  · exact Or.inl rfl
  · exact ⟨by decide, by decide⟩
  · exact ⟨by decide, by decide⟩
  · exact ⟨by decide, by decide⟩
  · exact ⟨by decide, by decide⟩
  · exact trivial
  · exact Or.inl rfl
  · exact Or.inl rfl
theorem ob_0 {a b : Nat} (ha1 : 1 ≤ a) (ha : a < 8) (hb1 : 1 ≤ b) (hb : b < 8) : Ob a b 0 := by
  have hx : fX2_hasNumber 0 (nI a) (nI b) = some 1 ∧ fX2_sameNumber 0 (nI a) (nI b) = some 0 := by
    rcases hn_0 a ha b hb with z | z | z
    · omega
    · omega
    · exact z
  have hta : ∀ μ, ∃ μ', fX8_takeApart (nI a) 0 μ = some μ' ∧ EqA μ μ' ∧ μ'.2 0 42 = 0 := by
    intro μ
    by_cases h6 : a < 6
    · exact ta_int0 h6 μ
    · exact ta_flt0 (show a = 6 ∨ a = 7 by omega) μ
  refine ⟨true, hx.1, fun μ => ?_, fun _ => ⟨0, hx.2, VC_0 hb, fun μ => ?_⟩⟩
  · obtain ⟨μ', g1, g2, g3⟩ := hta μ
    refine ⟨μ', ?_, g2⟩
    unfold fX8_isOne
    rw [bd g1, g3]
    by_cases h6 : b < 6
    · rw [if_pos (show nI b < 6 from nI_lt (b := 6) h6 (by decide)), if_pos rfl]
      rfl
    · rw [if_neg (show ¬ nI b < 6 from nI_nlt (b := 6) (by omega) (by omega)), if_pos (by decide)]
      unfold fX8_isOne_b34 fX8_isOne_b51
      have hl : fX8_lengthOf 0 = some 0 := by decide +kernel
      rw [bd hl]
      by_cases z : nI b = 6
      · rw [if_pos z, if_neg (by decide)]; rfl
      · rw [if_neg z, if_neg (by decide)]; rfl
  · obtain ⟨μ', g1, g2, g3⟩ := hta μ
    refine ⟨μ', ?_, g2⟩
    unfold fX8_asOne
    rw [bd g1, g3]
    by_cases h6 : b < 6
    · rw [if_pos (show nI b < 6 from nI_lt (b := 6) h6 (by decide)), if_pos rfl]
    · rw [if_neg (show ¬ nI b < 6 from nI_nlt (b := 6) (by omega) (by omega))]
      unfold fX8_rounded
      rw [if_pos rfl]
      rfl
theorem odd_pow {M j k : Nat} (h1 : M % 2 = 1) (h : M * 2 ^ j = 2 ^ k) : M = 1 ∧ j = k := by
  by_cases z : j < k
  · have e : 2 ^ k = 2 * 2 ^ (k - j - 1) * 2 ^ j := by rw [← p2s, ← p2a]; congr 1; omega
    rw [e] at h
    have := Nat.eq_of_mul_eq_mul_right (p2 j) h
    omega
  · have h2 := p2le (show k ≤ j by omega)
    have h3 : M * 2 ^ j ≤ 1 * 2 ^ j := by rw [h, Nat.one_mul]; exact h2
    have h4 := Nat.le_of_mul_le_mul_right h3 (p2 j)
    have hM : M = 1 := by omega
    rw [hM, Nat.one_mul] at h
    refine ⟨hM, ?_⟩
    rcases Nat.lt_or_ge k j with y | y
    · have := p2lt y
      omega
    · omega
/-- a whole number's parts, in full -/
theorem int_parts {a : Nat} (ha : a < 6) {c : Int64} (hc : ¬ c = 0) : ∃ neg N M j l, c = sv neg N ∧ 0 < N ∧ N ≤ 2 ^ 63 ∧ (neg = false → N < 2 ^ 63) ∧ Tp N l ∧ l ≤ 63 ∧ (l = 63 → N = 2 ^ 63 ∧ neg = true ∧ M = 1 ∧ j = 63) ∧ N = M * 2 ^ j ∧ j ≤ l ∧ Tp M (l - j) ∧ Pt a c neg M j := by
  obtain ⟨neg, N, rfl, h0, hN, hp⟩ := sv_ex c hc
  obtain ⟨l, h⟩ := Tp.ex h0
  obtain ⟨M, j, e, hM⟩ := odd_ex h0
  obtain ⟨t1, t2⟩ := top63 h hN
  obtain ⟨hj, hT⟩ := odd_tp h e
  have hM63 : M < 2 ^ 63 := by
    have hMN : M ≤ N := by rw [e]; exact Nat.le_mul_of_pos_right _ (p2 j)
    have h63 : 2 ^ 63 % 2 = 0 := by decide
    by_cases z : M = 2 ^ 63
    · rw [z] at hM
      omega
    · omega
  refine ⟨neg, N, M, j, l, rfl, h0, hN, hp, h, t1, fun hl => ?_, e, hj, hT, hM, hM63, fun μ => ?_⟩
  · have hN63 : N = 2 ^ 63 := by have := t2 hl; rw [hl] at this; exact this
    have ho := odd_pow hM (e.symm.trans hN63)
    refine ⟨hN63, ?_, ho.1, ho.2⟩
    cases neg with
    | false => have := hp rfl
               omega
    | true => rfl
  · have := ta_int (neg := neg) (j := j) ha μ hM (by rw [← e]; exact hN) (by rw [← e]; exact hp)
    rw [← e] at this
    exact this
theorem ob_A {a b : Nat} (ha : a < 6) (hb1 : 1 ≤ b) (hb : b < 6) {c : Int64} (hc : ¬ c = 0) : Ob a b c := by
  obtain ⟨neg, N, M, j, l, rfl, h0, hN, hp, h, hl, hl63, e, hj, hT, hP⟩ := int_parts ha hc
  obtain ⟨w, w1, w2, w3⟩ := fits_b hb1 (show b ≤ 5 by omega) (sv neg N)
  have na : ¬ (6 : Int32) ≤ nI a := nI_ge (b := 6) ha (by decide)
  have nb : ¬ (6 : Int32) ≤ nI b := nI_ge (b := 6) hb (by decide)
  have htn : ((j : Nat) : Int).toNat = j := rfl
  refine ⟨w, ?_, fun μ => ?_, fun hw => ⟨sv neg N, ?_, w3.mp hw, fun μ => ?_⟩⟩
  · unfold fX2_hasNumber
    rw [if_neg na, if_neg nb, bd w2, if_pos (rbz_bz _)]
  · obtain ⟨μ1, k0, k1, k2, k3⟩ := one_lo hP hT hb1 (show b ≤ 5 by omega) (by omega) (by omega) μ
    refine ⟨μ1, ?_, k0⟩
    by_cases z : l ≤ 62
    · rw [k2 (by omega) (by omega), htn, ← e, bd w1, if_pos (rbz_bz _)]
    · obtain ⟨l1, l2, l3, l4⟩ := hl63 (by omega)
      subst l1 l2 l3 l4
      rw [k3 (by omega) (by omega)]
      congr 2
      apply bz_c
      rw [w3, VC_min hb1 (by omega)]
      exact ⟨fun y => y.1, fun y => ⟨y, rfl, rfl, rfl⟩⟩
  · obtain ⟨c', t1, -, t3, -⟩ := n_told (show b < 8 by omega) (sv neg N)
    unfold fX2_sameNumber
    rw [if_neg na, bd t1, t3 hb]
  · obtain ⟨μ1, k1, k2⟩ := as_lo (b := b) hP (by omega) (by omega) (by omega) μ
    rw [htn, ← e] at k1
    exact ⟨μ1, k1, k2⟩
/-- the value of a rounded number -/
theorem ob_B {a b : Nat} (ha : a < 6) (hb : b = 6 ∨ b = 7) {c : Int64} (hc : ¬ c = 0) : Ob a b c := by
  obtain ⟨neg, N, M, j, l, rfl, h0, hN, hp, h, hl, hl63, e, hj, hT, hP⟩ := int_parts ha hc
  have na : ¬ (6 : Int32) ≤ nI a := nI_ge (b := 6) ha (by decide)
  have nb : (6 : Int32) ≤ nI b := nI_le (a := 6) (by omega) (by omega)
  have hB4 : 4 ≤ BK b := by rcases hb with rfl | rfl <;> decide
  have hb52 : bK b ≤ 52 := by rcases hb with rfl | rfl <;> decide
  have hrd := rT_dbl (bK b) M (l - j) j
  rw [← e, Nat.sub_add_cancel hj] at hrd
  have hnear : fX2_nearest (nI b) (sv neg N) (nI 0) = some (SC b neg ((l + BK b - 1 - 0) * 2 ^ bK b + rT (bK b) N l)) := cx_near hb hN hp h (by decide)
  have hofw : fX2_ofWhole (nI b) (sv neg N) = some (SC b neg ((l + BK b - 1 - 0) * 2 ^ bK b + rT (bK b) N l)) := by
    unfold fX2_ofWhole fX2_ofWhole_b12
    rw [show (0 : Int32) = nI 0 from rfl, hnear]
    rcases hb with rfl | rfl
    · rw [if_pos (show nI 6 = 6 from rfl)]; rfl
    · rw [if_neg (show ¬ nI 7 = 6 by decide), if_pos (show nI 7 = 7 from rfl)]; rfl
  have hbd := rT_bd (bK b) h
  obtain ⟨up, fr, q1, q2, q3⟩ := rT_split (E := l + BK b - 1 - 0) h (show rT (bK b) N l < 2 ^ (bK b + 1) ∨ rT (bK b) N l = 2 ^ (bK b + 1) by omega)
  -- the double that it is
  have hup : ∃ x, up = BK b + x ∧ x ≤ 63 ∧ ((x = l ∧ rT (bK b) N l < 2 ^ (bK b + 1)) ∨ (x = l + 1 ∧ rT (bK b) N l = 2 ^ (bK b + 1))) := by
    rcases q3 with ⟨y1, y2⟩ | ⟨y1, y2, y3⟩
    · exact ⟨l, by omega, hl, Or.inl ⟨rfl, y2⟩⟩
    · refine ⟨l + 1, by omega, ?_, Or.inr ⟨rfl, y3⟩⟩
      have : l ≠ 63 := by
        intro z
        rw [(hl63 z).1, z, rT_pow] at y3
        have := p2lt (show bK b < bK b + 1 by omega)
        omega
      omega
  obtain ⟨x, x1, x2, x3⟩ := hup
  obtain ⟨fr2, f1, f2, hD⟩ : ∃ fr2, fr2 < 2 ^ 52 ∧ fr2 + 2 ^ 52 = (fr + 2 ^ bK b) * 2 ^ (52 - bK b) ∧ fX2_asDouble (SC b neg ((l + BK b - 1 - 0) * 2 ^ bK b + rT (bK b) N l)) (nI b) = some (SC 7 neg ((1023 + x) * 2 ^ 52 + fr2)) := by
    rcases hb with rfl | rfl
    · have hq1 : fr < 2 ^ 23 := q1
      have hlt : fr * 2 ^ 29 < 2 ^ 52 := by
        rw [show 2 ^ 52 = 2 ^ 23 * 2 ^ 29 from (p2a 23 29)]
        exact (Nat.mul_lt_mul_right (p2 29)).mpr hq1
      refine ⟨fr * 2 ^ 29, hlt, ?_, ?_⟩
      · rw [show bK 6 = 23 from rfl, show 52 - 23 = 29 from rfl, Nat.add_mul, ← p2a]
      · rw [q2]
        have hup6 : up = 127 + x := x1
        have := cx_dof (neg := neg) (up := up) (fr := fr) (by omega) (by omega) hq1
        unfold fX2_asDouble
        rw [if_pos (show nI 6 = 6 from rfl), show bK 6 = 23 from rfl, this, show up + 896 = 1023 + x by omega]
        rfl
    · refine ⟨fr, q1, ?_, ?_⟩
      · rw [show bK 7 = 52 from rfl, Nat.sub_self, Nat.pow_zero, Nat.mul_one]
      · rw [q2, x1]
        unfold fX2_asDouble
        rw [if_neg (show ¬ nI 7 = 6 by decide)]
        rfl
  obtain ⟨V, hV, hVN⟩ : ∃ V, (fr2 + 2 ^ 52) * 2 ^ x = V * 2 ^ 52 ∧ (V = N ↔ l - j ≤ bK b) := by
    have hval : (fr + 2 ^ bK b) * 2 ^ x = rT (bK b) N l * 2 ^ l := by
      have hr := q2
      rcases q3 with ⟨y1, y2⟩ | ⟨y1, y2, y3⟩
      · have hx : x = l := by
          rcases x3 with z | z
          · exact z.1
          · omega
        rw [y1, Nat.add_mul, Nat.one_mul] at hr
        rw [hx]
        congr 1
        omega
      · have hx : x = l + 1 := by
          rcases x3 with z | z
          · have := p2lt (show bK b < bK b + 1 by omega)
            omega
          · exact z.1
        rw [y2, Nat.zero_add, y3, hx, ← p2a, ← p2a]
        congr 1
        omega
    have hpow : 2 ^ 52 = 2 ^ bK b * 2 ^ (52 - bK b) := by rw [← p2a]; congr 1; omega
    have main : ∀ V, V * 2 ^ bK b = rT (bK b) N l * 2 ^ l → (fr2 + 2 ^ 52) * 2 ^ x = V * 2 ^ 52 := by
      intro V hV
      rw [f2, Nat.mul_right_comm, hval, ← hV, hpow, Nat.mul_assoc]
    by_cases hlb : l ≤ bK b
    · have hr : rT (bK b) N l = N * 2 ^ (bK b - l) := by unfold rT; rw [if_pos hlb]
      refine ⟨N, main N ?_, ⟨fun _ => by omega, fun _ => rfl⟩⟩
      rw [hr, Nat.mul_assoc, ← p2a, Nat.sub_add_cancel hlb]
    · refine ⟨rT (bK b) N l * 2 ^ (l - bK b), main _ ?_, ?_⟩
      · rw [Nat.mul_assoc, ← p2a, Nat.sub_add_cancel (by omega)]
      · constructor
        · intro z
          apply Nat.le_of_not_lt
          intro y
          rw [e] at z
          have e2 : 2 ^ (l - bK b) = 2 * 2 ^ (l - bK b - j - 1) * 2 ^ j := by rw [← p2s, ← p2a]; congr 1; omega
          rw [e2, ← Nat.mul_assoc] at z
          have z2 := Nat.eq_of_mul_eq_mul_right (p2 j) z
          have hM := hP.1
          rw [Nat.mul_left_comm] at z2
          omega
        · intro y
          have hr : rT (bK b) M (l - j) = M * 2 ^ (bK b - (l - j)) := by unfold rT; rw [if_pos y]
          rw [hrd, hr, Nat.mul_assoc, ← p2a, e]
          congr 2
          omega
  obtain ⟨hW1, hW2⟩ := hw_int (neg := neg) x2 f1 hV
  have hsv : sv neg V = sv neg N ↔ V = N := by
    have hV63 : V ≤ 2 ^ 63 := by
      have a1 : (fr2 + 2 ^ 52) * 2 ^ x ≤ 2 ^ 53 * 2 ^ x := Nat.mul_le_mul_right _ (by omega)
      rw [hV] at a1
      by_cases hx62 : x ≤ 62
      · have a2 : 2 ^ 53 * 2 ^ x ≤ 2 ^ 63 * 2 ^ 52 := by rw [← p2a, ← p2a]; exact p2le (by omega)
        exact Nat.le_of_mul_le_mul_right (Nat.le_trans a1 a2) (p2 52)
      · have hx63 : x = 63 := by omega
        have hrt : fr2 = 0 := by
          rcases x3 with ⟨z1, z2⟩ | ⟨z1, z2⟩
          · have hl' : l = 63 := by omega
            have hr := rT_pow (bK b) 63
            subst hl'
            rw [(hl63 rfl).1, hr] at q2
            have hfr0 : fr = 0 := by
              rcases q3 with ⟨y1, y2⟩ | ⟨y1, y2, y3⟩
              · rw [y1, Nat.add_mul, Nat.one_mul] at q2
                omega
              · exact y2
            rw [hfr0, Nat.zero_add, ← p2a, show bK b + (52 - bK b) = 52 by omega] at f2
            omega
          · have hfr0 : fr = 0 := by
              rcases q3 with ⟨y1, y2⟩ | ⟨y1, y2, y3⟩
              · omega
              · exact y2
            rw [hfr0, Nat.zero_add, ← p2a, show bK b + (52 - bK b) = 52 by omega] at f2
            omega
        rw [hrt, hx63, Nat.zero_add, Nat.mul_comm] at hV
        have := Nat.eq_of_mul_eq_mul_right (p2 52) hV
        omega
    constructor
    · intro z
      by_cases hneg : neg = true
      · subst hneg
        have z1 := congrArg Int64.toInt z
        rw [sv_toInt hV63 (fun y => absurd y (by decide)), sv_toInt hN hp, if_pos rfl, if_pos rfl] at z1
        omega
      · have hnf : neg = false := by
          cases neg with
          | false => rfl
          | true => exact absurd rfl hneg
        subst hnf
        have z1 : lN V = lN N := z
        have z2 := lN_eqm z1
        have hN2 := hp rfl
        rw [Nat.mod_eq_of_lt (by omega), Nat.mod_eq_of_lt (by omega)] at z2
        exact z2
    · intro z; rw [z]
  have hcase : V = N → (x ≤ 62 ∨ (neg = true ∧ fr2 = 0)) := by
    intro z
    by_cases hx62 : x ≤ 62
    · exact Or.inl hx62
    · have hx63 : x = 63 := by omega
      have hNx : fr2 + 2 ^ 52 = 2 ^ 52 ∨ ¬ N < 2 ^ 63 := by
        by_cases y : N < 2 ^ 63
        · exfalso
          rw [z, hx63] at hV
          have a1 : 2 ^ 52 * 2 ^ 63 ≤ (fr2 + 2 ^ 52) * 2 ^ 63 := Nat.mul_le_mul_right _ (by omega)
          rw [hV, Nat.mul_comm (2 ^ 52)] at a1
          have := Nat.le_of_mul_le_mul_right a1 (p2 52)
          omega
        · exact Or.inr y
      rcases hNx with y | y
      · have : N = 2 ^ 63 := by
          rw [z, hx63, y, Nat.mul_comm] at hV
          exact (Nat.eq_of_mul_eq_mul_right (p2 52) hV).symm
        refine Or.inr ⟨?_, by omega⟩
        cases neg with
        | false => have := hp rfl
                   omega
        | true => rfl
      · have hNe : N = 2 ^ 63 := by omega
        rw [z, hx63, hNe, Nat.mul_comm] at hV
        have := Nat.eq_of_mul_eq_mul_left (p2 63) hV
        refine Or.inr ⟨?_, by omega⟩
        cases neg with
        | false => have := hp rfl
                   omega
        | true => rfl
  refine ⟨decide (l - j ≤ bK b), ?_, fun μ => ?_, fun _ => ⟨_, ?_, (FK_v hb _).mpr (FK_r (neg := neg) h (E := l + BK b - 1 - 0) (by omega) hB4 (by omega) (fun y => by
    have hl' : l = 63 := by omega
    rw [(hl63 hl').1, hl'])), fun μ => ?_⟩⟩
  · unfold fX2_hasNumber fX2_isWhole
    rw [if_neg na, if_pos nb, bd hofw, hD, bd rfl, bd hW1]
    by_cases y : V = N
    · rw [bz_t (hcase y), if_neg one_ne, bd hW2, if_pos (hsv.mpr y), bd rfl, if_pos (show rbz 1 = true from rfl), bz_t (decide_eq_true (hVN.mp y))]
    · have hf : decide (l - j ≤ bK b) = false := decide_eq_false (fun z => y (hVN.mpr z))
      rw [hf]
      by_cases u : x ≤ 62 ∨ (neg = true ∧ fr2 = 0)
      · rw [bz_t u, if_neg one_ne, bd hW2, if_neg (fun z => y (hsv.mp z)), bd rfl, if_pos (show rbz 0 = true from rfl)]
        rfl
      · rw [bz_f u, if_pos rfl, bd rfl, if_pos (show rbz 0 = true from rfl)]
        rfl
  · obtain ⟨μ1, k1, k2⟩ := one_hi hP hT hb μ
    refine ⟨μ1, ?_, k2⟩
    rw [k1]
    congr 2
    exact bz_c decide_eq_true_iff.symm
  · unfold fX2_sameNumber
    rw [if_neg na, bd hofw]
  · obtain ⟨μ1, k1, k2⟩ := as_hi (E := l + BK b - 1 - 0) hP hT hb (by omega) (by omega) μ
    rw [← hrd] at k1
    exact ⟨μ1, k1, k2⟩
