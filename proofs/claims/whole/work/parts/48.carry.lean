/-! carry -/
theorem dv10 {n : Nat} (h : n < 2 ^ 31) : jdiv (nI n) 10 = nI (n / 10) := pk_div (d := 10) h (by decide) (by decide)
theorem rm10 {n : Nat} (h : n < 2 ^ 31) : jrem (nI n) 10 = nI (n % 10) := pk_rem (d := 10) h (by decide) (by decide)
theorem way_m0 : ∀ f n, n < 10 ^ f → n < 2 ^ 31 → fX8_isWay_b12 (f + 1) 0 (nI n) = some 0 := by
  intro f
  induction f with
  | zero =>
    intro n h _
    have : n = 0 := by rw [Nat.pow_zero] at h; omega
    subst this
    rfl
  | succ f ih =>
    intro n h h31
    unfold fX8_isWay_b12
    by_cases z : n = 0
    · subst z; rfl
    · rw [if_neg (nI_nle (by omega) h31), if_pos rfl]
      unfold fX8_isWay_b39 fX8_isWay_b40
      rw [dv10 h31]
      exact ih (n / 10) (by rw [Nat.pow_succ] at h; omega) (by omega)
theorem dig1 : ∀ d, d < 10 → fX7_isPrimitive (nI d - 1) = some (bz (1 ≤ d ∧ d ≤ 8)) ∧ fX8_in (Int32.toInt64 (nI d)) 1 8 = some (bz (1 ≤ d ∧ d ≤ 8)) := by decide +kernel
theorem way_lp : ∀ f n, n < 10 ^ f → n < 2 ^ 31 → ∃ w : Bool, fX7_isWay_b16 (f + 1) (nI n) = some (bz (w = true)) ∧ fX8_isWay_b12 (f + 1) 1 (nI n) = some (bz (w = true)) ∧ (w = true → ∀ j, 10 ^ j ≤ n → 1 ≤ n / 10 ^ j % 10 ∧ n / 10 ^ j % 10 ≤ 8) := by
  intro f
  induction f with
  | zero =>
    intro n h _
    have : n = 0 := by rw [Nat.pow_zero] at h; omega
    subst this
    refine ⟨true, rfl, rfl, fun _ j hj => ?_⟩
    have := Nat.pow_pos (a := 10) (n := j) (by decide)
    omega
  | succ f ih =>
    intro n h h31
    by_cases z : n = 0
    · subst z
      refine ⟨true, rfl, rfl, fun _ j hj => ?_⟩
      have := Nat.pow_pos (a := 10) (n := j) (by decide)
      omega
    · have hd : n / 10 < 10 ^ f := by rw [Nat.pow_succ] at h; omega
      obtain ⟨w, w1, w2, w3⟩ := ih (n / 10) hd (by omega)
      obtain ⟨d1, d2⟩ := dig1 (n % 10) (by omega)
      unfold fX7_isWay_b16 fX8_isWay_b12
      rw [if_neg (nI_nle (by omega) h31), if_neg (nI_nle (by omega) h31), rm10 h31, dv10 h31, d1, d2, if_neg one_ne, bd rfl, bd rfl]
      unfold fX8_isWay_b39 fX8_isWay_b40
      rw [dv10 h31]
      by_cases y : 1 ≤ n % 10 ∧ n % 10 ≤ 8
      · rw [bz_t y, if_neg one_ne, if_neg one_ne]
        refine ⟨w, w1, w2, fun hw j hj => ?_⟩
        cases j with
        | zero => rw [Nat.pow_zero, Nat.div_one]; exact y
        | succ j =>
          have := w3 hw j (by rw [Nat.pow_succ] at hj; omega)
          rw [Nat.div_div_eq_div_mul, Nat.mul_comm] at this
          rw [Nat.pow_succ]
          exact this
      · rw [bz_f y, if_pos rfl, if_pos rfl]
        refine ⟨false, rfl, ?_, fun hw => absurd hw (by decide)⟩
        rw [way_m0 f (n / 10) hd (by omega)]
        rfl
theorem way_eq (p : Int32) : (fX7_isWay p = some 0 ∧ fX8_isWay p = some 0) ∨ (fX7_isWay p = some 1 ∧ fX8_isWay p = some 1 ∧ ∃ n, p = nI n ∧ 1 ≤ n ∧ n ≤ 888888 ∧ ∀ j, 10 ^ j ≤ n → 1 ≤ n / 10 ^ j % 10 ∧ n / 10 ^ j % 10 ≤ 8) := by
  have hin : fX8_in (Int32.toInt64 p) 1 888888 = _ := in32 p 1 888888
  by_cases h1 : p < 1
  · refine Or.inl ⟨by unfold fX7_isWay; rw [if_pos h1], ?_⟩
    unfold fX8_isWay
    rw [hin, bz_f (fun z => Int32.not_lt.mpr z.1 h1), bd rfl]
    have : p ≤ 0 := by
      rw [Int32.le_iff_toInt_le]
      rw [Int32.lt_iff_toInt_lt] at h1
      have b1 : (1 : Int32).toInt = 1 := rfl
      have b2 : (0 : Int32).toInt = 0 := rfl
      omega
    unfold fX8_isWay_b12
    rw [if_pos this]
    rfl
  · have hp0 : ¬ p < 0 := by
      intro z
      rw [Int32.lt_iff_toInt_lt] at h1 z
      have b1 : (1 : Int32).toInt = 1 := rfl
      have b2 : (0 : Int32).toInt = 0 := rfl
      omega
    obtain ⟨n, hn, rfl⟩ := nI_of hp0
    have hn1 : 1 ≤ n := by
      apply Nat.le_of_not_lt
      intro z
      exact h1 (nI_lt (b := 1) z (by decide))
    have hf : n < 10 ^ 99 := Nat.lt_of_lt_of_le hn (by decide)
    by_cases h2 : n ≤ 888888
    · have hb : (1 : Int32) ≤ nI n ∧ nI n ≤ 888888 := ⟨Int32.not_lt.mp h1, nI_le (b := 888888) h2 (by decide)⟩
      obtain ⟨w, w1, w2, w3⟩ := way_lp 99 n hf hn
      have x1 : fX7_isWay (nI n) = some (bz (w = true)) := by
        unfold fX7_isWay
        rw [if_neg h1, if_pos hb.2]
        exact w1
      have x2 : fX8_isWay (nI n) = some (bz (w = true)) := by
        unfold fX8_isWay
        rw [hin, bz_t hb, bd rfl]
        exact w2
      cases w with
      | false => exact Or.inl ⟨x1, x2⟩
      | true => exact Or.inr ⟨x1, x2, n, rfl, hn1, h2, w3 rfl⟩
    · have hb : ¬ nI n ≤ 888888 := fun z => h2 ((nI_leI (b := 888888) hn (by decide)).mp z)
      refine Or.inl ⟨by unfold fX7_isWay; rw [if_neg h1, if_neg hb], ?_⟩
      unfold fX8_isWay
      rw [hin, bz_f (fun z => hb z.2), bd rfl]
      exact way_m0 99 n hf hn
/-! one step -/
theorem bring_0 {mc : Nat} {μ : Mm} (hmc : mc ≤ 20) {f xt mk : Int32} {xc mv : Int64} (h : It mc (μ.1 10) f xt xc mk mv) {t : Nat} (ht : t < 8) (hb : fX8_bring (nI t) f mk mv μ = some 0) : (f = 1 ∨ f = 2) ∧ ∃ k, k < 8 ∧ xt = nI k ∧ mk = nI k ∧ xc = mv ∧ VC k xc ∧ fX8_widens (nI k) (nI t) = some 1 := by
  have hpl : fX8_isPlain (nI t) = some 1 := by rw [m_isPlain, bz_t (prim_ok ht)]
  rcases h with ⟨rfl, rfl, rfl⟩ | ⟨hf, rfl, rfl, k, hk, rfl, hv⟩ | ⟨rfl, j, hj, rfl, rfl, h2⟩ | ⟨rfl, rfl, rfl, -⟩
  · rw [m_bring0, hpl] at hb
    exact absurd hb (by decide)
  · refine ⟨hf, k, hk, rfl, rfl, rfl, hv, ?_⟩
    rcases wid_01 k hk t ht with w | w
    · rcases hf with rfl | rfl
      · rw [m_bring1] at hb
        unfold br1 at hb
        rw [hpl, w] at hb
        exact absurd hb (by decide)
      · rw [m_bring2] at hb
        unfold br2 at hb
        rw [hpl, w, bd rfl, if_neg one_ne] at hb
        exact absurd hb (by decide)
    · exact w
  · rw [m_bring3 _ _ _ _ (show j < 20 by omega) rfl, hpl] at hb
    exact absurd hb (by simp)
  · rw [m_bring4, hpl] at hb
    exact absurd hb (by simp)
def pw (j : Nat) : Nat := if j = 0 then 0 else 10 ^ (j - 1)
theorem pw_d : ∀ j, j < 7 → jdiv (nI (pw (j + 1))) 10 = nI (pw j) := by decide +kernel
theorem pw_b : ∀ j, j < 7 → pw j < 2 ^ 31 := by decide +kernel
theorem cy_stop {way r : Int32} (hr : ¬ r = 0) (μ : Mm) : ∀ j, j < 7 → ∀ fu f k v, j < fu → fX8_carry_b69 fu way r f k v (nI (pw j)) μ = some (r, μ) := by
  intro j
  induction j with
  | zero =>
    intro _ fu f k v hf
    obtain ⟨fu, rfl⟩ : ∃ g, fu = g + 1 := ⟨fu - 1, by omega⟩
    unfold fX8_carry_b69
    rw [if_pos (by decide), if_neg hr]
  | succ j ih =>
    intro hj fu f k v hf
    obtain ⟨fu, rfl⟩ : ∃ g, fu = g + 1 := ⟨fu - 1, by omega⟩
    have hp : 0 < pw (j + 1) := Nat.pow_pos (by decide)
    have hb := pw_b (j + 1) hj
    have ih' := fun f k v => ih (by omega) fu f k v (by omega)
    unfold fX8_carry_b69 fX8_carry_b113 fX8_carry_b135 fX8_carry_b144
    rw [if_neg (nI_nle hp hb), if_neg (nI_ne0 hp hb), if_neg hr, if_neg hr, pw_d j (by omega), ih', ih']
    split <;> rfl
theorem cy_loop {μx : Mm} {n mc : Nat} (hmc : mc ≤ 20) (hn : 1 ≤ n) (hn2 : n ≤ 888888) (hg : ∀ j, 10 ^ j ≤ n → 1 ≤ n / 10 ^ j % 10 ∧ n / 10 ^ j % 10 ≤ 8) :
    ∀ j, j < 7 → ∀ fu f xt xc mk mv (μ : Mm), j < fu → Rel μx μ → It mc (μ.1 10) f xt xc mk mv → (f = 1 ∨ 0 < j) → ∃ r μx' μm', fX7_carryThrough_b17 fu (nI n) f xt xc (nI (pw j)) μx = some (r, μx') ∧ fX8_carry_b69 fu (nI n) 0 f mk mv (nI (pw j)) μ = some (r, μm') ∧ Rel μx' μm' := by
  intro j
  induction j with
  | zero =>
    intro _ fu f xt xc mk mv μ hf hR hI hj
    obtain ⟨fu, rfl⟩ : ∃ g, fu = g + 1 := ⟨fu - 1, by omega⟩
    have hf1 : f = 1 := by
      rcases hj with y | y
      · exact y
      · omega
    subst hf1
    unfold fX7_carryThrough_b17 fX8_carry_b69
    rw [if_pos (by decide), if_pos (by decide), if_pos rfl]
    obtain ⟨hT', hV', hR', mc', hM', hH', hC', hG'⟩ := hR
    have hI' : It mc' (μ.1 10) 1 xt xc mk mv := by
      rcases hI with ⟨y, -⟩ | y | ⟨y, -⟩ | ⟨y, -⟩
      · exact absurd y (by decide)
      · exact Or.inr (Or.inl y)
      · exact absurd y (by decide)
      · exact absurd y (by decide)
    exact ⟨0, _, _, rfl, rfl, rel_hold hT' hV' hR' hM' hC' hG' hI'⟩
  | succ j ih =>
    intro hj7 fu f xt xc mk mv μ hf hR hI hj
    obtain ⟨fu, rfl⟩ : ∃ g, fu = g + 1 := ⟨fu - 1, by omega⟩
    have hpe : pw (j + 1) = 10 ^ j := rfl
    have hp : 0 < pw (j + 1) := Nat.pow_pos (by decide)
    have hb := pw_b (j + 1) hj7
    have hdig : jrem (jdiv (nI n) (nI (pw (j + 1)))) 10 = nI (n / 10 ^ j % 10) := by
      rw [show jdiv (nI n) (nI (pw (j + 1))) = nI (n / pw (j + 1)) from pk_div (by omega) hp hb, rm10 (Nat.lt_of_le_of_lt (Nat.div_le_self _ _) (by omega)), hpe]
    unfold fX7_carryThrough_b17 fX8_carry_b69
    rw [if_neg (nI_nle hp hb), if_neg (nI_nle hp hb), if_neg (nI_ne0 hp hb), if_neg (nI_ne0 hp hb), if_pos rfl, hdig]
    by_cases z : n < 10 ^ j
    · have hd0 : n / 10 ^ j % 10 = 0 := by rw [Nat.div_eq_of_lt z]
      have hneg : nI 0 - 1 < (0 : Int32) := by decide
      rw [hd0, if_pos hneg, if_pos (nI_lt (by rw [hpe]; exact z) hb)]
      unfold fX7_carryThrough_b76 fX8_carry_b144
      rw [pw_d j (by omega)]
      refine ih (by omega) fu f xt xc mk mv μ (by omega) hR hI ?_
      rcases hj with y | y
      · exact Or.inl y
      · cases j with
        | zero => rw [Nat.pow_zero] at z; omega
        | succ j => exact Or.inr (by omega)
    · obtain ⟨g1, g2⟩ := hg j (by omega)
      obtain ⟨t, ht, et⟩ : ∃ t, t < 8 ∧ n / 10 ^ j % 10 = t + 1 := ⟨n / 10 ^ j % 10 - 1, by omega, by omega⟩
      have ept : nI (t + 1) - 1 = nI t := nI_pred t
      rw [et, ept, if_neg (nI_pos (by omega)), if_neg (nI_nlt (by rw [hpe]; omega) (by omega)), fit_put hmc hI (show t < 13 by omega)]
      obtain ⟨r, hr⟩ := fit_put_some hmc hI (show t < 13 by omega)
      rw [bd hr, bd hr]
      by_cases r0 : r = 0
      · subst r0
        obtain ⟨b1, k, hk, b2, b3, b4, b5, b6⟩ := bring_0 hmc hI ht hr
        obtain ⟨c', w1, w2, μ', w3, w4⟩ := n_wid hk ht b6 b5 μ
        unfold fX8_carry_b113
        rw [if_pos rfl, if_pos rfl, b2, bd w1, b3, ← b4, bn w3]
        unfold fX7_carryThrough_b76 fX8_carry_b135 fX8_carry_b144
        rw [pw_d j (by omega)]
        exact ih (by omega) fu 1 (nI t) c' (nI t) c' μ' (by omega) (hR.eqA w4) (Or.inr (Or.inl ⟨Or.inl rfl, rfl, rfl, t, ht, rfl, w2⟩)) (Or.inl rfl)
      · refine ⟨r, μx, μ, by rw [if_neg r0], ?_, hR⟩
        unfold fX8_carry_b113 fX8_carry_b135 fX8_carry_b144
        rw [if_neg r0, pw_d j (by omega)]
        exact cy_stop r0 μ j (by omega) fu _ _ _ (by omega)
theorem st_carry : St_carry Rel := by
  intro p1 p2 p3 μx μm h
  have h0 := h
  obtain ⟨hT, hV, hR, mc, hM, hH, hC, hG⟩ := h
  rcases slot_cases p1 with hp | ⟨a, ha, rfl⟩
  · exact ⟨-1, μx, μm, by unfold fX7_carry; rw [x_isSlot, bz_f hp]; rfl, by unfold fX8_carry; rw [m_isSlot, bz_f hp]; rfl, h0⟩
  have hs := slot_ok ha
  rcases way_eq p3 with ⟨w1, w2⟩ | ⟨w1, w2, nn, rfl, n1, n2, n3⟩
  · refine ⟨-2, μx, μm, ?_, ?_, h0⟩
    · unfold fX7_carry
      rw [x_isSlot, bz_t hs, bd rfl, if_neg one_ne, bd w1, if_pos rfl]
    · unfold fX8_carry
      rw [m_isSlot, bz_t hs, bd rfl, if_neg one_ne, bd w2, if_pos rfl]
  obtain ⟨r, t, hr, ht, e1, e2, e3, hA⟩ := slotR hC ha
  have xpre : fX7_carry (nI a) p2 (nI nn) μx = ((fX7_fetchReason (nI a) p2 μx).bind fun r22 => (if r22 = 0 then ((fX5_typeAt (nI r) p2 μx).bind fun r47 => (if inb (nI a) 10 = true then ((fX5_codeAt (nI r) p2 μx).bind fun r61 => (bnd (fX7_carryThrough r47 r61 (nI nn) μx) fun r65 μ65 => some (r65, μ65))) else none)) else some (r22, μx))) := by
    unfold fX7_carry
    rw [x_isSlot, bz_t hs, bd rfl, if_neg one_ne, bd w1, if_neg one_ne, if_pos (inb10 ha), cl (by omega), e1]
  have mpre : fX8_carry (nI a) p2 (nI nn) μm = ((fX8_reasonToFetch (nI a) p2 μm).bind fun r22 => (if r22 = 0 then (if inb (nI a) 10 = true then ((fX8_get (μm.1 3 a) p2 μm).bind fun μ43 => fX8_carry_b69 100 (nI nn) r22 (μ43.1 0 37) (μ43.1 0 38) (μ43.2 0 39) (100000 : Int32) μ43) else none) else some (r22, μm))) := by
    unfold fX8_carry
    rw [m_isSlot, bz_t hs, bd rfl, if_neg one_ne, bd w2, if_neg one_ne, cl (by omega)]
  rw [xpre, mpre]
  rcases hA.symm with ⟨h13, m1, x1⟩ | ⟨h12, q, n, hq, hn, m1, m2, x1, m3, hce⟩
  · obtain ⟨k1, k2, -, -⟩ := fetch_no ha hr ht e1 e2 e3 h13 x1 p2
    exact ⟨if t = 15 then 5 else 3, μx, μm, by rw [bd k1, if_neg (f53 t)], by rw [bd k2, if_neg (f53 t)], h0⟩
  obtain ⟨k1, k2, -, -⟩ := fetch_ok ha hr ht e1 e2 e3 h12 hq hn m1 x1 m3 p2
  rcases pos_cases p2 hn with hp | ⟨i, hi, rfl, hp⟩
  · rw [if_neg hp] at k1 k2
    exact ⟨1, μx, μm, by rw [bd k1]; rfl, by rw [bd k2]; rfl, h0⟩
  rw [if_pos hp] at k1 k2
  have hI := got_it (hce i hi)
  obtain ⟨v, μx', μm', g1, g2, g3⟩ := cy_loop (μx := μx) hM.1 n1 n2 n3 6 (by decide) 100 _ _ _ _ _ (gotM μm (6 * q + i)) (by decide) (h0.cong EqX.rf (gotM_eq _ _)) hI (Or.inr (by decide))
  refine ⟨v, μx', μm', ?_, ?_, g3⟩
  · rw [bd k1, if_pos rfl, bd (x_typeAt hr (by omega) μx), if_pos (inb10 ha), bd (x_codeAt hr (by omega) μx)]
    unfold fX7_carryThrough
    rw [bd (x_fform hI (got_ne _))]
    exact bn g1
  · rw [bd k2, if_pos rfl, if_pos (inb10 ha), m1, bd (m_get hq (by omega) μm)]
    exact g2
