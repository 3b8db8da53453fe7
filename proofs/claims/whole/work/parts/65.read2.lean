/-! THE READER, 2: elements -/
def GX (μ μ' : Mm) (k : Nat) (ty : Int32) (num : Int64) (p : Nat) : Prop := (∀ o j, ¬ (o = 1 ∧ j = 6) → ¬ (o = 9 ∧ j = k) → μ'.1 o j = μ.1 o j) ∧ (∀ o j, ¬ (o = 10 ∧ j = k) → μ'.2 o j = μ.2 o j) ∧ μ'.1 1 6 = nI p ∧ μ'.1 9 k = ty ∧ μ'.2 10 k = num
def GM (μ μ' : Mm) (p : Nat) : Prop := (∀ o j, ¬ (o = 0 ∧ j = 44) → ¬ (o = 0 ∧ j = 46) → μ'.1 o j = μ.1 o j) ∧ (∀ o j, ¬ (o = 0 ∧ j = 45) → μ'.2 o j = μ.2 o j) ∧ μ'.1 0 44 = nI p
theorem x_keepN {μ : Mm} {k : Nat} (hk : k < 6) (h3 : μ.1 1 3 = nI k) (ty : Int32) (num : Int64) : fX3_keep ty num μ = some (wL (wI μ 9 k ty) 10 k num) := by
  have ib : inb (nI k) 6 = true := inb_nI hk (by decide)
  have e : (wI μ 9 (μ.1 1 3).toNatClampNeg ty).1 1 3 = nI k := h3
  unfold fX3_keep
  rw [e, h3, if_pos ib, if_pos ib, cl (by omega)]
theorem GX.keep {μ μ1 : Mm} {k p : Nat} (h : FX μ μ1) (h6 : μ1.1 1 6 = nI p) (ty : Int32) (num : Int64) : GX μ (wL (wI μ1 9 k ty) 10 k num) k ty num p := by
  refine ⟨fun o j a1 a2 => ?_, fun o j a1 => ?_, ?_, ?_, ?_⟩
  · rw [wL_1, wI_1, if_neg a2]
    exact h.1 o j a1
  · rw [wL_2, if_neg a1, wI_2, h.2]
  · exact h6
  · rw [wL_1, wI_1, if_pos ⟨rfl, rfl⟩]
  · rw [wL_2, if_pos ⟨rfl, rfl⟩]
theorem lo_c {κ : Nat} (hκ : κ < 8 ∨ κ = 10) : ((κ = 0 ∨ κ = 2 ∨ κ = 10) ∧ fX2_lowest (nI κ) = some 0) ∨ (¬ κ = 0 ∧ ¬ κ = 2 ∧ ¬ κ = 10 ∧ ∃ lo, fX2_lowest (nI κ) = some lo ∧ ¬ (0 : Int64) ≤ lo) := by
  have g : κ = 0 ∨ κ = 1 ∨ κ = 2 ∨ κ = 3 ∨ κ = 4 ∨ κ = 5 ∨ κ = 6 ∨ κ = 7 ∨ κ = 10 := by omega
  rcases g with rfl | rfl | rfl | rfl | rfl | rfl | rfl | rfl | rfl
  · exact Or.inl ⟨Or.inl rfl, rfl⟩
  · exact Or.inr ⟨by decide, by decide, by decide, _, rfl, by decide⟩
  · exact Or.inl ⟨Or.inr (Or.inl rfl), rfl⟩
  · exact Or.inr ⟨by decide, by decide, by decide, _, rfl, by decide⟩
  · exact Or.inr ⟨by decide, by decide, by decide, _, rfl, by decide⟩
  · exact Or.inr ⟨by decide, by decide, by decide, _, rfl, by decide⟩
  · exact Or.inr ⟨by decide, by decide, by decide, _, rfl, by decide⟩
  · exact Or.inr ⟨by decide, by decide, by decide, _, rfl, by decide⟩
  · exact Or.inl ⟨Or.inr (Or.inr rfl), rfl⟩
theorem x_skip {μx μm : Mm} {n p : Nat} {L : Nat → Int32} (h : Tx μx μm n L) (h6 : μx.1 1 6 = nI p) (hp : p ≤ n) (c : Int32) : fX3_skip c μx = some (if ltr n L p = c then (1, wI μx 1 6 (nI (p + 1))) else (0, μx)) := by
  unfold fX3_skip
  rw [bd (x_letter h h6 hp), h6, nI_1]
  by_cases z : ltr n L p = c
  · rw [if_pos z, if_pos z]
  · rw [if_neg z, if_neg z]
theorem ltr_lt {n p : Nat} {L : Nat → Int32} {c : Int32} (h : ltr n L p = c) (hc : c ≠ -9) : p < n := by
  apply Decidable.byContradiction
  intro z
  unfold ltr at h
  rw [if_neg z] at h
  exact hc h.symm
theorem rn {μx μm : Mm} {n κ p k : Nat} {L : Nat → Int32} (hTx : Tx μx μm n L) (hκ : κ < 8 ∨ κ = 10) (h6 : μx.1 1 6 = nI p) (h44 : μm.1 0 44 = nI p) (hp : p ≤ n) (hk : k < 6) (h3 : μx.1 1 3 = nI k) :
    ∃ (ok : Bool) (num : Int64) (p' : Nat) (μx' μm' : Mm), fX3_readNumber (nI κ) μx = some (bz (ok = true), μx') ∧ fX8_readNumber (nI κ) μm = some μm' ∧ μm'.1 0 46 = bz (ok = true) ∧ μm'.2 0 45 = num ∧ p' ≤ n ∧ GX μx μx' k (nI κ) num p' ∧ GM μm μm' p' ∧ (ok = true → VV κ num) := by
  have fin : ∀ (neg : Bool) (p1 : Nat) (μx1 μm1 : Mm), FX μx μx1 → FM μm μm1 → μx1.1 1 6 = nI p1 → μm1.1 0 44 = nI p1 → p1 ≤ n → fX3_readNumber (nI κ) μx = fX3_readNumber_b29 100 (nI κ) (bz (neg = true)) (sv neg 0) (nI 0) μx1 → fX8_readNumber (nI κ) μm = fX8_readNumber_b67 100 (nI κ) (bz (neg = true)) (nI 0) (lN 0) 1 μm1 →
      ∃ (ok : Bool) (num : Int64) (p' : Nat) (μx' μm' : Mm), fX3_readNumber (nI κ) μx = some (bz (ok = true), μx') ∧ fX8_readNumber (nI κ) μm = some μm' ∧ μm'.1 0 46 = bz (ok = true) ∧ μm'.2 0 45 = num ∧ p' ≤ n ∧ GX μx μx' k (nI κ) num p' ∧ GM μm μm' p' ∧ (ok = true → VV κ num) := by
    intro neg p1 μx1 μm1 hX hM g6 g44 hp1 hx hm
    obtain ⟨d', v', p', μx', μm', a1, a2, a3, a4, a5, a6, a7, a8, a9⟩ := rn_loop (neg := neg) hTx hκ 9 100 0 0 p1 μx1 μm1 (by decide) (by decide) (by decide) hX hM g6 g44 hp1 (fun z => absurd z (by decide))
    have y3 : μx'.1 1 3 = nI k := by rw [a3.1 1 3 (by omega)]; exact h3
    have hd : nI d' ≤ 0 ↔ d' = 0 := by
      constructor
      · intro y
        apply Decidable.byContradiction
        intro w
        exact nI_nle (by omega) (by omega) y
      · intro y; rw [y]; decide
    refine ⟨decide (0 < d'), sv neg v', p', wL (wI μx' 9 k (nI κ)) 10 k (sv neg v'), wI (wL μm' 0 45 (sv neg v')) 0 46 (bz (decide (0 < d') = true)), ?_, ?_, rfl, ?_, a7, GX.keep a3 a5 _ _, ⟨fun o j b1 b2 => ?_, fun o j b1 => ?_, ?_⟩, fun z => a9 (of_decide_eq_true z)⟩
    · rw [hx, a1]
      unfold fX3_readNumber_b139
      rw [bd (x_keepN hk y3 (nI κ) (sv neg v'))]
      by_cases z : d' = 0
      · rw [if_pos (hd.mpr z), bz_f (by rw [decide_eq_false (by omega)]; decide)]
      · rw [if_neg (fun y => z (hd.mp y)), bz_t (decide_eq_true (by omega))]
    · rw [hm, a2]
      unfold fX8_readNumber_b238
      by_cases z : d' = 0
      · rw [if_pos (hd.mpr z), if_pos (show rbz 0 = true from rfl), bz_f (by rw [decide_eq_false (by omega)]; decide)]
      · rw [if_neg (fun y => z (hd.mp y)), if_pos (show rbz 1 = true from rfl), bz_t (decide_eq_true (by omega))]
    · rw [wI_2, wL_2, if_pos ⟨rfl, rfl⟩]
    · rw [wI_1, if_neg b2, wL_1]
      exact a4.1 o j b1
    · rw [wI_2, wL_2, if_neg b1, a4.2]
    · exact a6
  have mnone : fX8_readNumber_b38 (nI κ) μm = fX8_readNumber_b67 100 (nI κ) (bz (false = true)) (nI 0) (lN 0) 1 (wI μm 0 44 (nI p)) := by
    unfold fX8_readNumber_b38 fX8_readNumber_b39 fX8_readNumber_b54
    rw [if_pos rfl, h44, Int32.add_zero]
    rfl
  rcases lo_c hκ with ⟨hc, hl⟩ | ⟨c0, c2, c10, lo, hl, hlo⟩
  · refine fin false p μx (wI μm 0 44 (nI p)) FX.rf (FM.rf.w _) h6 rfl hp ?_ ?_
    · unfold fX3_readNumber
      rw [bd hl, if_pos (by decide)]
      rfl
    · have : fX8_readNumber (nI κ) μm = fX8_readNumber_b38 (nI κ) μm := by
        unfold fX8_readNumber fX8_readNumber_b19 fX8_readNumber_b20
        rcases hc with rfl | rfl | rfl
        · rw [if_pos (show nI 0 = 0 from rfl), if_pos rfl]
        · rw [if_neg (show ¬ nI 2 = 0 by decide), if_pos (show nI 2 = 2 from rfl), if_pos rfl]
        · rw [if_neg (show ¬ nI 10 = 0 by decide), if_neg (show ¬ nI 10 = 2 by decide), if_pos (show nI 10 = 10 from rfl), if_pos rfl]
      rw [this, mnone]
  · have n0 : ¬ nI κ = 0 := nI_ne (b := 0) (by omega) (by decide) c0
    have n2 : ¬ nI κ = 2 := nI_ne (b := 2) (by omega) (by decide) c2
    have n10 : ¬ nI κ = 10 := nI_ne (b := 10) (by omega) (by decide) c10
    have mpre : fX8_readNumber (nI κ) μm = (if ltr n L p = (45 : Int32) then fX8_readNumber_b39 (nI κ) (1 : Int32) μm else fX8_readNumber_b38 (nI κ) μm) := by
      unfold fX8_readNumber fX8_readNumber_b20
      rw [if_neg n0, if_neg n2, if_neg n10, if_neg one_ne, bd (m_letter hTx h44 hp)]
    have xpre : fX3_readNumber (nI κ) μx = bnd (some (if ltr n L p = 45 then ((1 : Int32), wI μx 1 6 (nI (p + 1))) else (0, μx))) fun r12 μ12 => (if r12 = 0 then fX3_readNumber_b22 (nI κ) μ12 else fX3_readNumber_b23 (nI κ) (1 : Int32) μ12) := by
      unfold fX3_readNumber
      rw [bd hl, if_neg hlo, x_skip hTx h6 hp]
    by_cases z : ltr n L p = 45
    · rw [if_pos z] at mpre xpre
      have hpn := ltr_lt z (by decide)
      refine fin true (p + 1) (wI μx 1 6 (nI (p + 1))) (wI μm 0 44 (nI (p + 1))) (FX.rf.w _) (FM.rf.w _) rfl rfl (by omega) ?_ ?_
      · rw [xpre, bn rfl, if_neg one_ne]
        unfold fX3_readNumber_b23
        rw [show sv true 0 = 0 from rfl]
        rfl
      · rw [mpre]
        unfold fX8_readNumber_b39 fX8_readNumber_b54
        rw [if_neg one_ne, h44, nI_1]
        rfl
    · rw [if_neg z] at mpre xpre
      refine fin false p μx (wI μm 0 44 (nI p)) FX.rf (FM.rf.w _) h6 rfl hp ?_ ?_
      · rw [xpre, bn rfl, if_pos rfl]
        rfl
      · rw [mpre, mnone]
/-- an element that was read, on both sides -/
def El (T : Nat) (ty : Int32) (nu : Int64) (f mk : Int32) (mv : Int64) : Prop := ∃ c, fX2_ofWhole ty nu = some c ∧ ∀ mc star, Ce mc star T ty c f mk mv
def SS (μx0 μm0 μx μm : Mm) (T k p : Nat) : Prop := EqX μx0 μx ∧ EqM μm0 μm ∧ μx.1 1 2 = nI T ∧ μm.1 0 32 = nI T ∧ μx.1 1 3 = nI k ∧ μm.1 0 33 = nI k ∧ μx.1 1 6 = nI p ∧ μm.1 0 44 = nI p ∧ ∀ i, i < k → El T (μx.1 9 i) (μx.2 10 i) (μm.1 24 i) (μm.1 25 i) (μm.2 26 i)
theorem Tx.e {μx μm μx' μm' : Mm} {n : Nat} {L : Nat → Int32} (h : Tx μx μm n L) (hx : EqX μx μx') (hm : EqM μm μm') : Tx μx' μm' n L := by
  obtain ⟨h1, h2, h3, h4⟩ := h
  refine ⟨h1, by rw [hx.1 1 1 rfl]; exact h2, by rw [hm.1 0 1 rfl]; exact h3, fun j hj => ?_⟩
  rw [hx.1 8 j rfl, hm.1 1 j rfl]
  exact h4 j hj
theorem GX.eq {μ0 μ μ' : Mm} {k p : Nat} {ty : Int32} {num : Int64} (h0 : EqX μ0 μ) (h : GX μ μ' k ty num p) : EqX μ0 μ' := by
  refine ⟨fun o j hs => ?_, fun o j ho => ?_⟩
  · rw [h.1 o j (fun z => by rw [z.1, z.2] at hs; exact absurd hs (by decide)) (fun z => by rw [z.1] at hs; simp [scX] at hs)]
    exact h0.1 o j hs
  · rw [h.2.1 o j (fun z => ho z.1)]
    exact h0.2 o j ho
theorem GM.eq {μ0 μ μ' : Mm} {p : Nat} (h0 : EqM μ0 μ) (h : GM μ μ' p) : EqM μ0 μ' := by
  refine ⟨fun o j hs => ?_, fun o j ho => ?_⟩
  · rw [h.1 o j (fun z => by rw [z.1, z.2] at hs; exact absurd hs (by decide)) (fun z => by rw [z.1, z.2] at hs; exact absurd hs (by decide))]
    exact h0.1 o j hs
  · rw [h.2.1 o j (by omega)]
    exact h0.2 o j ho
/-- both sides have read an element -/
theorem re_ok {μx0 μm0 μx μm μx' μm1 : Mm} {T k p p' : Nat} {ty f mk : Int32} {nu mv : Int64} (hS : SS μx0 μm0 μx μm T k p) (hk : k < 6) (hx : GX μx μx' k ty nu p') (hE : EqM μm0 μm1) (b32 : μm1.1 0 32 = nI T) (b33 : μm1.1 0 33 = nI k) (b44 : μm1.1 0 44 = nI p') (b24 : ∀ i, i < k → μm1.1 24 i = μm.1 24 i ∧ μm1.1 25 i = μm.1 25 i ∧ μm1.2 26 i = μm.2 26 i) (hel : El T ty nu f mk mv) :
    fX8_putTold f mk mv μm1 = some (pT μm1 k f mk mv) ∧ SS μx0 μm0 (wI μx' 1 3 (nI (k + 1))) (pT μm1 k f mk mv) T (k + 1) p' ∧ μx'.1 1 3 = nI k := by
  obtain ⟨s1, s2, s3, s4, s5, s6, s7, s8, s9⟩ := hS
  have hx3 : μx'.1 1 3 = nI k := (hx.1 1 3 (by omega) (by omega)).trans s5
  refine ⟨m_put hk b33 f mk mv, ⟨(hx.eq s1).wI rfl, ?_, ?_, b32, rfl, rfl, hx.2.2.1, b44, fun i hi => ?_⟩, hx3⟩
  · unfold pT
    exact EqM.wI (EqM.wL (EqM.wI (EqM.wI hE (by simp [scM])) (by simp [scM])) (by omega)) rfl
  · exact (hx.1 1 2 (by omega) (by omega)).trans s3
  · show El T (μx'.1 9 i) (μx'.2 10 i) ((pT μm1 k f mk mv).1 24 i) ((pT μm1 k f mk mv).1 25 i) ((pT μm1 k f mk mv).2 26 i)
    have e1 : (pT μm1 k f mk mv).1 24 i = if i = k then f else μm1.1 24 i := by
      show (if 24 = 24 ∧ i = k then f else μm1.1 24 i) = _
      by_cases z : i = k
      · rw [if_pos ⟨rfl, z⟩, if_pos z]
      · rw [if_neg (fun y => z y.2), if_neg z]
    have e2 : (pT μm1 k f mk mv).1 25 i = if i = k then mk else μm1.1 25 i := by
      show (if 25 = 25 ∧ i = k then mk else μm1.1 25 i) = _
      by_cases z : i = k
      · rw [if_pos ⟨rfl, z⟩, if_pos z]
      · rw [if_neg (fun y => z y.2), if_neg z]
    have e3 : (pT μm1 k f mk mv).2 26 i = if i = k then mv else μm1.2 26 i := by
      show (if 26 = 26 ∧ i = k then mv else μm1.2 26 i) = _
      by_cases z : i = k
      · rw [if_pos ⟨rfl, z⟩, if_pos z]
      · rw [if_neg (fun y => z y.2), if_neg z]
    rw [e1, e2, e3]
    by_cases z : i = k
    · rw [if_pos z, if_pos z, if_pos z, z, hx.2.2.2.1, hx.2.2.2.2]
      exact hel
    · rw [if_neg z, if_neg z, if_neg z, hx.1 9 i (by omega) (by omega), hx.2.1 10 i (by omega), (b24 i (by omega)).1, (b24 i (by omega)).2.1, (b24 i (by omega)).2.2]
      exact s9 i (by omega)
/-- what reading an element gives -/
def RE (μx0 μm0 μx : Mm) (n T k : Nat) (rx rm : Option (Int32 × Mm)) : Prop := ∃ (ok : Bool) (p' : Nat) (μx' μm' : Mm), rx = some (bz (ok = true), μx') ∧ rm = some (bz (ok = true), μm') ∧ p' ≤ n ∧ (ok = false → SS μx0 μm0 μx' μm' T k p') ∧ (ok = true → SS μx0 μm0 (wI μx' 1 3 (nI (k + 1))) μm' T (k + 1) p' ∧ μx'.1 1 3 = nI k)
theorem re_num {μx0 μm0 μx μm : Mm} {n T k p κ : Nat} {L : Nat → Int32} (hTx : Tx μx0 μm0 n L) (hS : SS μx0 μm0 μx μm T k p) (hk : k < 6) (hp : p ≤ n) (hT : T < 13) (hκ : (κ < 8 ∧ (T < 8 → κ = T)) ∨ (κ = 10 ∧ 8 ≤ T)) :
    RE μx0 μm0 μx n T k (bnd (fX3_readNumber (nI κ) μx) fun r μ => if rbz r = true then some (r, μ) else none) (fX8_readCell_b105 (nI κ) μm) := by
  have hS0 := hS
  obtain ⟨s1, s2, s3, s4, s5, s6, s7, s8, s9⟩ := hS
  obtain ⟨ok, num, p', μx', μm', a1, a2, a3, a4, a5, a6, a7, a8⟩ := rn (hTx.e s1 s2) (show κ < 8 ∨ κ = 10 by omega) s7 s8 hp hk s5
  have m32 : μm'.1 0 32 = nI T := (a7.1 0 32 (by omega) (by omega)).trans s4
  have m33 : μm'.1 0 33 = nI k := (a7.1 0 33 (by omega) (by omega)).trans s6
  have hE := a7.eq s2
  have c24 : ∀ i, i < k → μm'.1 24 i = μm.1 24 i ∧ μm'.1 25 i = μm.1 25 i ∧ μm'.2 26 i = μm.2 26 i := fun i hi => ⟨a7.1 24 i (by omega) (by omega), a7.1 25 i (by omega) (by omega), a7.2.1 26 i (by omega)⟩
  have xres : (bnd (fX3_readNumber (nI κ) μx) fun r μ => if rbz r = true then some (r, μ) else none) = some (bz (ok = true), μx') := by
    rw [bn a1, if_pos (rbz_bz _)]
  cases ok with
  | false =>
    refine ⟨false, p', μx', μm', xres, ?_, a5, fun _ => ⟨a6.eq s1, hE, (a6.1 1 2 (by omega) (by omega)).trans s3, m32, (a6.1 1 3 (by omega) (by omega)).trans s5, m33, a6.2.2.1, a7.2.2, fun i hi => ?_⟩, fun z => absurd z (by decide)⟩
    · unfold fX8_readCell_b105
      rw [bd a2, if_pos (show μm'.1 0 46 = 0 from a3)]
      rfl
    · rw [a6.1 9 i (by omega) (by omega), a6.2.1 10 i (by omega), (c24 i hi).1, (c24 i hi).2.1, (c24 i hi).2.2]
      exact s9 i hi
  | true =>
    have hVV := a8 rfl
    have n46 : ¬ μm'.1 0 46 = 0 := by rw [a3]; decide
    rcases hκ with ⟨h8, hTk⟩ | ⟨h10, hT8⟩
    · obtain ⟨c, t1, t2, t3, t4⟩ := n_told h8 num
      have hvc : VC κ c := by
        by_cases z : κ < 6
        · rw [t3 z]; exact hVV.1 z
        · exact t4 (by omega)
      have n10 : ¬ nI κ = 10 := nI_ne (b := 10) (by omega) (by decide) (by omega)
      obtain ⟨ff, hff⟩ : ∃ ff : Int32, ff = if T < 8 then 1 else 2 := ⟨_, rfl⟩
      have hel : El T (nI κ) num ff (nI κ) c := by
        refine ⟨c, t1, fun mc star => ⟨fun hT8 => ?_, fun hT8 => ?_, Or.inr (Or.inl ⟨?_, rfl, rfl, κ, h8, rfl, hvc⟩)⟩⟩
        · rw [hff, if_pos hT8, hTk hT8]
          exact ⟨rfl, rfl⟩
        · rw [hff, if_neg (by omega)]
          decide
        · rw [hff]
          split
          · exact Or.inl rfl
          · exact Or.inr rfl
      obtain ⟨y1, y2, y3⟩ := re_ok hS0 hk a6 hE m32 m33 a7.2.2 c24 hel
      refine ⟨true, p', μx', pT μm' k ff (nI κ) c, xres, ?_, a5, fun z => absurd z (by decide), fun _ => ⟨y2, y3⟩⟩
      unfold fX8_readCell_b105
      rw [bd a2, if_neg n46, if_neg n10, m32, pl_c T hT, bd rfl]
      unfold fX8_readCell_b154
      rw [a4, t2]
      by_cases z : T < 8
      · rw [if_pos z] at hff
        subst hff
        rw [if_pos z, if_neg one_ne, bd rfl, bd y1]
        rfl
      · rw [if_neg z] at hff
        subst hff
        rw [if_neg z, if_pos rfl, bd rfl, bd y1]
        rfl
    · subst h10
      obtain ⟨j, hj, hn⟩ := hVV.2 rfl
      have hel : El T (nI 10) num 4 0 num := by
        refine ⟨num, rfl, fun mc star => ⟨fun z => absurd z (by omega), fun _ => by decide, Or.inr (Or.inr (Or.inr ⟨rfl, rfl, rfl, j, hj, hn⟩))⟩⟩
      obtain ⟨y1, y2, y3⟩ := re_ok hS0 hk a6 hE m32 m33 a7.2.2 c24 hel
      refine ⟨true, p', μx', pT μm' k 4 0 num, xres, ?_, a5, fun z => absurd z (by decide), fun _ => ⟨y2, y3⟩⟩
      unfold fX8_readCell_b105
      rw [bd a2, if_neg n46, if_pos (show nI 10 = 10 from rfl), a4, bd y1]
      rfl
/-- the place goes one on, on both sides -/
theorem SS.on {μx0 μm0 μx μm : Mm} {T k p : Nat} (h : SS μx0 μm0 μx μm T k p) (p' : Nat) : SS μx0 μm0 (wI μx 1 6 (nI p')) (wI μm 0 44 (nI p')) T k p' := by
  obtain ⟨s1, s2, s3, s4, s5, s6, s7, s8, s9⟩ := h
  exact ⟨s1.wI rfl, s2.wI rfl, s3, s4, s5, s6, rfl, rfl, s9⟩
theorem re {μx0 μm0 μx μm : Mm} {n T k p : Nat} {L : Nat → Int32} (hTx : Tx μx0 μm0 n L) (hS : SS μx0 μm0 μx μm T k p) (hk : k < 6) (hp : p ≤ n) (hT : T < 8 ∨ T = 10 ∨ T = 11 ∨ T = 12) : RE μx0 μm0 μx n T k (fX3_readElement μx) (fX8_readCell μm) := by
  have hS0 := hS
  obtain ⟨s1, s2, s3, s4, s5, s6, s7, s8, s9⟩ := hS
  have hTc := hTx.e s1 s2
  have hlx := x_letter hTc s7 hp
  have hlm := m_letter hTc s8 hp
  have hpx : fX7_isPrimitive (nI T) = some (if T < 8 then 1 else 0) := by
    have g : ∀ t, t < 13 → fX7_isPrimitive (nI t) = some (if t < 8 then 1 else 0) := by decide +kernel
    exact g T (by omega)
  -- behind the star
  have rest : RE μx0 μm0 μx n T k (fX3_readElement_b28 μx) (fX8_readCell_b38 μm) := by
    unfold fX3_readElement_b28 fX8_readCell_b38 fX8_readCell_b55
    rw [s3, s4]
    by_cases h12 : T = 12
    · subst h12
      rw [if_pos (show nI 12 = 12 from rfl), if_neg (show ¬ nI 12 = 11 by decide), if_pos (show nI 12 = 12 from rfl), bd hlx, bd hlm]
      have go : ∀ κ : Nat, (κ < 8 ∨ κ = 10) → p < n → RE μx0 μm0 μx n 12 k (fX3_readElement_b80 (nI κ) μx) (fX8_readCell_b86 (nI κ) μm) := by
        intro κ hκ hpn
        have n9 : ¬ nI κ = -9 := by
          have g : ∀ κ, κ < 11 → ¬ nI κ = -9 := by decide +kernel
          exact g κ (by omega)
        have := re_num (κ := κ) hTx (hS0.on (p + 1)) hk (show p + 1 ≤ n by omega) (by decide) (by omega)
        unfold fX3_readElement_b80 fX8_readCell_b86
        rw [if_neg n9, if_neg n9, s7, s8, nI_1]
        exact this
      have bad : RE μx0 μm0 μx n 12 k (fX3_readElement_b80 (-9) μx) (fX8_readCell_b86 (-9) μm) := by
        unfold fX3_readElement_b80 fX8_readCell_b86
        rw [if_pos rfl, if_pos rfl]
        exact ⟨false, p, μx, μm, rfl, rfl, hp, fun _ => hS0, fun z => absurd z (by decide)⟩
      by_cases h116 : ltr n L p = 116
      · rw [if_pos h116, if_pos h116]
        exact go 10 (Or.inr rfl) (ltr_lt h116 (by decide))
      · rw [if_neg h116, if_neg h116, bd hlx, bd hlm]
        rcases ltr_c hTc p with ⟨z, hnp⟩ | ⟨hpn, c, hc, z⟩
        · rw [z, bd (po9 μx), bd (show fX8_plainOf (-9) = some (-9) from rfl)]
          exact bad
        · obtain ⟨e1, e2⟩ := po_c c hc
          rw [z, po_ind _ μx μ0M, e1]
          rcases e2 with e2 | ⟨κ, hκ, e2⟩
          · rw [bd e2, bd e2]
            exact bad
          · rw [bd e2, bd e2]
            exact go κ (Or.inl hκ) hpn
    · have n12 : ¬ nI T = 12 := nI_ne (b := 12) (by omega) (by decide) h12
      rw [if_neg n12, if_neg n12, if_neg n12]
      by_cases h11 : T = 11
      · subst h11
        rw [if_pos (show nI 11 = 11 from rfl), if_pos (show nI 11 = 11 from rfl)]
        exact re_num (κ := 4) hTx hS0 hk hp (by decide) (Or.inl ⟨by decide, fun z => absurd z (by decide)⟩)
      · have n11 : ¬ nI T = 11 := nI_ne (b := 11) (by omega) (by decide) h11
        rw [if_neg n11, if_neg n11]
        exact re_num (κ := T) hTx hS0 hk hp (by omega) (by omega)
  unfold fX3_readElement fX8_readCell
  rw [s3, s4, bd hpx, pl_c T (by omega), bd rfl]
  by_cases h8 : T < 8
  · rw [if_pos h8, if_neg one_ne, if_neg one_ne]
    exact rest
  · rw [if_neg h8, if_pos rfl, if_pos rfl, x_skip hTc s7 hp, bd hlm]
    by_cases z : ltr n L p = 42
    · have hpn := ltr_lt z (by decide)
      rw [if_pos z, if_pos z, bn rfl, if_neg one_ne]
      have k3 : (wI μx 1 6 (nI (p + 1))).1 1 3 = nI k := s5
      rw [bd (x_keepN hk k3 (-9) 0), s8, nI_1]
      obtain ⟨t1, t2, t3, t4, t5, t6, t7, t8, t9⟩ := hS0.on (p + 1)
      have hx : GX μx (wL (wI (wI μx 1 6 (nI (p + 1))) 9 k (-9)) 10 k 0) k (-9) 0 (p + 1) := GX.keep (FX.rf.w _) rfl _ _
      have hel : El T (-9) 0 0 0 0 := ⟨0, rfl, fun mc star => ⟨fun y => absurd y h8, fun _ => by decide, Or.inl ⟨rfl, rfl, rfl⟩⟩⟩
      obtain ⟨y1, y2, y3⟩ := re_ok hS0 hk hx t2 t4 t6 t8 (fun i hi => ⟨rfl, rfl, rfl⟩) hel
      refine ⟨true, p + 1, _, _, rfl, ?_, by omega, fun y => absurd y (by decide), fun _ => ⟨y2, y3⟩⟩
      rw [bd y1]
      rfl
    · rw [if_neg z, if_neg z, bn rfl, if_pos rfl]
      exact rest
