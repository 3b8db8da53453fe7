/-! join -/
theorem jtB : ((List.range 13).all fun a => (List.range 13).all fun b => (List.range 13).any fun T => decide (fX4_joinedType (nI a) (nI b) = some (nI T)) && (decide (fX8_joinedKind (nI a) (nI b) = some (nI T)) && (decide (8 ≤ T) || (decide (a < 8) && (decide (b < 8) && (decide (fX8_widens (nI a) (nI T) = some 1) && decide (fX8_widens (nI b) (nI T) = some 1))))))) = true := by decide +kernel
theorem jt {a b : Nat} (ha : a < 13) (hb : b < 13) : ∃ T, T < 13 ∧ fX4_joinedType (nI a) (nI b) = some (nI T) ∧ fX8_joinedKind (nI a) (nI b) = some (nI T) ∧ (T < 8 → a < 8 ∧ b < 8 ∧ fX8_widens (nI a) (nI T) = some 1 ∧ fX8_widens (nI b) (nI T) = some 1) := by
  have h := List.all_eq_true.mp (List.all_eq_true.mp jtB a (List.mem_range.mpr ha)) b (List.mem_range.mpr hb)
  obtain ⟨T, hT, h2⟩ := List.any_eq_true.mp h
  simp only [Bool.and_eq_true, Bool.or_eq_true, decide_eq_true_eq] at h2
  refine ⟨T, List.mem_range.mp hT, h2.1, h2.2.1, fun h8 => ?_⟩
  rcases h2.2.2 with z | z
  · omega
  · exact ⟨z.1, z.2.1, z.2.2.1, z.2.2.2⟩
def jF (T : Nat) (f : Int32) : Int32 := if T < 8 then 1 else (if f = 1 then 2 else f)
def jK (T : Nat) (mk : Int32) : Int32 := if T < 8 then nI T else mk
theorem BM.eq {μ μ1 μ2 : Mm} {T : Int32} {j : Nat} {F K : Nat → Int32} {V : Nat → Int64} (h : BM μ μ1 T j F K V) (e : EqM μ1 μ2) (e0 : μ2.1 0 32 = μ1.1 0 32 ∧ μ2.1 0 33 = μ1.1 0 33) (e1 : μ2.1 24 = μ1.1 24) (e2 : μ2.1 25 = μ1.1 25) (e3 : μ2.2 26 = μ1.2 26) : BM μ μ2 T j F K V := by
  obtain ⟨h1, h2, h3, h4⟩ := h
  exact ⟨h1.tr e, e0.1.trans h2, e0.2.trans h3, fun i hi => by rw [e1, e2, e3]; exact h4 i hi⟩
theorem jn_m {μ : Mm} {q n T d : Nat} (hq : q < 11) (hT : T < 13) (hd : d + n ≤ 6) (h5 : μ.1 5 q = nI n) {F K : Nat → Int32} {V : Nat → Int64}
    (hF : ∀ i, i < n → F (d + i) = jF T (μ.1 6 (6 * q + i)) ∧ K (d + i) = jK T (μ.1 7 (6 * q + i)) ∧ (8 ≤ T → V (d + i) = μ.2 8 (6 * q + i)) ∧ (T < 8 → ∀ μ', ∃ μ'', fX8_widened (μ.1 7 (6 * q + i)) (μ.2 8 (6 * q + i)) (nI T) μ' = some (V (d + i), μ'') ∧ EqA μ' μ'')) :
    ∀ m f i (μ1 : Mm), i + m = n → m < f → BM μ μ1 (nI T) (d + i) F K V → ∃ μ2, fX8_joinCells_b2 f (nI q) (nI i) μ1 = some μ2 ∧ BM μ μ2 (nI T) (d + n) F K V := by
  intro m
  induction m with
  | zero =>
    intro f i μ1 he hf hB
    obtain ⟨f, rfl⟩ : ∃ g, f = g + 1 := ⟨f - 1, by omega⟩
    have : i = n := by omega
    subst this
    refine ⟨μ1, ?_, hB⟩
    have e5 : μ1.1 5 q = nI i := (hB.1.1 5 q rfl).trans h5
    unfold fX8_joinCells_b2
    rw [if_pos (inb11 hq), cl (by omega), e5, if_pos (nI_le (by omega) (by omega))]
  | succ m ih =>
    intro f i μ1 he hf hB
    obtain ⟨f, rfl⟩ : ∃ g, f = g + 1 := ⟨f - 1, by omega⟩
    have e5 : μ1.1 5 q = nI n := (hB.1.1 5 q rfl).trans h5
    have e6 : μ1.1 6 (6 * q + i) = μ.1 6 (6 * q + i) := hB.1.1 6 _ (by simp [scM])
    have e7 : μ1.1 7 (6 * q + i) = μ.1 7 (6 * q + i) := hB.1.1 7 _ (by simp [scM])
    have e8 : μ1.2 8 (6 * q + i) = μ.2 8 (6 * q + i) := hB.1.2 8 _ (Or.inr (Or.inl rfl))
    obtain ⟨F1, K1, V1, V2⟩ := hF i (by omega)
    have hB1 : BM μ (gotM μ1 (6 * q + i)) (nI T) (d + i) F K V := hB.eq (gotM_eq _ _) ⟨rfl, rfl⟩ rfl rfl rfl
    have g32 : (gotM μ1 (6 * q + i)).1 0 32 = nI T := hB.2.1
    have g37 : (gotM μ1 (6 * q + i)).1 0 37 = if μ.1 6 (6 * q + i) = 1 then 2 else μ.1 6 (6 * q + i) := by
      show (if μ1.1 6 (6 * q + i) = 1 then 2 else μ1.1 6 (6 * q + i)) = _
      rw [e6]
    have g38 : (gotM μ1 (6 * q + i)).1 0 38 = μ.1 7 (6 * q + i) := e7
    have g39 : (gotM μ1 (6 * q + i)).2 0 39 = μ.2 8 (6 * q + i) := e8
    have pre : fX8_joinCells_b2 (f + 1) (nI q) (nI i) μ1 = (if T < 8 then fX8_joinCells_b39 (fX8_joinCells_b2 f) (nI q) (nI i) 1 1 (gotM μ1 (6 * q + i)) else fX8_joinCells_b39 (fX8_joinCells_b2 f) (nI q) (nI i) 0 ((gotM μ1 (6 * q + i)).1 0 37) (gotM μ1 (6 * q + i))) := by
      rw [fX8_joinCells_b2, if_pos (inb11 hq), cl (by omega), e5, if_neg (nI_ge (by omega) (by omega)), bd (m_get hq (by omega) μ1), g32, pl_c T hT, bd rfl]
      by_cases h8 : T < 8
      · rw [if_pos h8, if_neg one_ne, if_pos h8]
      · rw [if_neg h8, if_pos rfl, if_neg h8]
    rw [pre]
    by_cases h8 : T < 8
    · obtain ⟨μ'', w1, w2⟩ := V2 h8 (gotM μ1 (6 * q + i))
      have hB2 : BM μ μ'' (nI T) (d + i) F K V := hB1.eq w2.m ⟨w2.1 0 32 (by decide), w2.1 0 33 (by decide)⟩ (funext fun k => w2.1 24 k (by omega)) (funext fun k => w2.1 25 k (by omega)) (funext fun k => w2.2 26 k (by omega))
      obtain ⟨p1, p2⟩ := hB2.put (by omega)
      obtain ⟨μ2, y1, y2⟩ := ih f (i + 1) _ (by omega) (by omega) p2
      refine ⟨μ2, ?_, y2⟩
      unfold jF at F1
      unfold jK at K1
      rw [if_pos h8] at F1
      rw [if_pos h8] at K1
      rw [F1, K1] at p1 y1
      unfold fX8_joinCells_b39 fX8_joinCells_b54 fX8_joinCells_b81
      rw [if_pos h8, if_neg one_ne, if_neg one_ne, g32, g38, g39, bn w1, bd p1, nI_1]
      exact y1
    · obtain ⟨p1, p2⟩ := hB1.put (by omega)
      obtain ⟨μ2, y1, y2⟩ := ih f (i + 1) _ (by omega) (by omega) p2
      refine ⟨μ2, ?_, y2⟩
      have V1' := V1 (by omega)
      unfold jF at F1
      unfold jK at K1
      rw [if_neg h8] at F1
      rw [if_neg h8] at K1
      rw [F1, K1, V1'] at p1 y1
      unfold fX8_joinCells_b39 fX8_joinCells_b54 fX8_joinCells_b81
      rw [if_neg h8, if_pos rfl, if_pos rfl, g37, g38, g39, bd p1, nI_1]
      exact y1
/-- a source cell's place in a joined row -/
theorem jn_src {mc t T : Nat} {star : Nat → Int32} {xt f mk : Int32} {xc mv : Int64} (h : Ce mc star t xt xc f mk mv) (hT : T < 13) (ht8 : T < 8 → t < 8 ∧ fX8_widens (nI t) (nI T) = some 1) :
    (T < 8 → ∃ c, fX2_widened xc xt (nI T) = some c) ∧ Ce mc star T (ptT T xt) (ptC T xt xc) (jF T f) (jK T mk) (if T < 8 then ptC T xt xc else mv) ∧ (T < 8 → ∀ μ', ∃ μ'', fX8_widened mk mv (nI T) μ' = some (ptC T xt xc, μ'') ∧ EqA μ' μ'') := by
  by_cases h8 : T < 8
  · obtain ⟨t8, tw⟩ := ht8 h8
    obtain ⟨v1, v2, v3, v4, v5⟩ := h.val t8
    obtain ⟨c', w1, w2, -⟩ := n_wid t8 h8 tw v5 μ0M
    have hpc : ptC T xt xc = c' := by
      unfold ptC
      rw [if_pos h8, v1, w1]
      rfl
    refine ⟨fun _ => ⟨c', by rw [v1]; exact w1⟩, ?_, fun _ μ' => ?_⟩
    · rw [hpc]
      unfold ptT jF jK
      rw [if_pos h8, if_pos h8, if_pos h8, if_pos h8]
      exact ⟨fun _ => ⟨rfl, rfl⟩, fun z => absurd z (by omega), Or.inr (Or.inl ⟨Or.inl rfl, rfl, rfl, T, h8, rfl, w2⟩)⟩
    · rw [hpc, v2, ← v3]
      exact enD_m t8 h8 tw v5 w1 μ'
  · refine ⟨fun z => absurd z h8, ?_, fun z => absurd z h8⟩
    unfold ptT ptC jF jK
    rw [if_neg h8, if_neg h8, if_neg h8, if_neg h8, if_neg h8]
    exact ⟨fun z => absurd z h8, fun _ => got_ne _, got_it h⟩
theorem st_join : St_join Rel := by
  intro p1 p2 p3 μx μm h
  have h0 := h
  obtain ⟨hRp, mc, hq⟩ := h.q
  have hq0 := hq
  obtain ⟨hT, hV, hM, hH, hC, hG⟩ := hq
  rcases slot_cases p1 with hp | ⟨a, ha, rfl⟩
  · exact ⟨-1, μx, μm, by unfold fX7_join; rw [x_isSlot, bz_f hp]; rfl, by unfold fX8_join; rw [m_isSlot, bz_f hp]; rfl, h0⟩
  have hs := slot_ok ha
  rcases slot_cases p2 with hp | ⟨b, hb, rfl⟩
  · exact ⟨-1, μx, μm, by unfold fX7_join; rw [x_isSlot, bz_t hs, bd rfl, if_neg one_ne, x_isSlot, bz_f hp]; rfl, by unfold fX8_join; rw [m_isSlot, bz_t hs, bd rfl, if_neg one_ne, m_isSlot, bz_f hp]; rfl, h0⟩
  have hs2 := slot_ok hb
  rcases slot_cases p3 with hp | ⟨c, hc, rfl⟩
  · exact ⟨-1, μx, μm, by unfold fX7_join; rw [x_isSlot, bz_t hs, bd rfl, if_neg one_ne, x_isSlot, bz_t hs2, bd rfl, if_neg one_ne, x_isSlot, bz_f hp]; rfl, by unfold fX8_join; rw [m_isSlot, bz_t hs, bd rfl, if_neg one_ne, m_isSlot, bz_t hs2, bd rfl, if_neg one_ne, m_isSlot, bz_f hp]; rfl, h0⟩
  have hs3 := slot_ok hc
  obtain ⟨r1, t1, hr1, ht1, e1, e2, e3, hA⟩ := slotR hC ha
  obtain ⟨r2, t2, hr2, ht2, e1', e2', e3', hA2⟩ := slotR hC hb
  rcases hA.symm with ⟨h13, m1, x1⟩ | ⟨h12, q1, n1, hq1, hn1, m1, m2, x1, m3, hce1⟩
  · refine ⟨-3, μx, μm, ?_, ?_, h0⟩
    · unfold fX7_join
      rw [x_isSlot, bz_t hs, bd rfl, if_neg one_ne, x_isSlot, bz_t hs2, bd rfl, if_neg one_ne, x_isSlot, bz_t hs3, bd rfl, if_neg one_ne, x_holds ha hr1 ht1 e1 e2, bz_f (by omega), bd rfl, if_pos rfl]
    · unfold fX8_join
      rw [m_isSlot, bz_t hs, bd rfl, if_neg one_ne, m_isSlot, bz_t hs2, bd rfl, if_neg one_ne, m_isSlot, bz_t hs3, bd rfl, if_neg one_ne, m_holds ha ht1 e3, bz_f (by omega), bd rfl, if_pos rfl]
  rcases hA2.symm with ⟨h13, m1', x1'⟩ | ⟨h12', q2, n2, hq2, hn2, m1', m2', x1', m3', hce2⟩
  · refine ⟨-3, μx, μm, ?_, ?_, h0⟩
    · unfold fX7_join
      rw [x_isSlot, bz_t hs, bd rfl, if_neg one_ne, x_isSlot, bz_t hs2, bd rfl, if_neg one_ne, x_isSlot, bz_t hs3, bd rfl, if_neg one_ne, x_holds ha hr1 ht1 e1 e2, bz_t h12, bd rfl, if_neg one_ne, x_holds hb hr2 ht2 e1' e2', bz_f (by omega), bd rfl, if_pos rfl]
    · unfold fX8_join
      rw [m_isSlot, bz_t hs, bd rfl, if_neg one_ne, m_isSlot, bz_t hs2, bd rfl, if_neg one_ne, m_isSlot, bz_t hs3, bd rfl, if_neg one_ne, m_holds ha ht1 e3, bz_t h12, bd rfl, if_neg one_ne, m_holds hb ht2 e3', bz_f (by omega), bd rfl, if_pos rfl]
  obtain ⟨T, hT13, j1, j2, j3⟩ := jt (show t1 < 13 by omega) (show t2 < 13 by omega)
  have xpre : fX7_join (nI a) (nI b) (nI c) μx = (if nI (n1 + n2) ≤ (6 : Int32) then (bnd (fX7_newRow (nI T) (nI (n1 + n2)) μx) fun r111 μ111 => ((fX5_putAll (nI r1) (0 : Int32) (μ111.1 12 r1) r111 (0 : Int32) μ111).bind fun μ136 => ((fX5_putAll (nI r2) (0 : Int32) (μ136.1 12 r2) r111 (μ136.1 12 r1) μ136).bind fun μ168 => ((fX7_replace (nI c) r111 μ168).bind fun μ175 => some (nI T, μ175))))) else some ((-4 : Int32), μx)) := by
    unfold fX7_join
    rw [x_isSlot, bz_t hs, bd rfl, if_neg one_ne, x_isSlot, bz_t hs2, bd rfl, if_neg one_ne, x_isSlot, bz_t hs3, bd rfl, if_neg one_ne, x_holds ha hr1 ht1 e1 e2, bz_t h12, bd rfl, if_neg one_ne, x_holds hb hr2 ht2 e1' e2', bz_t h12', bd rfl, if_neg one_ne, if_pos (inb10 ha), if_pos (inb10 hb), cl (show a < 1000 by omega), cl (show b < 1000 by omega), e1, e1', if_pos (inb26 hr1), if_pos (inb26 hr2), cl (show r1 < 1000 by omega), cl (show r2 < 1000 by omega), x1, x1', nI_add, bd (x_thingIn ha hr1 e1 e2), bd (x_thingIn hb hr2 e1' e2'), bd j1]
    congr 1
    congr 1
    funext r111 μ111
    rw [if_pos (inb26 hr1)]
    congr 1
    funext μ136
    rw [if_pos (inb26 hr2), if_pos (inb26 hr1)]
  have mpre : fX8_join (nI a) (nI b) (nI c) μm = (if nI (n1 + n2) ≤ (6 : Int32) then ((fX8_joinCells (nI q1) (wI (wI μm 0 32 (nI T)) 0 33 (0 : Int32))).bind fun μ104 => ((fX8_joinCells (μ104.1 3 b) μ104).bind fun μ114 => ((fX8_holdNew (nI c) μ114).bind fun μ119 => some ((μ119.1 0 32), μ119)))) else some ((-4 : Int32), μm)) := by
    have z3 : (wI (wI μm 0 32 (nI T)) 0 33 (0 : Int32)).1 3 a = nI q1 := m1
    unfold fX8_join
    rw [m_isSlot, bz_t hs, bd rfl, if_neg one_ne, m_isSlot, bz_t hs2, bd rfl, if_neg one_ne, m_isSlot, bz_t hs3, bd rfl, if_neg one_ne, m_holds ha ht1 e3, bz_t h12, bd rfl, if_neg one_ne, m_holds hb ht2 e3', bz_t h12', bd rfl, if_neg one_ne, if_pos (inb10 ha), cl (show a < 1000 by omega), m1, if_pos (inb11 hq1), if_pos (inb10 hb), cl (show b < 1000 by omega), m1', if_pos (inb11 hq2), cl (show q1 < 1000 by omega), cl (show q2 < 1000 by omega), m3, m3', nI_add, if_pos (inb10 ha), if_pos (inb10 hb), e3, e3', bd j2, if_pos (inb10 ha), z3]
    congr 1
    congr 1
    funext μ104
    rw [if_pos (inb10 hb)]
  rw [xpre, mpre]
  have h6 : nI (n1 + n2) ≤ (6 : Int32) ↔ n1 + n2 ≤ 6 := nI_leI (b := 6) (by omega) (by decide)
  by_cases hfit : n1 + n2 ≤ 6
  · rw [if_pos (h6.mpr hfit), if_pos (h6.mpr hfit)]
    obtain ⟨r0, ra, rb, r3, f1, fin⟩ := new_row hq0 hRp
    have hrr1 : r1 ≠ r0 := fun z => f1 a ha (by rw [e1, z])
    have hrr2 : r2 ≠ r0 := fun z => f1 b hb (by rw [e1', z])
    obtain ⟨μx1, k1, hB, k3, k4, -⟩ := x_prep (μ := μx) (r0 := r0) (t := T) (n := n1 + n2) rb hfit (by omega)
    have s1 := fun i (hi : i < n1) => jn_src (hce1 i hi) hT13 (fun h8 => ⟨(j3 h8).1, (j3 h8).2.2.1⟩)
    have s2 := fun i (hi : i < n2) => jn_src (hce2 i hi) hT13 (fun h8 => ⟨(j3 h8).2.1, (j3 h8).2.2.2⟩)
    obtain ⟨μx2, g1, g2, g3, g4⟩ := x_putAll (μ := μx) (r := r1) (r0 := r0) (T := T) (s := 0) (d := 0) (c := n1) hr1 rb hrr1 (by omega) (by omega) (by omega) (fun i hi h8 => by rw [Nat.zero_add]; exact (s1 i hi).1 h8) n1 100 0 μx1 (by omega) (by omega) hB k3
    obtain ⟨μx3, g5, g6, g7, g8⟩ := x_putAll (μ := μx) (r := r2) (r0 := r0) (T := T) (s := 0) (d := n1) (c := n2) hr2 rb hrr2 (by omega) (by omega) (by omega) (fun i hi h8 => by rw [Nat.zero_add]; exact (s2 i hi).1 h8) n2 100 0 μx2 (by omega) (by omega) g2 (by rw [g3 11 (by decide)]; exact k3)
    obtain ⟨F, F1, F2⟩ : ∃ F : Nat → Int32, (∀ i, i < n1 → F i = jF T (μm.1 6 (6 * q1 + i))) ∧ ∀ i, F (n1 + i) = jF T (μm.1 6 (6 * q2 + i)) := ⟨fun i => if i < n1 then jF T (μm.1 6 (6 * q1 + i)) else jF T (μm.1 6 (6 * q2 + (i - n1))), fun i hi => if_pos hi, fun i => (if_neg (by omega)).trans (by rw [Nat.add_sub_cancel_left])⟩
    obtain ⟨K, K1, K2⟩ : ∃ K : Nat → Int32, (∀ i, i < n1 → K i = jK T (μm.1 7 (6 * q1 + i))) ∧ ∀ i, K (n1 + i) = jK T (μm.1 7 (6 * q2 + i)) := ⟨fun i => if i < n1 then jK T (μm.1 7 (6 * q1 + i)) else jK T (μm.1 7 (6 * q2 + (i - n1))), fun i hi => if_pos hi, fun i => (if_neg (by omega)).trans (by rw [Nat.add_sub_cancel_left])⟩
    obtain ⟨V, V1, V2⟩ : ∃ V : Nat → Int64, (∀ i, i < n1 → V i = if T < 8 then ptC T (μx.1 13 (6 * r1 + i)) (μx.2 14 (6 * r1 + i)) else μm.2 8 (6 * q1 + i)) ∧ ∀ i, V (n1 + i) = if T < 8 then ptC T (μx.1 13 (6 * r2 + i)) (μx.2 14 (6 * r2 + i)) else μm.2 8 (6 * q2 + i) := ⟨fun i => if i < n1 then (if T < 8 then ptC T (μx.1 13 (6 * r1 + i)) (μx.2 14 (6 * r1 + i)) else μm.2 8 (6 * q1 + i)) else (if T < 8 then ptC T (μx.1 13 (6 * r2 + (i - n1))) (μx.2 14 (6 * r2 + (i - n1))) else μm.2 8 (6 * q2 + (i - n1))), fun i hi => if_pos hi, fun i => (if_neg (by omega)).trans (by rw [Nat.add_sub_cancel_left])⟩
    obtain ⟨μm2, y1, y2⟩ := jn_m (μ := μm) (d := 0) (F := F) (K := K) (V := V) hq1 hT13 (by omega) m3 (fun i hi => by
      rw [Nat.zero_add]
      exact ⟨F1 i hi, K1 i hi, fun h8 => by rw [V1 i hi, if_neg (by omega)], fun h8 μ' => by rw [V1 i hi, if_pos h8]; exact (s1 i hi).2.2 h8 μ'⟩) n1 100 0 _ (by omega) (by omega) (BM.start μm (nI T) F K V)
    obtain ⟨μm3, y3, y4⟩ := jn_m (μ := μm) (d := n1) (F := F) (K := K) (V := V) hq2 hT13 (by omega) m3' (fun i hi => ⟨F2 i, K2 i, fun h8 => by rw [V2 i, if_neg (by omega)], fun h8 μ' => by rw [V2 i, if_pos h8]; exact (s2 i hi).2.2 h8 μ'⟩) n2 100 0 μm2 (by omega) (by omega) (by rw [Nat.zero_add] at y2; exact y2)
    obtain ⟨y5, y6, y7, y8⟩ := y4
    obtain ⟨μx', μm', z1, z2, z3, z4, -⟩ := fin μx3 μm3 c T (n1 + n2) g6 y5 hc (by omega) hfit (by rw [g7 11 (by decide), g3 11 (by decide)]; exact k3) (by rw [g7 12 (by decide), g3 12 (by decide)]; exact k4) y6 y7 (fun i hi => by
      obtain ⟨c1, c2, c3⟩ := y8 i hi
      obtain ⟨d1, d2⟩ := g8 i (by omega)
      obtain ⟨d3, d4⟩ := g4 i (by omega)
      by_cases hi1 : i < n1
      · rw [if_neg (by omega)] at d1 d2
        rw [if_pos (by omega), Nat.sub_zero, Nat.zero_add] at d3 d4
        rw [c1, c2, c3, d1, d2, d3, d4, F1 i hi1, K1 i hi1, V1 i hi1]
        exact (s1 i hi1).2.1
      · obtain ⟨k, rfl⟩ : ∃ k, i = n1 + k := ⟨i - n1, by omega⟩
        rw [if_pos (by omega), Nat.zero_add, Nat.add_sub_cancel_left] at d1 d2
        rw [c1, c2, c3, d1, d2, F2 k, K2 k, V2 k]
        exact (s2 k (by omega)).2.1)
    have l1 : μx1.1 12 r1 = nI n1 := (hB.1 12 r1 (by omega) (fun z => hrr1 z.2) (by omega)).trans x1
    have l2 : μx2.1 12 r2 = nI n2 := by rw [g2.1 12 r2 (by omega) (fun z => hrr2 z.2) (by omega)]; exact x1'
    have l3 : μx2.1 12 r1 = nI n1 := by rw [g2.1 12 r1 (by omega) (fun z => hrr1 z.2) (by omega)]; exact x1
    have l4 : μm2.1 3 b = nI q2 := (y2.1.1 3 b rfl).trans m1'
    refine ⟨nI T, μx', μm', ?_, ?_, z3⟩
    · have hnr : fX7_newRow (nI T) (nI (n1 + n2)) μx = some (nI r0, μx1) := by
        unfold fX7_newRow
        rw [bd r3, bd k1]
      have hpa : fX5_putAll (nI r1) 0 (nI n1) (nI r0) 0 μx1 = some μx2 := g1
      have hpb : fX5_putAll (nI r2) 0 (nI n2) (nI r0) (nI n1) μx2 = some μx3 := g5
      rw [bn hnr, l1, bd hpa, l2, l3, bd hpb, bd z1]
    · have hja : fX8_joinCells (nI q1) (wI (wI μm 0 32 (nI T)) 0 33 0) = some μm2 := y1
      have hjb : fX8_joinCells (nI q2) μm2 = some μm3 := y3
      rw [bd hja, l4, bd hjb, bd z2, z4]
  · rw [if_neg (fun z => hfit (h6.mp z)), if_neg (fun z => hfit (h6.mp z))]
    exact ⟨-4, μx, μm, rfl, rfl, h0⟩
