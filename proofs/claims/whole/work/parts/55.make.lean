/-! make -/
theorem x_prepLp {μ : Mm} {r0 t n : Nat} (hr : r0 < 26) (hn : n ≤ 6) (w : Int32) (hp : (fX7_isPrimitive (nI t) = some 0 ∧ w = -9) ∨ (fX7_isPrimitive (nI t) = some 1 ∧ w = nI t)) : ∀ m f i (μ1 : Mm), i + m = n → m < f → BX μ μ1 r0 → (∀ j, j < i → μ1.1 13 (6 * r0 + j) = w ∧ μ1.2 14 (6 * r0 + j) = 0) → ∃ μ2, fX5_prepare_b17 f (nI r0) (nI t) (nI n) (nI i) μ1 = some μ2 ∧ BX μ μ2 r0 ∧ (∀ o, o ≠ 13 → μ2.1 o = μ1.1 o) ∧ ∀ j, j < n → μ2.1 13 (6 * r0 + j) = w ∧ μ2.2 14 (6 * r0 + j) = 0 := by
  intro m
  induction m with
  | zero =>
    intro f i μ1 he hf hB hc
    obtain ⟨f, rfl⟩ : ∃ g, f = g + 1 := ⟨f - 1, by omega⟩
    refine ⟨μ1, ?_, hB, fun _ _ => rfl, fun j hj => hc j (by omega)⟩
    unfold fX5_prepare_b17
    rw [if_pos (nI_le (by omega) (by omega))]
  | succ m ih =>
    intro f i μ1 he hf hB hc
    obtain ⟨f, rfl⟩ : ∃ g, f = g + 1 := ⟨f - 1, by omega⟩
    obtain ⟨μ2, g1, g2, g3, g4⟩ := ih f (i + 1) (wL (wI μ1 13 (6 * r0 + i) w) 14 (6 * r0 + i) 0) (by omega) (by omega) (hB.set (show i < 6 by omega) w 0) (fun j hj => by
      rw [wL_1, wI_1, wL_2, wI_2]
      by_cases z : j = i
      · subst z
        rw [if_pos ⟨rfl, rfl⟩, if_pos ⟨rfl, rfl⟩]
        exact ⟨rfl, rfl⟩
      · rw [if_neg (by omega), if_neg (by omega)]
        exact hc j (by omega))
    refine ⟨μ2, ?_, g2, fun o ho => ?_, g4⟩
    · unfold fX5_prepare_b17 fX5_prepare_b40
      rw [if_neg (nI_ge (by omega) (by omega))]
      rcases hp with ⟨p1, p2⟩ | ⟨p1, p2⟩
      · rw [bd p1, if_pos rfl, bd (x_set hr (by omega) (-9) 0 μ1), nI_1]
        rw [p2] at g1
        exact g1
      · rw [bd p1, if_neg one_ne, bd (x_set hr (by omega) (nI t) 0 μ1), nI_1]
        rw [p2] at g1
        exact g1
    · rw [g3 o ho]
      funext k
      rw [wL_1, wI_1, if_neg (fun z => ho z.1)]
theorem x_prep {μ : Mm} {r0 t n : Nat} (hr : r0 < 26) (hn : n ≤ 6) (ht : t < 16) : ∃ μ1, fX5_prepare (nI r0) (nI t) (nI n) μ = some μ1 ∧ BX μ μ1 r0 ∧ μ1.1 11 r0 = nI t ∧ μ1.1 12 r0 = nI n ∧ ∀ j, j < n → μ1.1 13 (6 * r0 + j) = (if t < 8 then nI t else -9) ∧ μ1.2 14 (6 * r0 + j) = 0 := by
  have hp : (fX7_isPrimitive (nI t) = some 0 ∧ (if t < 8 then nI t else -9) = -9) ∨ (fX7_isPrimitive (nI t) = some 1 ∧ (if t < 8 then nI t else -9) = nI t) := by
    have g : ∀ t, t < 16 → (fX7_isPrimitive (nI t) = some 0 ∧ (if t < 8 then nI t else -9) = -9) ∨ (fX7_isPrimitive (nI t) = some 1 ∧ (if t < 8 then nI t else -9) = nI t) := by decide +kernel
    exact g t ht
  have hB0 : BX μ (wI (wI μ 11 r0 (nI t)) 12 r0 (nI n)) r0 := ⟨fun o k a1 a2 a3 => by rw [wI_1, if_neg a2, wI_1, if_neg a1], fun o k a1 => rfl⟩
  obtain ⟨μ2, g1, g2, g3, g4⟩ := x_prepLp (μ := μ) hr hn _ hp n 100 0 (wI (wI μ 11 r0 (nI t)) 12 r0 (nI n)) (by omega) (by omega) hB0 (fun j hj => by omega)
  refine ⟨μ2, ?_, g2, ?_, ?_, g4⟩
  · unfold fX5_prepare
    rw [if_pos (inb26 hr), if_pos (inb26 hr), cl (by omega)]
    exact g1
  · rw [g3 11 (by decide)]
    show (if 11 = 12 ∧ r0 = r0 then nI n else if 11 = 11 ∧ r0 = r0 then nI t else μ.1 11 r0) = nI t
    rw [if_neg (by omega), if_pos ⟨rfl, rfl⟩]
  · rw [g3 12 (by decide)]
    show (if 12 = 12 ∧ r0 = r0 then nI n else _) = nI n
    rw [if_pos ⟨rfl, rfl⟩]
/-- a cell told -/
def pT (μ : Mm) (j : Nat) (f k : Int32) (v : Int64) : Mm := wI (wL (wI (wI μ 24 j f) 25 j k) 26 j v) 0 33 (nI (j + 1))
theorem m_put {μ : Mm} {j : Nat} (hj : j < 6) (h : μ.1 0 33 = nI j) (f k : Int32) (v : Int64) : fX8_putTold f k v μ = some (pT μ j f k v) := by
  have ib : inb (nI j) 6 = true := inb_nI hj (by decide)
  unfold fX8_putTold pT
  have e1 : (wI μ 24 (μ.1 0 33).toNatClampNeg f).1 0 33 = nI j := h
  have e2 : (wI (wI μ 24 (μ.1 0 33).toNatClampNeg f) 25 ((wI μ 24 (μ.1 0 33).toNatClampNeg f).1 0 33).toNatClampNeg k).1 0 33 = nI j := h
  have e3 : (wL (wI (wI μ 24 (μ.1 0 33).toNatClampNeg f) 25 ((wI μ 24 (μ.1 0 33).toNatClampNeg f).1 0 33).toNatClampNeg k) 26 ((wI (wI μ 24 (μ.1 0 33).toNatClampNeg f) 25 ((wI μ 24 (μ.1 0 33).toNatClampNeg f).1 0 33).toNatClampNeg k).1 0 33).toNatClampNeg v).1 0 33 = nI j := h
  rw [e3, e2, e1, h, if_pos ib, if_pos ib, if_pos ib, cl (by omega), nI_1]
/-- the reference's memory while a row is told -/
def BM (μ μ1 : Mm) (T : Int32) (j : Nat) (F K : Nat → Int32) (V : Nat → Int64) : Prop := EqM μ μ1 ∧ μ1.1 0 32 = T ∧ μ1.1 0 33 = nI j ∧ ∀ i, i < j → μ1.1 24 i = F i ∧ μ1.1 25 i = K i ∧ μ1.2 26 i = V i
theorem BM.put {μ μ1 : Mm} {T : Int32} {j : Nat} {F K : Nat → Int32} {V : Nat → Int64} (h : BM μ μ1 T j F K V) (hj : j < 6) : fX8_putTold (F j) (K j) (V j) μ1 = some (pT μ1 j (F j) (K j) (V j)) ∧ BM μ (pT μ1 j (F j) (K j) (V j)) T (j + 1) F K V := by
  obtain ⟨h1, h2, h3, h4⟩ := h
  refine ⟨m_put hj h3 _ _ _, ?_, h2, rfl, fun i hi => ?_⟩
  · unfold pT
    refine EqM.wI (EqM.wL (EqM.wI (EqM.wI h1 (by simp [scM])) (by simp [scM])) (by omega)) rfl
  · have e1 : (pT μ1 j (F j) (K j) (V j)).1 24 i = if i = j then F j else μ1.1 24 i := by
      show (if 24 = 24 ∧ i = j then F j else μ1.1 24 i) = _
      by_cases z : i = j
      · rw [if_pos ⟨rfl, z⟩, if_pos z]
      · rw [if_neg (fun y => z y.2), if_neg z]
    have e2 : (pT μ1 j (F j) (K j) (V j)).1 25 i = if i = j then K j else μ1.1 25 i := by
      show (if 25 = 25 ∧ i = j then K j else μ1.1 25 i) = _
      by_cases z : i = j
      · rw [if_pos ⟨rfl, z⟩, if_pos z]
      · rw [if_neg (fun y => z y.2), if_neg z]
    have e3 : (pT μ1 j (F j) (K j) (V j)).2 26 i = if i = j then V j else μ1.2 26 i := by
      show (if 26 = 26 ∧ i = j then V j else μ1.2 26 i) = _
      by_cases z : i = j
      · rw [if_pos ⟨rfl, z⟩, if_pos z]
      · rw [if_neg (fun y => z y.2), if_neg z]
    rw [e1, e2, e3]
    by_cases z : i = j
    · rw [if_pos z, if_pos z, if_pos z, z]
      exact ⟨rfl, rfl, rfl⟩
    · rw [if_neg z, if_neg z, if_neg z]
      exact h4 i (by omega)
theorem BM.start (μ : Mm) (T : Int32) (F K : Nat → Int32) (V : Nat → Int64) : BM μ (wI (wI μ 0 32 T) 0 33 0) T 0 F K V := ⟨(EqM.rf.wI rfl).wI rfl, rfl, rfl, fun i hi => by omega⟩
theorem mk_m {μ : Mm} {t n : Nat} (b was : Int32) (ht : t < 13) (hn : n ≤ 6) : ∀ m f i (μ1 : Mm), i + m = n → m < f → BM μ μ1 (nI t) i (fun _ => if t < 8 then 1 else 0) (fun _ => if t < 8 then nI t else 0) (fun _ => 0) → ∃ μ2, fX8_make_b95 f b (nI t) (nI n) was (nI i) μ1 = ((fX8_holdNew b μ2).bind fun μ138 => some (was, μ138)) ∧ BM μ μ2 (nI t) n (fun _ => if t < 8 then 1 else 0) (fun _ => if t < 8 then nI t else 0) (fun _ => 0) := by
  intro m
  induction m with
  | zero =>
    intro f i μ1 he hf hB
    obtain ⟨f, rfl⟩ : ∃ g, f = g + 1 := ⟨f - 1, by omega⟩
    have : i = n := by omega
    subst this
    refine ⟨μ1, ?_, hB⟩
    unfold fX8_make_b95
    rw [if_pos (nI_le (by omega) (by omega))]
  | succ m ih =>
    intro f i μ1 he hf hB
    obtain ⟨f, rfl⟩ : ∃ g, f = g + 1 := ⟨f - 1, by omega⟩
    obtain ⟨p1, p2⟩ := hB.put (by omega)
    obtain ⟨μ2, g1, g2⟩ := ih f (i + 1) _ (by omega) (by omega) p2
    refine ⟨μ2, ?_, g2⟩
    unfold fX8_make_b95 fX8_make_b114 fX8_make_b126
    rw [if_neg (nI_ge (by omega) (by omega)), pl_c t ht, bd rfl, nI_1]
    by_cases h8 : t < 8
    · simp only [if_pos h8] at p1 g1 ⊢
      rw [if_neg one_ne, bd rfl, if_neg one_ne, bd p1]
      exact g1
    · simp only [if_neg h8] at p1 g1 ⊢
      rw [if_pos trivial, bd rfl, if_pos rfl, bd p1]
      exact g1
theorem Cr.single {mc : Nat} {star th le th' le' : Nat → Int32} {x : Xc} {m : Mc} (h : Cr mc star th le x m) {b r t : Nat} (hr : r < 26) (h13 : 13 ≤ t) (h16 : t < 16) {ty' nu : Nat → Int32} {co' : Nat → Int64} (e1 : th' r = nI t) (e2 : le' r = 0)
    (hs : ∀ a, a < 10 → ∀ r', r' < 26 → x.1 a = nI r' → th' r' = th r' ∧ le' r' = le r' ∧ ∀ i, i < 6 → ty' (6 * r' + i) = x.2.1 (6 * r' + i) ∧ co' (6 * r' + i) = x.2.2.1 (6 * r' + i)) (hf : ∀ a, a < 10 → m.2.1 a ≠ -9 → x.1 a ≠ nI r) :
    Cr mc star th' le' (upd x.1 b (nI r), ty', co', nu) (upd m.1 b (nI t), upd m.2.1 b (-9), m.2.2) := by
  refine ⟨fun a ha => ?_, fun a c ha hc hne => ?_⟩
  · by_cases z : a = b
    · subst z
      exact ⟨r, t, hr, h16, pk_us, e1, pk_us, Or.inr ⟨h13, pk_us, e2⟩⟩
    · obtain ⟨r', t', hr', ht', a1, a2, a3, a4⟩ := h.1 a ha
      obtain ⟨s1, s2, s3⟩ := hs a ha r' hr' a1
      refine ⟨r', t', hr', ht', by show upd x.1 b (nI r) a = _; rw [pk_un z]; exact a1, by rw [s1]; exact a2, by show upd m.1 b (nI t) a = _; rw [pk_un z]; exact a3, ?_⟩
      rcases a4 with ⟨h12, q, n', hq, hn', b1, b2, b3, b4, hce⟩ | ⟨y1, y2, y3⟩
      · refine Or.inl ⟨h12, q, n', hq, hn', by show upd m.2.1 b (-9) a = _; rw [pk_un z]; exact b1, b2, by rw [s2]; exact b3, b4, fun i hi => ?_⟩
        show Ce mc star t' (ty' (6 * r' + i)) (co' (6 * r' + i)) _ _ _
        rw [(s3 i (by omega)).1, (s3 i (by omega)).2]
        exact hce i hi
      · exact Or.inr ⟨y1, by show upd m.2.1 b (-9) a = _; rw [pk_un z]; exact y2, by rw [s2]; exact y3⟩
  · show (upd x.1 b (nI r) a = upd x.1 b (nI r) c ↔ upd m.2.1 b (-9) a = upd m.2.1 b (-9) c)
    have hne' : upd m.2.1 b (-9) a ≠ -9 := hne
    by_cases z : a = b
    · subst z
      rw [pk_us] at hne'
      exact absurd rfl hne'
    · rw [pk_un z] at hne'
      rw [pk_un z, pk_un z]
      by_cases y : c = b
      · subst y
        rw [pk_us, pk_us]
        exact ⟨fun w => absurd w (hf a ha hne'), fun w => absurd w hne'⟩
      · rw [pk_un y, pk_un y]
        exact h.2 a c ha hc hne'
theorem st_make : St_make Rel := by
  intro p1 p2 p3 μx μm h
  have h0 := h
  obtain ⟨hRp, mc, hq⟩ := h.q
  have hq0 := hq
  obtain ⟨hT, hV, hM, hH, hC, hG⟩ := hq
  have hin : fX8_in (Int32.toInt64 p2) 0 15 = _ := in32 p2 0 15
  have hin6 : fX8_in (Int32.toInt64 p3) 0 6 = _ := in32 p3 0 6
  have hin0 : fX8_in (Int32.toInt64 p3) 0 0 = _ := in32 p3 0 0
  rcases slot_cases p1 with hp | ⟨b, hb, rfl⟩
  · exact ⟨-1, μx, μm, by unfold fX7_make; rw [x_isSlot, bz_f hp]; rfl, by unfold fX8_make; rw [m_isSlot, bz_f hp]; rfl, h0⟩
  have hs := slot_ok hb
  rcases rng p2 15 (n := 15) rfl with hp2 | ⟨t, ht, rfl⟩
  · refine ⟨-2, μx, μm, ?_, ?_, h0⟩
    · unfold fX7_make fX7_make_b21
      rw [x_isSlot, bz_t hs, bd rfl, if_neg one_ne]
      rcases not_rng hp2 with z | ⟨z, z2⟩
      · rw [if_pos z, if_pos z, ite_self]
      · rw [if_neg z, if_neg z, if_pos (Int32.not_le.mp z2), if_pos (Int32.not_le.mp z2), ite_self]
    · unfold fX8_make
      rw [m_isSlot, bz_t hs, bd rfl, if_neg one_ne, hin, bz_f hp2, bd rfl, if_pos rfl]
  have hp2 := rng_ok (M := 15) (n := 15) rfl (by decide) ht
  have h15 : ¬ (15 : Int32) < nI t := Int32.not_lt.mpr hp2.2
  have h0t : ¬ nI t < 0 := Int32.not_lt.mpr hp2.1
  obtain ⟨r, t0, hr, ht0, e1, e2, e3, hA⟩ := slotR hC hb
  by_cases h13 : t < 13
  · have g13 : ¬ (13 : Int32) ≤ nI t := nI_ge (b := 13) h13 (by decide)
    have l13 : nI t < 13 := nI_lt (b := 13) h13 (by decide)
    have n15 : ¬ nI t = 15 := nI_ne (b := 15) (by omega) (by decide) (by omega)
    rcases rng p3 6 (n := 6) rfl with hp3 | ⟨n, hn, rfl⟩
    · refine ⟨-2, μx, μm, ?_, ?_, h0⟩
      · unfold fX7_make fX7_make_b21
        rw [x_isSlot, bz_t hs, bd rfl, if_neg one_ne, if_neg g13, if_neg h0t, if_neg h15]
        rcases not_rng hp3 with z | ⟨z, z2⟩
        · rw [if_pos z]
        · rw [if_neg z, if_neg z2]
      · unfold fX8_make fX8_make_b37
        rw [m_isSlot, bz_t hs, bd rfl, if_neg one_ne, hin, bz_t hp2, bd rfl, if_neg one_ne, if_neg g13, hin6, bz_f hp3, bd rfl, if_pos rfl]
    · have hp3 := rng_ok (M := 6) (n := 6) rfl (by decide) hn
      obtain ⟨r0, r1, r2, r3, f1, fin⟩ := new_row hq0 hRp
      obtain ⟨μx1, x1, x2, x3, x4, x5⟩ := x_prep (μ := μx) (r0 := r0) (t := t) (n := n) r2 hn (by omega)
      obtain ⟨μ2, g1, g2, g3, g4, g5⟩ := mk_m (μ := μm) (t := t) (n := n) (nI b) (nI t0) h13 hn n 100 0 _ (by omega) (by omega) (BM.start μm (nI t) _ _ _)
      obtain ⟨μx', μm', y1, y2, y3, -, -⟩ := fin μx1 μ2 b t n x2 g2 hb (by omega) hn x3 x4 g3 g4 (fun i hi => by
        obtain ⟨a1, a2⟩ := x5 i hi
        obtain ⟨b1, b2, b3⟩ := g5 i hi
        rw [a1, a2, b1, b2, b3]
        by_cases h8 : t < 8
        · rw [if_pos h8, if_pos h8, if_pos h8]
          refine ⟨fun _ => ⟨rfl, rfl⟩, fun z => absurd z (by omega), Or.inr (Or.inl ⟨Or.inl rfl, rfl, rfl, t, h8, rfl, ?_⟩)⟩
          have g : t = 0 ∨ t = 1 ∨ t = 2 ∨ t = 3 ∨ t = 4 ∨ t = 5 ∨ t = 6 ∨ t = 7 := by omega
          rcases g with rfl | rfl | rfl | rfl | rfl | rfl | rfl | rfl
          · exact Or.inl rfl
          · exact ⟨by decide, by decide⟩
          · exact ⟨by decide, by decide⟩
          · exact ⟨by decide, by decide⟩
          · exact ⟨by decide, by decide⟩
          · exact trivial
          · exact Or.inl rfl
          · exact Or.inl rfl
        · rw [if_neg h8, if_neg h8, if_neg h8]
          exact ⟨fun z => absurd z h8, fun _ => (show (0 : Int32) ≠ 1 by decide), Or.inl ⟨rfl, rfl, rfl⟩⟩)
      refine ⟨nI t0, μx', μm', ?_, ?_, y3⟩
      · unfold fX7_make fX7_make_b21
        rw [x_isSlot, bz_t hs, bd rfl, if_neg one_ne, if_neg g13, if_neg h0t, if_neg h15, if_neg (Int32.not_lt.mpr hp3.1), if_pos hp3.2, bd (x_thingIn hb hr e1 e2), if_neg n15]
        unfold fX7_newRow
        rw [bd r3, bd x1]
        show fX7_make_b71 (nI t0) (nI r0) (nI b) μx1 = _
        unfold fX7_make_b71
        rw [bd y1]
      · unfold fX8_make fX8_make_b37
        rw [m_isSlot, bz_t hs, bd rfl, if_neg one_ne, hin, bz_t hp2, bd rfl, if_neg one_ne, if_neg g13, hin6, bz_t hp3, bd rfl, if_neg one_ne, if_pos (inb10 hb), if_pos l13, cl (by omega), e3]
        refine Eq.trans g1 ?_
        rw [bd y2]
  · have g13 : (13 : Int32) ≤ nI t := nI_le (a := 13) (by omega) (by omega)
    have l13 : ¬ nI t < 13 := Int32.not_lt.mpr g13
    rcases rng p3 0 (n := 0) rfl with hp3 | ⟨n, hn, rfl⟩
    · refine ⟨-2, μx, μm, ?_, ?_, h0⟩
      · unfold fX7_make fX7_make_b21
        rw [x_isSlot, bz_t hs, bd rfl, if_neg one_ne, if_pos g13, if_neg h0t, if_neg h15]
        rcases not_rng hp3 with z | ⟨z, z2⟩
        · rw [if_pos z]
        · rw [if_neg z, if_neg z2]
      · unfold fX8_make fX8_make_b37
        rw [m_isSlot, bz_t hs, bd rfl, if_neg one_ne, hin, bz_t hp2, bd rfl, if_neg one_ne, if_pos g13, hin0, bz_f hp3, bd rfl, if_pos rfl]
    · have hn0 : n = 0 := by omega
      subst hn0
      have hp3 := rng_ok (M := 0) (n := 0) rfl (by decide) hn
      obtain ⟨nx, kp, hnx, hkp, x6, m27, x7, m26, hL⟩ := hG
      obtain ⟨μ1, en, nm, sm, n27, n26, nk, n8, nn0, n24, nl⟩ := m_note2 hnx hkp m27 m26 hM.2.2.1
      have mres : fX8_make (nI b) (nI t) (nI 0) μm = some (nI t0, wI (wI μ1 2 b (nI t)) 3 b (-9)) := by
        unfold fX8_make fX8_make_b37
        rw [m_isSlot, bz_t hs, bd rfl, if_neg one_ne, hin, bz_t hp2, bd rfl, if_neg one_ne, if_pos g13, hin0, bz_t hp3, bd rfl, if_neg one_ne, if_pos (inb10 hb), if_neg l13, bd en, if_pos (inb10 hb), if_pos (inb10 hb), cl (by omega), e3]
      have em : mcore (wI (wI μ1 2 b (nI t)) 3 b (-9)) = (upd (μm.1 2) b (nI t), upd (μm.1 3) b (-9), (mcore μm).2.2) := by
        have w2 : (wI (wI μ1 2 b (nI t)) 3 b (-9)).1 2 = upd (μm.1 2) b (nI t) := by
          funext k
          show (if 2 = 2 ∧ k = b then nI t else μ1.1 2 k) = if k = b then nI t else μm.1 2 k
          rw [nk 2 (by decide)]
          simp
        have w3 : (wI (wI μ1 2 b (nI t)) 3 b (-9)).1 3 = upd (μm.1 3) b (-9) := by
          funext k
          show (if 3 = 3 ∧ k = b then (-9 : Int32) else μ1.1 3 k) = if k = b then (-9 : Int32) else μm.1 3 k
          rw [nk 3 (by decide)]
          simp
        unfold mcore
        rw [w2, w3]
        show (_, _, μ1.1 4, μ1.1 5, μ1.1 6, μ1.1 7, μ1.2 8) = _
        rw [nk 4 (by decide), nk 5 (by decide), nk 6 (by decide), nk 7 (by decide), n8]
      have e10 : (wI (wI μ1 2 b (nI t)) 3 b (-9)).1 10 = μm.1 10 := nm.1
      by_cases h5 : t = 15
      · subst h5
        obtain ⟨f1, f2⟩ := no30 hC hL
        refine ⟨nI t0, xSlotAct μx nx kp b (μx.1 6 b) 0, wI (wI μ1 2 b (nI 15)) 3 b (-9), ?_, mres, ?_⟩
        · unfold fX7_make fX7_make_b21
          rw [x_isSlot, bz_t hs, bd rfl, if_neg one_ne, if_pos g13, if_neg h0t, if_neg h15, if_neg (Int32.not_lt.mpr hp3.1), if_pos hp3.2, bd (x_thingIn hb hr e1 e2), if_pos (show nI 15 = 15 from rfl)]
          unfold fX7_make_b71
          rw [bd (x_replace hnx hkp x6 x7 hb 0)]
        · refine slot_rel (r0 := 30) hT hV hRp hM hH hC hnx hL hkp hb ⟨rfl, rfl, rfl, rfl, rfl, rfl, rfl, rfl, rfl, rfl⟩ rfl (fun _ _ => rfl) rfl AgX.rf (fun _ _ => ⟨rfl, rfl⟩) (by decide) f1 f2 ((nm.w (by decide)).w (by decide)) ((sm.w (by decide)).w (by decide)) n27 n26 (nk 9 (by decide)) ?_
          rw [em, e10]
          refine Cr.single (b := b) (r := 0) (t := 15) hC.1 (by decide) (by decide) (by decide) hC.2.1 hC.2.2 (fun a ha r' hr' er => ⟨rfl, rfl, fun i hi => ⟨rfl, rfl⟩⟩) (fun a ha hne er => ?_)
          obtain ⟨r', t', hr', ht', a1, a2, a3, a4⟩ := hC.1.1 a ha
          have hr0 : r' = 0 := (nI_eq (by omega) (by omega)).mp (a1.symm.trans er)
          subst hr0
          have ht15 : t' = 15 := (nI_eq (b := 15) (by omega) (by decide)).mp (a2.symm.trans hC.2.1)
          subst ht15
          rcases a4 with ⟨y, -⟩ | ⟨-, y, -⟩
          · omega
          · exact hne y
      · have n15 : ¬ nI t = 15 := nI_ne (b := 15) (by omega) (by decide) h5
        obtain ⟨r0, r1, r2, r3, f1, f2⟩ := x_free hnx hkp x6 x7
        obtain ⟨μx1, k1, hB, k3, k4, -⟩ := x_prep (μ := μx) (r0 := r0) (t := t) (n := 0) r2 (by decide) (by omega)
        have hB3 : μx1.1 3 = μx.1 3 := hB.o (by decide) (by decide) (by decide)
        have hB6 : μx1.1 6 b = μx.1 6 b := by rw [hB.o (by decide) (by decide) (by decide)]
        have hrep := x_replace (μ := μx1) hnx hkp (by rw [hB3]; exact x6) (by rw [hB3]; exact x7) hb (nI r0)
        rw [hB6] at hrep
        refine ⟨nI t0, xSlotAct μx1 nx kp b (μx.1 6 b) (nI r0), wI (wI μ1 2 b (nI t)) 3 b (-9), ?_, mres, ?_⟩
        · unfold fX7_make fX7_make_b21
          rw [x_isSlot, bz_t hs, bd rfl, if_neg one_ne, if_pos g13, if_neg h0t, if_neg h15, if_neg (Int32.not_lt.mpr hp3.1), if_pos hp3.2, bd (x_thingIn hb hr e1 e2), if_neg n15]
          unfold fX7_newRow
          rw [bd r3, bd k1]
          show fX7_make_b71 (nI t0) (nI r0) (nI b) μx1 = _
          unfold fX7_make_b71
          rw [bd hrep]
        · refine slot_rel (r0 := r0) hT hV hRp hM hH hC hnx hL hkp hb ⟨hB.o (by decide) (by decide) (by decide), by rw [hB.o (by decide) (by decide) (by decide)], hB.o (by decide) (by decide) (by decide), hB.o (by decide) (by decide) (by decide), hB.o (by decide) (by decide) (by decide), hB.o (by decide) (by decide) (by decide), hB.o (by decide) (by decide) (by decide), hB.o (by decide) (by decide) (by decide), hB.o (by decide) (by decide) (by decide), hB.l (by decide)⟩ (hB.o (by decide) (by decide) (by decide)) (fun o ho => ?_) (hB.l (by decide)) ⟨hB.o (by decide) (by decide) (by decide), hB.o (by decide) (by decide) (by decide), fun k hk => ⟨hB.1 13 k (by omega) (by omega) (fun z => hk z.2), hB.2 14 k (fun z => hk z.2)⟩⟩ (fun r hr => ⟨hB.1 11 r (fun z => hr z.2) (by omega) (by omega), hB.1 12 r (by omega) (fun z => hr z.2) (by omega)⟩) (by omega) f1 f2 ((nm.w (by decide)).w (by decide)) ((sm.w (by decide)).w (by decide)) n27 n26 (nk 9 (by decide)) ?_
          · simp only [List.mem_cons, List.not_mem_nil, or_false] at ho
            exact hB.o (by omega) (by omega) (by omega)
          · rw [em, e10]
            refine Cr.single (b := b) (r := r0) (t := t) hC.1 r2 (by omega) (by omega) k3 k4 (fun a ha r' hr' er => ?_) (fun a ha _ => f1 a ha)
            have hrr : r' ≠ r0 := fun y => f1 a ha (by rw [← y]; exact er)
            exact ⟨hB.1 11 r' (fun z => hrr z.2) (by omega) (by omega), hB.1 12 r' (by omega) (fun z => hrr z.2) (by omega), fun i hi => ⟨hB.1 13 _ (by omega) (by omega) (by omega), hB.2 14 _ (by omega)⟩⟩
