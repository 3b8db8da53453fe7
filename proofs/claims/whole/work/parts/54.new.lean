/-! NEW ROWS, 2: a slot gets a new row -/
theorem Cr.fresh {mc : Nat} {star th le th' le' : Nat → Int32} {x : Xc} {m : Mc} (h : Cr mc star th le x m) {b r0 q0 t n : Nat} (hr0 : r0 < 26) (hq0 : q0 < 11) (ht : t ≤ 12) (hn : n ≤ 6)
    (fx : ∀ a, a < 10 → x.1 a ≠ nI r0) (fm : ∀ a, a < 10 → m.2.1 a ≠ nI q0) (hth : ∀ r, r ≠ r0 → th' r = th r ∧ le' r = le r) {ty' nu : Nat → Int32} {co' va' : Nat → Int64} {fo' ki' ko' sz' : Nat → Int32}
    (hx : ∀ k, ¬ (6 * r0 ≤ k ∧ k < 6 * r0 + 6) → ty' k = x.2.1 k ∧ co' k = x.2.2.1 k) (hm : ∀ k, ¬ (6 * q0 ≤ k ∧ k < 6 * q0 + 6) → fo' k = m.2.2.2.2.1 k ∧ ki' k = m.2.2.2.2.2.1 k ∧ va' k = m.2.2.2.2.2.2 k) (hk : ∀ q, q ≠ q0 → ko' q = m.2.2.1 q ∧ sz' q = m.2.2.2.1 q)
    (e1 : th' r0 = nI t) (e2 : le' r0 = nI n) (e3 : ko' q0 = nI t) (e4 : sz' q0 = nI n) (hc : ∀ i, i < n → Ce mc star t (ty' (6 * r0 + i)) (co' (6 * r0 + i)) (fo' (6 * q0 + i)) (ki' (6 * q0 + i)) (va' (6 * q0 + i))) :
    Cr mc star th' le' (upd x.1 b (nI r0), ty', co', nu) (upd m.1 b (nI t), upd m.2.1 b (nI q0), ko', sz', fo', ki', va') := by
  refine ⟨fun a ha => ?_, fun a c ha hc' hne => ?_⟩
  · by_cases z : a = b
    · subst z
      refine ⟨r0, t, hr0, by omega, pk_us, e1, pk_us, Or.inl ⟨ht, q0, n, hq0, hn, pk_us, e3, e2, e4, hc⟩⟩
    · obtain ⟨r, t', hr, ht', a1, a2, a3, a4⟩ := h.1 a ha
      have hrr : r ≠ r0 := fun y => fx a ha (by rw [a1, y])
      refine ⟨r, t', hr, ht', by show upd x.1 b (nI r0) a = _; rw [pk_un z]; exact a1, by rw [(hth r hrr).1]; exact a2, by show upd m.1 b (nI t) a = _; rw [pk_un z]; exact a3, ?_⟩
      rcases a4 with ⟨h12, q, n', hq, hn', b1, b2, b3, b4, hce⟩ | ⟨y1, y2, y3⟩
      · have hqq : q ≠ q0 := fun y => fm a ha (by rw [b1, y])
        refine Or.inl ⟨h12, q, n', hq, hn', by show upd m.2.1 b (nI q0) a = _; rw [pk_un z]; exact b1, by show ko' q = _; rw [(hk q hqq).1]; exact b2, by rw [(hth r hrr).2]; exact b3, by show sz' q = _; rw [(hk q hqq).2]; exact b4, fun i hi => ?_⟩
        show Ce mc star t' (ty' (6 * r + i)) (co' (6 * r + i)) (fo' (6 * q + i)) (ki' (6 * q + i)) (va' (6 * q + i))
        rw [(hx _ (by omega)).1, (hx _ (by omega)).2, (hm _ (by omega)).1, (hm _ (by omega)).2.1, (hm _ (by omega)).2.2]
        exact hce i hi
      · exact Or.inr ⟨y1, by show upd m.2.1 b (nI q0) a = _; rw [pk_un z]; exact y2, by rw [(hth r hrr).2]; exact y3⟩
  · show (upd x.1 b (nI r0) a = upd x.1 b (nI r0) c ↔ upd m.2.1 b (nI q0) a = upd m.2.1 b (nI q0) c)
    have hne' : upd m.2.1 b (nI q0) a ≠ -9 := hne
    by_cases z : a = b
    · subst z
      rw [pk_us, pk_us]
      by_cases y : c = a
      · subst y
        rw [pk_us, pk_us]
        exact ⟨fun _ => rfl, fun _ => rfl⟩
      · rw [pk_un y, pk_un y]
        exact ⟨fun w => absurd w.symm (fx c hc'), fun w => absurd w.symm (fm c hc')⟩
    · rw [pk_un z] at hne'
      rw [pk_un z, pk_un z]
      by_cases y : c = b
      · subst y
        rw [pk_us, pk_us]
        exact ⟨fun w => absurd w (fx a ha), fun w => absurd w (fm a ha)⟩
      · rw [pk_un y, pk_un y]
        exact h.2 a c ha hc' hne'
theorem m_hn {q0 n : Nat} (hq : q0 < 11) (hn : n ≤ 6) : ∀ m f i (μ : Mm), i + m = n → m < f → μ.1 0 33 = nI n → ∃ μ', fX8_holdNew_b48 f (nI q0) (nI i) μ = some μ' ∧ (∀ o j, μ'.1 o j = if o = 6 ∧ 6 * q0 + i ≤ j ∧ j < 6 * q0 + n then μ.1 24 (j - 6 * q0) else if o = 7 ∧ 6 * q0 + i ≤ j ∧ j < 6 * q0 + n then μ.1 25 (j - 6 * q0) else μ.1 o j) ∧ ∀ o j, μ'.2 o j = if o = 8 ∧ 6 * q0 + i ≤ j ∧ j < 6 * q0 + n then μ.2 26 (j - 6 * q0) else μ.2 o j := by
  intro m
  induction m with
  | zero =>
    intro f i μ he hf h33
    obtain ⟨f, rfl⟩ : ∃ g, f = g + 1 := ⟨f - 1, by omega⟩
    refine ⟨μ, ?_, fun o j => by rw [if_neg (by omega), if_neg (by omega)], fun o j => by rw [if_neg (by omega)]⟩
    unfold fX8_holdNew_b48
    rw [h33, if_pos (nI_le (by omega) (by omega))]
  | succ m ih =>
    intro f i μ he hf h33
    obtain ⟨f, rfl⟩ : ∃ g, f = g + 1 := ⟨f - 1, by omega⟩
    have i6 : inb (nI i) 6 = true := inb_nI (show i < 6 by omega) (by decide)
    have ib : inb (nI (6 * q0 + i)) 66 = true := inb_nI (show 6 * q0 + i < 66 by omega) (by decide)
    obtain ⟨μ', g1, g2, g3⟩ := ih f (i + 1) (wL (wI (wI μ 6 (6 * q0 + i) (μ.1 24 i)) 7 (6 * q0 + i) (μ.1 25 i)) 8 (6 * q0 + i) (μ.2 26 i)) (by omega) (by omega) h33
    refine ⟨μ', ?_, fun o j => ?_, fun o j => ?_⟩
    · unfold fX8_holdNew_b48
      rw [h33, if_neg (nI_ge (by omega) (by omega)), if_pos i6, ix6', if_pos ib, if_pos i6, if_pos ib, if_pos i6, if_pos ib, cl (by omega), cl (by omega), nI_1]
      exact g1
    · rw [g2 o j]
      simp only [wL_1, wI_1, Nat.reduceEqDiff, false_and, if_false]
      by_cases o6 : o = 6
      · subst o6
        simp only [Nat.reduceEqDiff, false_and, if_false, true_and]
        by_cases hj : j = 6 * q0 + i
        · subst hj
          rw [if_neg (by omega), if_pos rfl, if_pos (by omega), Nat.add_sub_cancel_left]
        · by_cases hj2 : 6 * q0 + (i + 1) ≤ j ∧ j < 6 * q0 + n
          · rw [if_pos hj2, if_pos (by omega)]
          · rw [if_neg hj2, if_neg hj, if_neg (by omega)]
      · by_cases o7 : o = 7
        · subst o7
          simp only [Nat.reduceEqDiff, false_and, if_false, true_and]
          by_cases hj : j = 6 * q0 + i
          · subst hj
            rw [if_neg (by omega), if_pos rfl, if_pos (by omega), Nat.add_sub_cancel_left]
          · by_cases hj2 : 6 * q0 + (i + 1) ≤ j ∧ j < 6 * q0 + n
            · rw [if_pos hj2, if_pos (by omega)]
            · rw [if_neg hj2, if_neg hj, if_neg (by omega)]
        · simp only [o6, o7, false_and, if_false]
    · rw [g3 o j]
      simp only [wL_2, wI_2, Nat.reduceEqDiff, false_and, if_false]
      by_cases o8 : o = 8
      · subst o8
        simp only [true_and]
        by_cases hj : j = 6 * q0 + i
        · subst hj
          rw [if_neg (by omega), if_pos rfl, if_pos (by omega), Nat.add_sub_cancel_left]
        · by_cases hj2 : 6 * q0 + (i + 1) ≤ j ∧ j < 6 * q0 + n
          · rw [if_pos hj2, if_pos (by omega)]
          · rw [if_neg hj2, if_neg hj, if_neg (by omega)]
      · simp only [o8, false_and, if_false]
/-- the class's memory while a row is built -/
def BX (μ μ1 : Mm) (r0 : Nat) : Prop := (∀ o k, ¬ (o = 11 ∧ k = r0) → ¬ (o = 12 ∧ k = r0) → ¬ (o = 13 ∧ 6 * r0 ≤ k ∧ k < 6 * r0 + 6) → μ1.1 o k = μ.1 o k) ∧ ∀ o k, ¬ (o = 14 ∧ 6 * r0 ≤ k ∧ k < 6 * r0 + 6) → μ1.2 o k = μ.2 o k
theorem BX.o {μ μ1 : Mm} {r0 : Nat} (h : BX μ μ1 r0) {o : Nat} (h1 : o ≠ 11) (h2 : o ≠ 12) (h3 : o ≠ 13) : μ1.1 o = μ.1 o := funext fun k => h.1 o k (fun z => h1 z.1) (fun z => h2 z.1) (fun z => h3 z.1)
theorem BX.l {μ μ1 : Mm} {r0 : Nat} (h : BX μ μ1 r0) {o : Nat} (h1 : o ≠ 14) : μ1.2 o = μ.2 o := funext fun k => h.2 o k (fun z => h1 z.1)
theorem BX.set {μ μ1 : Mm} {r0 i : Nat} (h : BX μ μ1 r0) (hi : i < 6) (ty : Int32) (c : Int64) : BX μ (wL (wI μ1 13 (6 * r0 + i) ty) 14 (6 * r0 + i) c) r0 := by
  refine ⟨fun o k a1 a2 a3 => ?_, fun o k a1 => ?_⟩
  · rw [wL_1, wI_1, if_neg (by omega)]
    exact h.1 o k a1 a2 a3
  · rw [wL_2, if_neg (by omega), wI_2]
    exact h.2 o k a1
theorem RRp.eqM {μx μm μ' : Mm} (h : RRp μx μm) (e : EqM μm μ') : RRp μx μ' := by
  have e1 : μ'.1 0 16 = μm.1 0 16 := e.1 0 16 rfl
  have e2 : μ'.1 11 = μm.1 11 := funext fun k => e.1 11 k rfl
  simp only [RRp, e1, e2]
  exact h
theorem new_row {μx μm : Mm} {mc : Nat} (hq : Rq μx μm mc) (hRp : RRp μx μm) : ∃ r0, 1 ≤ r0 ∧ r0 < 26 ∧ fX7_freeRow μx = some (nI r0) ∧ (∀ a, a < 10 → μx.1 6 a ≠ nI r0) ∧ ∀ (μx1 μm1 : Mm) (b t n : Nat), BX μx μx1 r0 → EqM μm μm1 → b < 10 → t ≤ 12 → n ≤ 6 → μx1.1 11 r0 = nI t → μx1.1 12 r0 = nI n → μm1.1 0 32 = nI t → μm1.1 0 33 = nI n →
    (∀ i, i < n → Ce mc (μm.1 10) t (μx1.1 13 (6 * r0 + i)) (μx1.2 14 (6 * r0 + i)) (μm1.1 24 i) (μm1.1 25 i) (μm1.2 26 i)) → ∃ μx' μm', fX7_replace (nI b) (nI r0) μx1 = some μx' ∧ fX8_holdNew (nI b) μm1 = some μm' ∧ Rel μx' μm' ∧ μm'.1 0 32 = nI t ∧ μx'.1 1 2 = μx1.1 1 2 := by
  obtain ⟨nx, kp, hnx, hkp, x6, m27, x7, m26, hL⟩ := hq.2.2.2.2.2
  obtain ⟨r0, r1, r2, r3, f1, f2⟩ := x_free hnx hkp x6 x7
  refine ⟨r0, r1, r2, r3, f1, fun μx1 μm1 b t n hB hE hb ht hn b11 b12 b32 b33 hce => ?_⟩
  have hq1 := hq.eqM hE
  have hR1 := hRp.eqM hE
  have e10 : μm1.1 10 = μm.1 10 := funext fun k => hE.1 10 k rfl
  obtain ⟨hT, hV, hM, hH, hC, nx', kp', hnx', hkp', x6', m27', x7', m26', hL'⟩ := hq1
  have z1 : nx' = nx := (nI_eq (by omega) (by omega)).mp (x6'.symm.trans x6)
  have z2 : kp' = kp := (nI_eq (by omega) (by omega)).mp (x7'.symm.trans x7)
  subst z1 z2
  obtain ⟨μ1, en, nm, sm, n27, n26, nk, n8, n0, n24, nl⟩ := m_note2 hnx hkp m27' m26' hM.2.2.1
  obtain ⟨q0, hq0, q1, q2⟩ := m_free μ1
  have w32 : μ1.1 0 32 = nI t := (n0 32 (by decide) (by decide)).trans b32
  have w33 : μ1.1 0 33 = nI n := (n0 33 (by decide) (by decide)).trans b33
  obtain ⟨μm', g1, g2, g3⟩ := m_hn hq0 hn n 100 0 (wI (wI (wI (wI μ1 2 b (nI t)) 3 b (nI q0)) 4 q0 (nI t)) 5 q0 (nI n)) (by omega) (by omega) w33
  have hB6 : μx1.1 6 b = μx.1 6 b := by rw [hB.o (by decide) (by decide) (by decide)]
  have hB3 : μx1.1 3 = μx.1 3 := hB.o (by decide) (by decide) (by decide)
  have hrep := x_replace (μ := μx1) hnx hkp (by rw [hB3]; exact x6) (by rw [hB3]; exact x7) hb (nI r0)
  rw [hB6] at hrep
  have G : ∀ o, o ≠ 2 → o ≠ 3 → o ≠ 4 → o ≠ 5 → o ≠ 6 → o ≠ 7 → μm'.1 o = μ1.1 o := by
    intro o a2 a3 a4 a5 a6 a7
    funext j
    rw [g2 o j, if_neg (fun z => a6 z.1), if_neg (fun z => a7 z.1), wI_1, if_neg (fun z => a5 z.1), wI_1, if_neg (fun z => a4 z.1), wI_1, if_neg (fun z => a3 z.1), wI_1, if_neg (fun z => a2 z.1)]
  have GL : ∀ o, o ≠ 8 → μm'.2 o = μ1.2 o := by
    intro o a8
    funext j
    rw [g3 o j, if_neg (fun z => a8 z.1)]
    rfl
  have G2 : μm'.1 2 = upd (μm1.1 2) b (nI t) := by
    funext j
    rw [g2 2 j, if_neg (by omega), if_neg (by omega)]
    show (if 2 = 2 ∧ j = b then nI t else μ1.1 2 j) = if j = b then nI t else μm1.1 2 j
    rw [nk 2 (by decide)]
    by_cases z : j = b
    · rw [if_pos ⟨rfl, z⟩, if_pos z]
    · rw [if_neg (fun y => z y.2), if_neg z]
  have G3 : μm'.1 3 = upd (μm1.1 3) b (nI q0) := by
    funext j
    rw [g2 3 j, if_neg (by omega), if_neg (by omega)]
    show (if 3 = 3 ∧ j = b then nI q0 else μ1.1 3 j) = if j = b then nI q0 else μm1.1 3 j
    rw [nk 3 (by decide)]
    by_cases z : j = b
    · rw [if_pos ⟨rfl, z⟩, if_pos z]
    · rw [if_neg (fun y => z y.2), if_neg z]
  have G4 : ∀ j, μm'.1 4 j = if j = q0 then nI t else μm1.1 4 j := by
    intro j
    rw [g2 4 j, if_neg (by omega), if_neg (by omega)]
    show (if 4 = 4 ∧ j = q0 then nI t else μ1.1 4 j) = _
    rw [nk 4 (by decide)]
    by_cases z : j = q0
    · rw [if_pos ⟨rfl, z⟩, if_pos z]
    · rw [if_neg (fun y => z y.2), if_neg z]
  have G5 : ∀ j, μm'.1 5 j = if j = q0 then nI n else μm1.1 5 j := by
    intro j
    rw [g2 5 j, if_neg (by omega), if_neg (by omega)]
    show (if 5 = 5 ∧ j = q0 then nI n else μ1.1 5 j) = _
    rw [nk 5 (by decide)]
    by_cases z : j = q0
    · rw [if_pos ⟨rfl, z⟩, if_pos z]
    · rw [if_neg (fun y => z y.2), if_neg z]
  have G6 : ∀ j, μm'.1 6 j = if 6 * q0 + 0 ≤ j ∧ j < 6 * q0 + n then μm1.1 24 (j - 6 * q0) else μm1.1 6 j := by
    intro j
    rw [g2 6 j]
    show (if 6 = 6 ∧ 6 * q0 + 0 ≤ j ∧ j < 6 * q0 + n then μ1.1 24 (j - 6 * q0) else if 6 = 7 ∧ 6 * q0 + 0 ≤ j ∧ j < 6 * q0 + n then μ1.1 25 (j - 6 * q0) else μ1.1 6 j) = _
    rw [n24 24 (by decide), nk 6 (by decide)]
    by_cases z : 6 * q0 + 0 ≤ j ∧ j < 6 * q0 + n
    · rw [if_pos ⟨rfl, z⟩, if_pos z]
    · rw [if_neg (fun y => z y.2), if_neg (fun y => z y.2), if_neg z]
  have G7 : ∀ j, μm'.1 7 j = if 6 * q0 + 0 ≤ j ∧ j < 6 * q0 + n then μm1.1 25 (j - 6 * q0) else μm1.1 7 j := by
    intro j
    rw [g2 7 j, if_neg (by omega)]
    show (if 7 = 7 ∧ 6 * q0 + 0 ≤ j ∧ j < 6 * q0 + n then μ1.1 25 (j - 6 * q0) else μ1.1 7 j) = _
    rw [n24 25 (by decide), nk 7 (by decide)]
    by_cases z : 6 * q0 + 0 ≤ j ∧ j < 6 * q0 + n
    · rw [if_pos ⟨rfl, z⟩, if_pos z]
    · rw [if_neg (fun y => z y.2), if_neg z]
  have G8 : ∀ j, μm'.2 8 j = if 6 * q0 + 0 ≤ j ∧ j < 6 * q0 + n then μm1.2 26 (j - 6 * q0) else μm1.2 8 j := by
    intro j
    rw [g3 8 j]
    show (if 8 = 8 ∧ 6 * q0 + 0 ≤ j ∧ j < 6 * q0 + n then μ1.2 26 (j - 6 * q0) else μ1.2 8 j) = _
    rw [nl 26 (by decide), nl 8 (by decide)]
    by_cases z : 6 * q0 + 0 ≤ j ∧ j < 6 * q0 + n
    · rw [if_pos ⟨rfl, z⟩, if_pos z]
    · rw [if_neg (fun y => z y.2), if_neg z]
  have H : ∀ o, 10 ≤ o → μm'.1 o = μ1.1 o := fun o ho => G o (by omega) (by omega) (by omega) (by omega) (by omega) (by omega)
  have G0 : μm'.1 0 = μ1.1 0 := G 0 (by decide) (by decide) (by decide) (by decide) (by decide) (by decide)
  refine ⟨_, μm', hrep, ?_, ?_, by rw [G0]; exact w32, rfl⟩
  · unfold fX8_holdNew
    rw [bd en, bd q1, if_pos (inb10 hb), if_pos (inb10 hb), if_pos (inb11 hq0), if_pos (inb11 hq0), cl (by omega), cl (by omega)]
    have s1 : (wI (wI μ1 2 b (μ1.1 0 32)) 3 b (nI q0)).1 0 32 = nI t := w32
    have s2 : (wI (wI (wI μ1 2 b (μ1.1 0 32)) 3 b (nI q0)) 4 q0 ((wI (wI μ1 2 b (μ1.1 0 32)) 3 b (nI q0)).1 0 32)).1 0 33 = nI n := w33
    rw [s2, s1, w32]
    exact g1
  · have nm' : Noted μm1 μm' nx' mc := by
      unfold Noted at nm ⊢
      rw [H 10 (by decide), H 20 (by decide), H 12 (by decide), H 13 (by decide), H 14 (by decide), H 15 (by decide), H 16 (by decide), H 17 (by decide), H 19 (by decide), GL 18 (by decide)]
      exact nm
    have sm' : smM μm1 μm' := by
      unfold smM at sm ⊢
      rw [G0, G 1 (by decide) (by decide) (by decide) (by decide) (by decide) (by decide), H 10 (by decide), H 11 (by decide), H 21 (by decide), H 22 (by decide), H 23 (by decide), GL 0 (by decide)]
      exact sm
    refine slot_rel (r0 := r0) hT hV hR1 hM hH hC hnx hL' hkp hb ⟨hB.o (by decide) (by decide) (by decide), by rw [hB.o (by decide) (by decide) (by decide)], hB.o (by decide) (by decide) (by decide), hB.o (by decide) (by decide) (by decide), hB.o (by decide) (by decide) (by decide), hB.o (by decide) (by decide) (by decide), hB.o (by decide) (by decide) (by decide), hB.o (by decide) (by decide) (by decide), hB.o (by decide) (by decide) (by decide), hB.l (by decide)⟩ (hB.o (by decide) (by decide) (by decide)) (fun o ho => ?_) (hB.l (by decide)) ⟨hB.o (by decide) (by decide) (by decide), hB.o (by decide) (by decide) (by decide), fun k hk => ⟨hB.1 13 k (by omega) (by omega) (fun z => hk z.2), hB.2 14 k (fun z => hk z.2)⟩⟩ (fun r hr => ⟨hB.1 11 r (fun z => hr z.2) (by omega) (by omega), hB.1 12 r (by omega) (fun z => hr z.2) (by omega)⟩) (by omega) f1 f2 nm' sm' (by rw [G0]; exact n27) (by rw [G0]; exact n26) (by rw [G 9 (by decide) (by decide) (by decide) (by decide) (by decide) (by decide)]; exact nk 9 (by decide)) ?_
    · simp only [List.mem_cons, List.not_mem_nil, or_false] at ho
      exact hB.o (by omega) (by omega) (by omega)
    · have hq2 : ∀ a, a < 10 → μm1.1 3 a ≠ nI q0 := fun a ha => by
        have := q2 a ha
        rw [nk 3 (by decide)] at this
        exact this
      have hcr := Cr.fresh (b := b) (r0 := r0) (q0 := q0) (t := t) (n := n) (th' := μx1.1 11) (le' := μx1.1 12) (ty' := μx1.1 13) (co' := μx1.2 14) (nu := μx1.1 21) (fo' := μm'.1 6) (ki' := μm'.1 7) (va' := μm'.2 8) (ko' := μm'.1 4) (sz' := μm'.1 5) hC.1 r2 hq0 ht hn f1 hq2 (fun r hr => ⟨hB.1 11 r (fun z => hr z.2) (by omega) (by omega), hB.1 12 r (by omega) (fun z => hr z.2) (by omega)⟩) (fun k hk => ⟨hB.1 13 k (by omega) (by omega) (fun z => hk z.2), hB.2 14 k (fun z => hk z.2)⟩) (fun k hk => ⟨by rw [G6, if_neg (by omega)]; rfl, by rw [G7, if_neg (by omega)]; rfl, by rw [G8, if_neg (by omega)]; rfl⟩) (fun q hq => ⟨by rw [G4, if_neg hq]; rfl, by rw [G5, if_neg hq]; rfl⟩) b11 b12 (by rw [G4, if_pos rfl]) (by rw [G5, if_pos rfl]) (fun i hi => by
        rw [G6, G7, G8, if_pos (by omega), if_pos (by omega), if_pos (by omega), Nat.add_sub_cancel_left, e10]
        exact hce i hi)
      have em : mcore μm' = (upd (μm1.1 2) b (nI t), upd (μm1.1 3) b (nI q0), μm'.1 4, μm'.1 5, μm'.1 6, μm'.1 7, μm'.2 8) := by
        unfold mcore
        rw [G2, G3]
      rw [em, H 10 (by decide), nm.1]
      exact hcr
