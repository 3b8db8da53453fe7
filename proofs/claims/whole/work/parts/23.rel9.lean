/-! PURE PART 9: share -/
theorem slot_rel {μx μm μx1 μm' : Mm} {mc nx kp r0 b : Nat} {row : Int32} (hT : RTxt μx μm) (hV : RVw μx μm) (hR : RRp μx μm) (hM : RMk μx μm mc) (hH : RHd μx μm mc) (hC : RCo μx μm mc)
    (hnx : nx < 14) (hL : Lg μx μm mc nx kp) (hkp : kp ≤ 14) (hb : b < 10)
    (sx : smX μx μx1) (s6 : μx1.1 6 = μx.1 6) (sl : ∀ o, o ∈ [15, 16, 17, 18, 19] → μx1.1 o = μx.1 o) (s20 : μx1.2 20 = μx.2 20)
    (hA : AgX r0 (xcore μx) (xcore μx1)) (ht : ∀ r, r ≠ r0 → μx1.1 11 r = μx.1 11 r ∧ μx1.1 12 r = μx.1 12 r) (hr0 : r0 ≠ 0)
    (f1 : ∀ a, a < 10 → μx.1 6 a ≠ nI r0) (f2 : ∀ j, 1 ≤ j → j ≤ kp → μx.1 17 (lpos nx j) ≠ nI r0)
    (nm : Noted μm μm' nx mc) (sm : smM μm μm') (n27 : μm'.1 0 27 = nI ((nx + 1) % 14)) (n26 : μm'.1 0 26 = nI (if kp < 14 then kp + 1 else 14)) (n9 : μm'.1 9 = μm.1 9)
    (hCr : Cr mc (μm'.1 10) (μx1.1 11) (μx1.1 12) (upd (μx.1 6) b row, μx1.1 13, μx1.2 14, μx1.1 21) (mcore μm')) : Rel (xSlotAct μx1 nx kp b (μx.1 6 b) row) μm' := by
  have hsl6 : (xSlotAct μx1 nx kp b (μx.1 6 b) row).1 6 = upd (μx.1 6) b row := by
    funext k
    show (if 6 = 6 ∧ k = b then row else μx1.1 6 k) = if k = b then row else μx.1 6 k
    by_cases z : k = b
    · rw [if_pos ⟨rfl, z⟩, if_pos z]
    · rw [if_neg (fun y => z y.2), if_neg z, s6]
  have e17 : (xSlotAct μx1 nx kp b (μx.1 6 b) row).1 17 nx = μx.1 6 b := by show (if 17 = 17 ∧ nx = nx then μx.1 6 b else μx1.1 17 nx) = μx.1 6 b; simp
  have e16 : (xSlotAct μx1 nx kp b (μx.1 6 b) row).1 16 nx = nI b := by show (if 16 = 16 ∧ nx = nx then nI b else μx1.1 16 nx) = nI b; simp
  have e15 : (xSlotAct μx1 nx kp b (μx.1 6 b) row).1 15 nx = 0 := by show (if 15 = 15 ∧ nx = nx then (0 : Int32) else μx1.1 15 nx) = 0; simp
  have hn0 : ∀ k, k < mc → μx.1 21 k = μm.1 9 k := fun k hk => (hM.2.2.2 k hk).1
  obtain ⟨x0, x1, x4, x5, x7, x8, x22, x23, x24, y0⟩ := sx
  have hX : Xlog μx (xSlotAct μx1 nx kp b (μx.1 6 b) row) nx := by
    intro q hq
    obtain ⟨⟨a1, a2, a3, a4⟩, a5⟩ := xSlot_log (μ := μx1) (p := nx) (kp := kp) (b := b) (old := μx.1 6 b) (row := row) q hq
    rw [a1, a2, a3, a4, sl 15 (by decide), sl 16 (by decide), sl 17 (by decide), sl 18 (by decide)]
    refine ⟨⟨rfl, rfl, rfl, rfl⟩, fun i hi => ?_⟩
    rw [(a5 i hi).1, (a5 i hi).2, sl 19 (by decide), s20]
    exact ⟨rfl, rfl⟩
  have hun : AgX r0 (xcore μx) (unA (xSlotAct μx1 nx kp b (μx.1 6 b) row) nx (xcore (xSlotAct μx1 nx kp b (μx.1 6 b) row))) := by
    have := xSlot_un (μ := μx1) (p := nx) (kp := kp) (b := b) (row := row) hb
    rw [s6] at this
    rw [this]
    exact hA
  obtain ⟨r, t, hr, -, er, -⟩ := hC.1.1 b hb
  have hac : Ac1 (xSlotAct μx1 nx kp b (μx.1 6 b) row) μm' mc nx :=
    ⟨⟨r, hr, by rw [e17]; exact er⟩, ⟨mc, Nat.le_refl _, nm.2.1, Or.inl e15⟩, fun _ => ⟨b, hb, e16⟩⟩
  have hLg : Lg (xSlotAct μx1 nx kp b (μx.1 6 b) row) μm' mc ((nx + 1) % 14) (if kp < 14 then kp + 1 else 14) :=
    push hnx hL hC.1 hn0 hM.1 nm hX hac hun ht f1 f2
  refine sm_rel hT hV hR hH hM ⟨x0, x1, x4, x5, x7, x8, x22, x23, x24, y0⟩ sm (fun k hk => ?_) ⟨?_, ?_, ?_⟩ ⟨(nx + 1) % 14, if kp < 14 then kp + 1 else 14, Nat.mod_lt _ (by decide), by split <;> omega, rfl, n27, rfl, n26, hLg⟩
  · show μx1.1 21 k = μm'.1 9 k
    have : μx1.1 21 = μx.1 21 := hA.2.1
    rw [this, n9]
    exact hn0 k hk
  · have hxc : xcore (xSlotAct μx1 nx kp b (μx.1 6 b) row) = (upd (μx.1 6) b row, μx1.1 13, μx1.2 14, μx1.1 21) := by
      unfold xcore
      rw [hsl6]
      rfl
    rw [hxc]
    exact hCr
  · show μx1.1 11 0 = 15
    rw [(ht 0 (Ne.symm hr0)).1]; exact hC.2.1
  · show μx1.1 12 0 = 0
    rw [(ht 0 (Ne.symm hr0)).2]; exact hC.2.2
theorem Cr.copy {mc a b : Nat} {star th le : Nat → Int32} {x : Xc} {m : Mc} (h : Cr mc star th le x m) (ha : a < 10) : Cr mc star th le (upd x.1 b (x.1 a), x.2) (upd m.1 b (m.1 a), upd m.2.1 b (m.2.1 a), m.2.2) := by
  have key : ∀ c, c < 10 → ∃ d, d < 10 ∧ upd x.1 b (x.1 a) c = x.1 d ∧ upd m.1 b (m.1 a) c = m.1 d ∧ upd m.2.1 b (m.2.1 a) c = m.2.1 d := by
    intro c hc
    unfold upd
    by_cases z : c = b
    · exact ⟨a, ha, if_pos z, if_pos z, if_pos z⟩
    · exact ⟨c, hc, if_neg z, if_neg z, if_neg z⟩
  refine ⟨fun c hc => ?_, fun c d hc hd hne => ?_⟩
  · obtain ⟨d, hd, k1, k2, k3⟩ := key c hc
    have := h.1 d hd
    unfold Sl at this ⊢
    simp only [k1, k2, k3]
    exact this
  · obtain ⟨c', hc', k1, -, k3⟩ := key c hc
    obtain ⟨d', hd', j1, -, j3⟩ := key d hd
    simp only [k1, k3, j1, j3] at hne ⊢
    exact h.2 c' d' hc' hd' hne
theorem no30 {μx : Mm} {μm : Mm} {mc nx kp : Nat} (hC : RCo μx μm mc) (hL : Lg μx μm mc nx kp) : (∀ a, a < 10 → μx.1 6 a ≠ nI 30) ∧ ∀ j, 1 ≤ j → j ≤ kp → μx.1 17 (lpos nx j) ≠ nI 30 := by
  refine ⟨fun a ha => ?_, fun j h1 h2 => ?_⟩
  · obtain ⟨r, t, hr, -, er, -⟩ := hC.1.1 a ha
    have er' : μx.1 6 a = nI r := er
    rw [er']
    exact nI_ne (by omega) (by omega) (by omega)
  · obtain ⟨⟨⟨r, hr, er⟩, -⟩, -⟩ := hL j h1 h2
    rw [er]
    exact nI_ne (by omega) (by omega) (by omega)
theorem Noted.w {μ μ' : Mm} {p mc o k : Nat} {v : Int32} (h : Noted μ μ' p mc) (ho : o < 10) : Noted μ (wI μ' o k v) p mc := by
  have e : ∀ a, 10 ≤ a → (wI μ' o k v).1 a = μ'.1 a := by
    intro a ha; funext j
    rw [wI_1, if_neg (fun z => by omega)]
  unfold Noted at h ⊢
  rw [e 10 (by decide), e 20 (by decide), e 12 (by decide), e 13 (by decide), e 14 (by decide), e 15 (by decide), e 16 (by decide), e 17 (by decide), e 19 (by decide), wI_2]
  exact h
theorem Noted.wl {μ μ' : Mm} {p mc o k : Nat} {v : Int64} (h : Noted μ μ' p mc) (ho : o < 10) : Noted μ (wL μ' o k v) p mc := by
  have e : (wL μ' o k v).2 18 = μ'.2 18 := by
    funext j
    rw [wL_2, if_neg (fun z => by omega)]
  unfold Noted at h ⊢
  rw [wL_1, e]
  exact h
theorem smM.w {μ μ' : Mm} {o k : Nat} {v : Int32} (h : smM μ μ') (ho : 2 ≤ o ∧ o < 10) : smM μ (wI μ' o k v) := by
  have e : ∀ a, (a < 2 ∨ 10 ≤ a) → (wI μ' o k v).1 a = μ'.1 a := by
    intro a ha; funext j
    rw [wI_1, if_neg (fun z => by omega)]
  unfold smM at h ⊢
  rw [e 0 (by decide), e 1 (by decide), e 10 (by decide), e 11 (by decide), e 21 (by decide), e 22 (by decide), e 23 (by decide), wI_2]
  exact h
theorem st_share : St_share Rel := by
  intro p1 p2 μx μm h
  have h0 := h
  obtain ⟨hT, hV, hR, mc, hM, hH, hC, nx, kp, hnx, hkp, x6, m27, x7, m26, hL⟩ := h
  rcases slot_cases p1 with hp | ⟨a, ha, rfl⟩
  · exact ⟨-1, μx, μm, by unfold fX7_share; rw [x_isSlot, bz_f hp]; rfl, by unfold fX8_share; rw [m_isSlot, bz_f hp]; rfl, h0⟩
  have hs := slot_ok ha
  rcases slot_cases p2 with hp | ⟨b, hb, rfl⟩
  · exact ⟨-1, μx, μm, by unfold fX7_share; rw [x_isSlot, bz_t hs, x_isSlot, bz_f hp]; rfl, by unfold fX8_share; rw [m_isSlot, bz_t hs, m_isSlot, bz_f hp]; rfl, h0⟩
  have hs2 := slot_ok hb
  obtain ⟨r, t, hr, ht, e1, e2, e3, hA⟩ := slotR hC ha
  obtain ⟨μ', en, nm, sm, n27, n26, nk, n8, -, -, -⟩ := m_note2 hnx hkp m27 m26 hM.2.2.1
  have q2 : μ'.1 2 = μm.1 2 := nk 2 (by decide)
  have q3 : μ'.1 3 = μm.1 3 := nk 3 (by decide)
  refine ⟨nI t, xSlotAct μx nx kp b (μx.1 6 b) (μx.1 6 a), wI (wI μ' 2 b (μ'.1 2 a)) 3 b (μ'.1 3 a), ?_, ?_, ?_⟩
  · unfold fX7_share
    rw [x_isSlot, bz_t hs, x_isSlot, bz_t hs2, x_thingIn ha hr e1 e2]
    simp only [Option.bind_some, one_ne, if_false]
    rw [if_pos (inb10 ha), cl (by omega), x_replace hnx hkp x6 x7 hb]
    rfl
  · unfold fX8_share
    rw [m_isSlot, bz_t hs, m_isSlot, bz_t hs2]
    simp only [Option.bind_some, one_ne, if_false]
    rw [en]
    simp only [Option.bind_some]
    rw [if_pos (inb10 ha), if_pos (inb10 hb), if_pos (inb10 ha), if_pos (inb10 hb), if_pos (inb10 hb), cl (by omega), cl (by omega)]
    have z1 : (wI μ' 2 b (μ'.1 2 a)).1 3 a = μ'.1 3 a := rfl
    have z2 : (wI (wI μ' 2 b (μ'.1 2 a)) 3 b (μ'.1 3 a)).1 2 b = nI t := by
      show (if 2 = 2 ∧ b = b then μ'.1 2 a else μ'.1 2 b) = nI t
      rw [if_pos ⟨rfl, rfl⟩, q2, e3]
    rw [z1, z2]
  · obtain ⟨f1, f2⟩ := no30 hC hL
    refine slot_rel (r0 := 30) hT hV hR hM hH hC hnx hL hkp hb ⟨rfl, rfl, rfl, rfl, rfl, rfl, rfl, rfl, rfl, rfl⟩ rfl (fun _ _ => rfl) rfl AgX.rf (fun _ _ => ⟨rfl, rfl⟩) (by decide) f1 f2 ((nm.w (by decide)).w (by decide)) ((sm.w (by decide)).w (by decide)) n27 n26 (nk 9 (by decide)) ?_
    have hcp := Cr.copy (b := b) hC.1 ha
    have em : mcore (wI (wI μ' 2 b (μ'.1 2 a)) 3 b (μ'.1 3 a)) = (upd (μm.1 2) b (μm.1 2 a), upd (μm.1 3) b (μm.1 3 a), μm.1 4, μm.1 5, μm.1 6, μm.1 7, μm.2 8) := by
      have w2 : (wI (wI μ' 2 b (μ'.1 2 a)) 3 b (μ'.1 3 a)).1 2 = upd (μm.1 2) b (μm.1 2 a) := by
        funext k
        show (if 2 = 2 ∧ k = b then μ'.1 2 a else μ'.1 2 k) = if k = b then μm.1 2 a else μm.1 2 k
        simp [q2]
      have w3 : (wI (wI μ' 2 b (μ'.1 2 a)) 3 b (μ'.1 3 a)).1 3 = upd (μm.1 3) b (μm.1 3 a) := by
        funext k
        show (if 3 = 3 ∧ k = b then μ'.1 3 a else μ'.1 3 k) = if k = b then μm.1 3 a else μm.1 3 k
        simp [q3]
      unfold mcore
      rw [w2, w3]
      show (_, _, μ'.1 4, μ'.1 5, μ'.1 6, μ'.1 7, μ'.2 8) = _
      rw [nk 4 (by decide), nk 5 (by decide), nk 6 (by decide), nk 7 (by decide), n8]
    have e10 : (wI (wI μ' 2 b (μ'.1 2 a)) 3 b (μ'.1 3 a)).1 10 = μm.1 10 := nm.1
    rw [em, e10]
    exact hcp
