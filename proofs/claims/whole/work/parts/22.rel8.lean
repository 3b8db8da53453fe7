/-! PURE PART 8: acts on slots -/
theorem x_add {μ : Mm} {p kp : Nat} (hp : p < 14) (hk : kp ≤ 14) (h6 : μ.1 3 6 = nI p) (h7 : μ.1 3 7 = nI kp) (s sp r nu : Int32) : fX0_add s sp r nu μ = some (nI p, wI (wI (wI (wI (wI (wI μ 15 p s) 16 p sp) 17 p r) 18 p nu) 3 6 (nI ((p + 1) % 14))) 3 7 (nI (if kp < 14 then kp + 1 else 14))) := by
  have ib : inb (nI p) 14 = true := inb_nI hp (by decide)
  have c1 : (nI p).toNatClampNeg = p := nI_clamp (by omega)
  have hge : ((14 : Int32) ≤ nI (p + 1)) ↔ 14 ≤ p + 1 := nI_leI (a := 14) (by decide) (by omega)
  have hlt : ((14 : Int32) < nI (kp + 1)) ↔ 14 < kp + 1 := nI_ltI (a := 14) (by decide) (by omega)
  have hm : fJ9_min_7cf53 (nI kp + 1) 14 = some (nI (if kp < 14 then kp + 1 else 14)) := by
    unfold fJ9_min_7cf53
    rw [nI_1]
    by_cases h : kp < 14
    · rw [if_neg (by rw [hlt]; omega), if_pos h]
    · rw [if_pos (by rw [hlt]; omega), if_neg h]; rfl
  unfold fX0_add
  rw [h6, if_pos ib, if_pos ib, if_pos ib, if_pos ib, nI_1, c1]
  unfold fX0_add_b57
  simp only [wI_1, Nat.reduceEqDiff, false_and, and_false, if_false, h7, hm, Option.bind_some]
  by_cases h : 14 ≤ p + 1
  · rw [if_pos (hge.mpr h)]
    have : (p + 1) % 14 = 0 := by omega
    rw [this]; rfl
  · rw [if_neg (fun z => h (hge.mp z))]
    have : (p + 1) % 14 = p + 1 := by omega
    rw [this]
def smX (μ μ' : Mm) : Prop := μ'.1 0 = μ.1 0 ∧ μ'.1 1 1 = μ.1 1 1 ∧ μ'.1 4 = μ.1 4 ∧ μ'.1 5 = μ.1 5 ∧ μ'.1 7 = μ.1 7 ∧ μ'.1 8 = μ.1 8 ∧ μ'.1 22 = μ.1 22 ∧ μ'.1 23 = μ.1 23 ∧ μ'.1 24 = μ.1 24 ∧ μ'.2 0 = μ.2 0
def smM (μ μ' : Mm) : Prop := (∀ k, k ∈ [1, 11, 12, 13, 16, 31] → μ'.1 0 k = μ.1 0 k) ∧ μ'.1 1 = μ.1 1 ∧ μ'.1 10 = μ.1 10 ∧ μ'.1 11 = μ.1 11 ∧ μ'.1 21 = μ.1 21 ∧ μ'.1 22 = μ.1 22 ∧ μ'.1 23 = μ.1 23 ∧ μ'.2 0 14 = μ.2 0 14
theorem sm_rel {μx μm μx' μm' : Mm} {mc : Nat} (hT : RTxt μx μm) (hV : RVw μx μm) (hR : RRp μx μm) (hH : RHd μx μm mc) (hM : RMk μx μm mc) (sx : smX μx μx') (sm : smM μm μm') (hn : ∀ k, k < mc → μx'.1 21 k = μm'.1 9 k) (hC : RCo μx' μm' mc) (hG : RLg μx' μm' mc) : Rel μx' μm' := by
  obtain ⟨x0, x1, x4, x5, x7, x8, x22, x23, x24, y0⟩ := sx
  obtain ⟨m0, m1, m10, m11, m21, m22, m23, n0⟩ := sm
  have k1 := m0 1 (by decide)
  have k11 := m0 11 (by decide)
  have k12 := m0 12 (by decide)
  have k13 := m0 13 (by decide)
  have k16 := m0 16 (by decide)
  have k31 := m0 31 (by decide)
  refine ⟨?_, ?_, ?_, mc, ?_, ?_, hC, hG⟩
  · simp only [RTxt, x1, x8, k1, m1]; exact hT
  · simp only [RVw, x5, x22, x23, x24, k31, m21, m22, m23]; exact hV
  · simp only [RRp, x0, x7, k16, m11]; exact hR
  · obtain ⟨a1, a2, a3, a4⟩ := hM
    refine ⟨a1, by rw [x4]; exact a2, by rw [k11]; exact a3, fun j hj => ⟨hn j hj, by rw [m10]; exact (a4 j hj).2⟩⟩
  · simp only [RHd, x0, y0, k12, k13, n0, m10]; exact hH
theorem nI_ne {a b : Nat} (ha : a < 1000) (hb : b < 1000) (h : a ≠ b) : nI a ≠ nI b := fun z => h ((nI_eq (by omega) (by omega)).mp z)
/-- what note() gives, for push and for the small parts -/
theorem m_note2 {μ : Mm} {p kp mc : Nat} (hp : p < 14) (hk : kp ≤ 14) (h27 : μ.1 0 27 = nI p) (h26 : μ.1 0 26 = nI kp) (h11 : μ.1 0 11 = nI mc) : ∃ μ', fX8_note μ = some μ' ∧ Noted μ μ' p mc ∧ smM μ μ' ∧ μ'.1 0 27 = nI ((p + 1) % 14) ∧ μ'.1 0 26 = nI (if kp < 14 then kp + 1 else 14) ∧ (∀ o, o ∈ [2, 3, 4, 5, 6, 7, 9] → μ'.1 o = μ.1 o) ∧ μ'.2 8 = μ.2 8 ∧ (∀ k, k ≠ 26 → k ≠ 27 → μ'.1 0 k = μ.1 0 k) ∧ (∀ o, 24 ≤ o → μ'.1 o = μ.1 o) ∧ (∀ o, o ≠ 18 → μ'.2 o = μ.2 o) := by
  obtain ⟨μ', e1, e2, e3, e4, e5, e6, e7, e8⟩ := m_note hp hk h27 h26 h11
  have same : ∀ o, o ∉ [0, 12, 13, 14, 15, 16, 17, 19, 20] → μ'.1 o = μ.1 o := by
    intro o ho
    simp only [List.mem_cons, List.not_mem_nil, or_false, not_or] at ho
    funext j
    rw [e8 o j ho.1 ho.2.2.2.2.2.2.2.2]
    simp [ho.2.1, ho.2.2.1, ho.2.2.2.1, ho.2.2.2.2.1, ho.2.2.2.2.2.1, ho.2.2.2.2.2.2.1, ho.2.2.2.2.2.2.2.1]
  have same2 : ∀ o, o ≠ 18 → μ'.2 o = μ.2 o := by
    intro o ho
    funext j
    rw [e2 o j, if_neg (fun z => ho z.1)]
  refine ⟨μ', e1, ⟨same 10 (by decide), e5, e6, ?_, ?_, ?_, ?_, ?_, ?_, ?_, ?_⟩, ⟨?_, same 1 (by decide), same 10 (by decide), same 11 (by decide), same 21 (by decide), same 22 (by decide), same 23 (by decide), by rw [same2 0 (by decide)]⟩, e3, e4, ?_, same2 8 (by decide), e7, ?_, same2⟩
  · intro j; rw [e2 18 j]; simp
  · intro j; rw [e8 12 j (by decide) (by decide)]; simp
  · intro j; rw [e8 13 j (by decide) (by decide)]; simp
  · intro j; rw [e8 14 j (by decide) (by decide)]; simp
  · intro j; rw [e8 15 j (by decide) (by decide)]; simp
  · intro j; rw [e8 16 j (by decide) (by decide)]; simp
  · intro j; rw [e8 17 j (by decide) (by decide)]; simp
  · intro j; rw [e8 19 j (by decide) (by decide)]; simp
  · intro k hk; simp only [List.mem_cons, List.not_mem_nil, or_false] at hk; exact e7 k (by omega) (by omega)
  · intro o ho; simp only [List.mem_cons, List.not_mem_nil, or_false] at ho; exact same o (by simp only [List.mem_cons, List.not_mem_nil, or_false, not_or]; omega)
  · intro o ho; exact same o (by simp only [List.mem_cons, List.not_mem_nil, or_false, not_or]; omega)
/-- the class's memory when an act on a slot is kept and made -/
def xSlotAct (μ : Mm) (p kp b : Nat) (old row : Int32) : Mm := wI (wI (wI (wI (wI (wI (wI μ 15 p 0) 16 p (nI b)) 17 p old) 18 p 0) 3 6 (nI ((p + 1) % 14))) 3 7 (nI (if kp < 14 then kp + 1 else 14))) 6 b row
theorem x_replace {μ : Mm} {p kp b : Nat} (hp : p < 14) (hk : kp ≤ 14) (h6 : μ.1 3 6 = nI p) (h7 : μ.1 3 7 = nI kp) (hb : b < 10) (row : Int32) : fX7_replace (nI b) row μ = some (xSlotAct μ p kp b (μ.1 6 b) row) := by
  unfold fX7_replace fX0_keepSlot
  rw [if_pos (inb10 hb), cl (by omega), x_add hp hk h6 h7]
  simp only [bnd, Option.bind_some]
  rw [if_pos (inb10 hb)]
  rfl
theorem xSlot_log {μ : Mm} {p kp b : Nat} {old row : Int32} : Xlog μ (xSlotAct μ p kp b old row) p := by
  intro q hq
  refine ⟨⟨?_, ?_, ?_, ?_⟩, fun i hi => ⟨rfl, rfl⟩⟩
  · show (if 15 = 15 ∧ q = p then (0 : Int32) else μ.1 15 q) = μ.1 15 q
    rw [if_neg (fun z => hq z.2)]
  · show (if 16 = 16 ∧ q = p then nI b else μ.1 16 q) = μ.1 16 q
    rw [if_neg (fun z => hq z.2)]
  · show (if 17 = 17 ∧ q = p then old else μ.1 17 q) = μ.1 17 q
    rw [if_neg (fun z => hq z.2)]
  · show (if 18 = 18 ∧ q = p then (0 : Int32) else μ.1 18 q) = μ.1 18 q
    rw [if_neg (fun z => hq z.2)]
theorem xSlot_un {μ : Mm} {p kp b : Nat} {row : Int32} (hb : b < 10) : unA (xSlotAct μ p kp b (μ.1 6 b) row) p (xcore (xSlotAct μ p kp b (μ.1 6 b) row)) = xcore μ := by
  have e15 : (xSlotAct μ p kp b (μ.1 6 b) row).1 15 p = 0 := by show (if 15 = 15 ∧ p = p then (0 : Int32) else μ.1 15 p) = 0; simp
  have e16 : (xSlotAct μ p kp b (μ.1 6 b) row).1 16 p = nI b := by show (if 16 = 16 ∧ p = p then nI b else μ.1 16 p) = nI b; simp
  have e17 : (xSlotAct μ p kp b (μ.1 6 b) row).1 17 p = μ.1 6 b := by show (if 17 = 17 ∧ p = p then μ.1 6 b else μ.1 17 p) = μ.1 6 b; simp
  unfold unA
  rw [if_pos e15, e16, e17, cl (by omega)]
  have : upd (xcore (xSlotAct μ p kp b (μ.1 6 b) row)).1 b (μ.1 6 b) = μ.1 6 := by
    funext k
    show (if k = b then μ.1 6 b else if 6 = 6 ∧ k = b then row else μ.1 6 k) = μ.1 6 k
    by_cases h : k = b
    · rw [if_pos h, h]
    · rw [if_neg h, if_neg (fun z => h z.2)]
  rw [this]
  rfl
