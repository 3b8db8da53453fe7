/-! MY KIT, 6: the law's two worlds -/
def Vl (s : State) (εx εm : Ev) (μx μm : Mm) (A : Nat → Prop) : Heap → List Loc → Prop := fun H locs => va_P (eD εx) vwCl (wd layX εx μx) H ∧ va_P (eD εm) vwCl (wd layM εm μm) H ∧ va_S A s.heap H locs
def Lc (κ : Kx) (εx εm : Ev) (A : Nat → Prop) (b L : Nat) (xs : Nat → Int32) : Prop := (En εx layX (kS κ) ∧ En εm layM (kS κ)) ∧ (∀ q, Aw layX εx q → ¬ Aw layM εm q) ∧ (∀ q, Aw layX εx q → A q) ∧ (∀ q, Aw layM εm q → A q) ∧ (∀ q, A q → (kS κ).heap.size ≤ q) ∧ va_X b L xs (kS κ) (kS κ).heap ∧ b < (kS κ).heap.size
theorem En.far {ε : Ev} {lay : List Sh} {s U : State} {H : Heap} {locs : List Loc} {A : Nat → Prop} (h : En ε lay s) (hA : ∀ q, A q → s.heap.size ≤ q) (hS : va_S A s.heap H locs) (hU : U.heap = H) (hW : s.WarmedH U.vm) : En ε lay U :=
  ⟨va_K.moved hW.alike h.1, h.2.1, by rw [hU]; exact (h.2.2.warm hW).kept (fun a ha _ => hS.2.1 a ha (fun z => absurd ha (Nat.not_lt.mpr (hA a z))))⟩
section R
variable {κ : Kx} {nL pc : Nat} {L : List (Nat × Value)} {st : List Value} {cc : ByteArray} {own : String} {ret : Option FieldType} {d : Nat} {εx εm : Ev} {μx μm : Mm} {A : Nat → Prop} {b N : Nat} {xs : Nat → Int32} {idx : Nat}
theorem q_keep {ε1 ε2 : Ev} {l1 l2 : List Sh} {μ : Mm} {H H1 : Heap} (hd : ∀ q, Aw l1 ε1 q → ¬ Aw l2 ε2 q) (hP : va_P (eD ε2) vwCl (wd l2 ε2 μ) H) (hk : ∀ q : Nat, q < H.size → ¬ Aw l1 ε1 q → H1[q]? = H[q]?) : va_P (eD ε2) vwCl (wd l2 ε2 μ) H1 :=
  hP.kept (fun k x hx => by
    obtain ⟨a1, a2⟩ := wd_of hx
    exact hk x.1 (hP k x hx).lt (fun z => hd _ z ⟨k, a1, a2⟩))
theorem q_S2 {lay : List Sh} {ε : Ev} {H0 H H1 : Heap} {locs LL : List Loc} (hS : va_S A H0 H locs) (hA : ∀ q, Aw lay ε q → A q) (hz : H.size ≤ H1.size) (hk : ∀ q : Nat, q < H.size → ¬ Aw lay ε q → H1[q]? = H[q]?) (hL : ∀ q ∈ LL, Aw lay ε q.base) : va_S A H0 H1 (locs ++ LL) :=
  ⟨Nat.le_trans hS.1 hz, fun q h1 h2 => by rw [hk q (Nat.lt_of_lt_of_le h1 hS.1) (fun z => h2 (hA q z))]; exact hS.2.1 q h1 h2, fun q hq => by
    rcases List.mem_append.mp hq with h | h
    · exact hS.2.2 q h
    · exact hA _ (hL q h)⟩
theorem l_callX (C : Cf κ cc nL own ret d) (E : Lc κ εx εm A b N xs) {y : MethodName} {bytes : ByteArray} {maxL n d' : Nat} {r' : Option FieldType} (K : q_LkV own idx y bytes maxL r' n 5) {As st0 : List Value} {rv : Option Value} {μ' : Mm} (hn : As.length = n) (hM : Sp (kl κ) εx layX y bytes maxL r' d' (.ref (ea εx 0) :: As) rv μx μ') (hdd : d' + 1 ≤ d) (hst : As.reverse ++ .ref (ea εx 0) :: st = st0) (hW : (st.map fun v => v.category).sum ≤ 8) (hd : decode cc pc = .ok (.invokevirtual idx, 3)) (kk : G κ (Vl (kS κ) εx εm μ' μm A) nL (pc + 3) L (rv.toList ++ st)) : G κ (Vl (kS κ) εx εm μx μm A) nL pc L st0 := by
  obtain ⟨K1, k2, k3, T, M, k4⟩ := K
  obtain ⟨⟨Ex, Em⟩, hdis, hAx, hAm, hA0, -⟩ := E
  intro H locs ls hV hl
  obtain ⟨hPx, hPm, hS⟩ := hV
  have hr : va_Run (kp κ) (kl κ) (ke κ) (kR κ) (kS κ) (km κ) (ka κ) (kb κ) (kt κ) (kc κ) H locs (kn κ) (ko κ) 0 0 (F0 (km κ) pc ls st0) st (Qw εx layX rv μ' (Value.ref (ea εx 0) :: As).toArray) (Aw layX εx) :=
    va_runV (n := n) (C := y.cls) (As := As) (b := ea εx 0) (rest := st) C.1 hM ⟨q_cb ⟨C.2.2.2.2.1, C.2.2.2.2.2.1⟩ hdd C.1.2.2.2.2 K1, C.1.2.2.2.2 _ k2, C.1.2.2.2.2 _ k3⟩ ⟨Pw_blind, va_recv (q := (y.cls, T, M)) Ex.1 hPx k4 (wd_at layX_0), fun U hU hWU => ⟨rfl, Ex.far hA0 hS hU hWU, C.2.2.2.1.warm hWU, by rw [hU]; exact hPx⟩⟩ rfl hn hl.1 hst.symm (lv_room hW) hd ⟨C.2.2.2.2.2.2.1, C.2.2.2.2.2.2.2⟩
  intro TT' hT X
  obtain ⟨v, st₀, t, T', LL, h0, X', hL, e1, e2, ⟨hv, hP1, hz, hk⟩, stp⟩ := hr TT' hT X
  have hv' : v = rv := by injection hv
  subst hv'
  rw [h0] at hz hk
  obtain ⟨t2, a1, b1⟩ := kk T'.heap (locs ++ LL) ls ⟨by rw [e1]; exact hP1, by rw [e1]; exact q_keep hdis hPm hk, by rw [e1]; exact q_S2 hS hAx hz hk hL⟩ hl T' rfl X'
  exact ⟨t2, stp t2 a1, b1⟩
theorem l_callM (C : Cf κ cc nL own ret d) (E : Lc κ εx εm A b N xs) {y : MethodName} {bytes : ByteArray} {maxL n d' : Nat} {r' : Option FieldType} (K : q_LkV own idx y bytes maxL r' n 6) {As st0 : List Value} {rv : Option Value} {μ' : Mm} (hn : As.length = n) (hM : Sp (kl κ) εm layM y bytes maxL r' d' (.ref (ea εm 0) :: As) rv μm μ') (hdd : d' + 1 ≤ d) (hst : As.reverse ++ .ref (ea εm 0) :: st = st0) (hW : (st.map fun v => v.category).sum ≤ 8) (hd : decode cc pc = .ok (.invokevirtual idx, 3)) (kk : G κ (Vl (kS κ) εx εm μx μ' A) nL (pc + 3) L (rv.toList ++ st)) : G κ (Vl (kS κ) εx εm μx μm A) nL pc L st0 := by
  obtain ⟨K1, k2, k3, T, M, k4⟩ := K
  obtain ⟨⟨Ex, Em⟩, hdis, hAx, hAm, hA0, -⟩ := E
  intro H locs ls hV hl
  obtain ⟨hPx, hPm, hS⟩ := hV
  have hr : va_Run (kp κ) (kl κ) (ke κ) (kR κ) (kS κ) (km κ) (ka κ) (kb κ) (kt κ) (kc κ) H locs (kn κ) (ko κ) 0 0 (F0 (km κ) pc ls st0) st (Qw εm layM rv μ' (Value.ref (ea εm 0) :: As).toArray) (Aw layM εm) :=
    va_runV (n := n) (C := y.cls) (As := As) (b := ea εm 0) (rest := st) C.1 hM ⟨q_cb ⟨C.2.2.2.2.1, C.2.2.2.2.2.1⟩ hdd C.1.2.2.2.2 K1, C.1.2.2.2.2 _ k2, C.1.2.2.2.2 _ k3⟩ ⟨Pw_blind, va_recv (q := (y.cls, T, M)) Em.1 hPm k4 (wd_at layM_0), fun U hU hWU => ⟨rfl, Em.far hA0 hS hU hWU, C.2.2.2.1.warm hWU, by rw [hU]; exact hPm⟩⟩ rfl hn hl.1 hst.symm (lv_room hW) hd ⟨C.2.2.2.2.2.2.1, C.2.2.2.2.2.2.2⟩
  intro TT' hT X
  obtain ⟨v, st₀, t, T', LL, h0, X', hL, e1, e2, ⟨hv, hP1, hz, hk⟩, stp⟩ := hr TT' hT X
  have hv' : v = rv := by injection hv
  subst hv'
  rw [h0] at hz hk
  obtain ⟨t2, a1, b1⟩ := kk T'.heap (locs ++ LL) ls ⟨by rw [e1]; exact q_keep (fun q h1 h2 => hdis q h2 h1) hPx hk, by rw [e1]; exact hP1, by rw [e1]; exact q_S2 hS hAm hz hk hL⟩ hl T' rfl X'
  exact ⟨t2, stp t2 a1, b1⟩
/-- the script: its length, its numbers -/
theorem l_len (C : Cf κ cc nL own ret d) (E : Lc κ εx εm A b N xs) (hd : decode cc pc = .ok (.arraylength, 1)) (kk : G κ (Vl (kS κ) εx εm μx μm A) nL (pc + 1) L (.int (nI N) :: st)) : G κ (Vl (kS κ) εx εm μx μm A) nL pc L (.ref b :: st) := by
  obtain ⟨-, -, -, -, hA0, hX, hb⟩ := E
  intro H locs ls hV hl
  exact va_slen (A := A) C.1.1 C.1.2.1 hX hb (fun z => absurd hb (Nat.not_lt.mpr (hA0 b z))) hV.2.2 hd (kk H locs ls hV hl)
theorem l_ald (C : Cf κ cc nL own ret d) (E : Lc κ εx εm A b N xs) {i : Int32} {j : Nat} (hj : j < N) (hN : N < 2 ^ 31) (hi : i = nI j) (hd : decode cc pc = .ok (.iaload, 1)) (kk : G κ (Vl (kS κ) εx εm μx μm A) nL (pc + 1) L (.int (xs j) :: st)) : G κ (Vl (kS κ) εx εm μx μm A) nL pc L (.int i :: .ref b :: st) := by
  obtain ⟨-, -, -, -, hA0, hX, hb⟩ := E
  subst hi
  intro H locs ls hV hl
  refine va_sld (A := A) C.1.1 C.1.2.1 hX hb (fun z => absurd hb (Nat.not_lt.mpr (hA0 b z))) hV.2.2 (vp_in_nI hj hN) hd ?_
  rw [nI_clamp (by omega)]
  exact kk H locs ls hV hl
theorem g_astore_n {V : Heap → List Loc → Prop} (C : Cf κ cc nL own ret d) {k : Fin 4} {i x : Nat} {L' : List (Nat × Value)} (hd : decode cc pc = .ok (.astore_n k, 1)) (hi : (k : Nat) = i) (hn : i < nL) (hL : (i, Value.ref x) :: L.filter (fun q => !(q.1 == i) && !(q.1 + 1 == i && q.2.category == 2)) = L') (kk : G κ V nL (pc + 1) L' st) : G κ V nL pc L (.ref x :: st) :=
  fun H locs ls hV hl => lv_astore_n C.1.1 C.1.2.1 hd hi hl hn hL (fun ls' hl' => kk H locs ls' hV hl')
/-- two equal answers, compared -/
theorem l_eqi {V : Heap → List Loc → Prop} (C : Cf κ cc nL own ret d) {x y : Int32} {off : Int} {tgt : Nat} (hxy : x = y) (hd : decode cc pc = .ok (.if_icmp .eq off, 3)) (ht : (pc : Int) + off = (tgt : Int)) (kk : G κ V nL tgt L st) : G κ V nL pc L (.int y :: .int x :: st) :=
  g_icmp_eq (α := Unit) (A := some ()) (B := some ()) (out := ()) C hd ht (by split <;> rfl) (fun _ _ => kk) (fun h _ => absurd hxy h)
theorem l_eql {V : Heap → List Loc → Prop} (C : Cf κ cc nL own ret d) {x y : Int64} {off : Int} {tgt : Nat} (hxy : x = y) (hd0 : decode cc pc = .ok (.lcmp, 1)) (hd : decode cc (pc + 1) = .ok (.ifCond .eq off, 3)) (ht : ((pc + 1 : Nat) : Int) + off = (tgt : Int)) (kk : G κ V nL tgt L st) : G κ V nL pc L (.long y :: .long x :: st) :=
  g_lcmp_eq (α := Unit) (A := some ()) (B := some ()) (out := ()) C hd0 hd ht (by split <;> rfl) (fun _ _ => kk) (fun h _ => absurd hxy h)
theorem G.mono {V V' : Heap → List Loc → Prop} (h : ∀ H locs, V H locs → V' H locs) (kk : G κ V' nL pc L st) : G κ V nL pc L st := fun H locs ls hV hl => kk H locs ls (h H locs hV) hl
end R
theorem lkL_13 : q_LkV RL 13 yX7_write cX7_write 2 (some .int) 1 5 := ⟨⟨TT_in 245 (by decide +kernel) rfl, TT_in 242 (by decide +kernel) rfl, TT_in 57 (by decide +kernel) rfl, ⟨by decide, by decide⟩, by decide +kernel, by decide⟩, TT_in 243 (by decide +kernel) rfl, TT_in 244 (by decide +kernel) rfl, ⟨_, _, rfl⟩⟩
theorem lkL_17 : q_LkV RL 17 yX8_write cX8_write 2 (some .int) 1 6 := ⟨⟨TT_in 998 (by decide +kernel) rfl, TT_in 995 (by decide +kernel) rfl, TT_in 63 (by decide +kernel) rfl, ⟨by decide, by decide⟩, by decide +kernel, by decide⟩, TT_in 996 (by decide +kernel) rfl, TT_in 997 (by decide +kernel) rfl, ⟨_, _, rfl⟩⟩
theorem lkL_18 : q_LkV RL 18 yX7_wipe cX7_wipe 2 (some .int) 0 5 := ⟨⟨TT_in 253 (by decide +kernel) rfl, TT_in 250 (by decide +kernel) rfl, TT_in 57 (by decide +kernel) rfl, ⟨by decide, by decide⟩, by decide +kernel, by decide⟩, TT_in 251 (by decide +kernel) rfl, TT_in 252 (by decide +kernel) rfl, ⟨_, _, rfl⟩⟩
theorem lkL_22 : q_LkV RL 22 yX8_wipe cX8_wipe 2 (some .int) 0 6 := ⟨⟨TT_in 1006 (by decide +kernel) rfl, TT_in 1003 (by decide +kernel) rfl, TT_in 63 (by decide +kernel) rfl, ⟨by decide, by decide⟩, by decide +kernel, by decide⟩, TT_in 1004 (by decide +kernel) rfl, TT_in 1005 (by decide +kernel) rfl, ⟨_, _, rfl⟩⟩
theorem lkL_23 : q_LkV RL 23 yX7_fault cX7_fault 1 (some .int) 0 5 := ⟨⟨TT_in 257 (by decide +kernel) rfl, TT_in 254 (by decide +kernel) rfl, TT_in 57 (by decide +kernel) rfl, ⟨by decide, by decide⟩, by decide +kernel, by decide⟩, TT_in 255 (by decide +kernel) rfl, TT_in 256 (by decide +kernel) rfl, ⟨_, _, rfl⟩⟩
theorem lkL_26 : q_LkV RL 26 yX8_fault cX8_fault 1 (some .int) 0 6 := ⟨⟨TT_in 1010 (by decide +kernel) rfl, TT_in 1007 (by decide +kernel) rfl, TT_in 63 (by decide +kernel) rfl, ⟨by decide, by decide⟩, by decide +kernel, by decide⟩, TT_in 1008 (by decide +kernel) rfl, TT_in 1009 (by decide +kernel) rfl, ⟨_, _, rfl⟩⟩
theorem lkL_27 : q_LkV RL 27 yX7_tell cX7_tell 5 (some .int) 1 5 := ⟨⟨TT_in 406 (by decide +kernel) rfl, TT_in 403 (by decide +kernel) rfl, TT_in 57 (by decide +kernel) rfl, ⟨by decide, by decide⟩, by decide +kernel, by decide⟩, TT_in 404 (by decide +kernel) rfl, TT_in 405 (by decide +kernel) rfl, ⟨_, _, rfl⟩⟩
theorem lkL_30 : q_LkV RL 30 yX8_tell cX8_tell 2 (some .int) 1 6 := ⟨⟨TT_in 1075 (by decide +kernel) rfl, TT_in 1072 (by decide +kernel) rfl, TT_in 63 (by decide +kernel) rfl, ⟨by decide, by decide⟩, by decide +kernel, by decide⟩, TT_in 1073 (by decide +kernel) rfl, TT_in 1074 (by decide +kernel) rfl, ⟨_, _, rfl⟩⟩
theorem lkL_31 : q_LkV RL 31 yX7_about cX7_about 2 (some .int) 1 5 := ⟨⟨TT_in 482 (by decide +kernel) rfl, TT_in 479 (by decide +kernel) rfl, TT_in 57 (by decide +kernel) rfl, ⟨by decide, by decide⟩, by decide +kernel, by decide⟩, TT_in 480 (by decide +kernel) rfl, TT_in 481 (by decide +kernel) rfl, ⟨_, _, rfl⟩⟩
theorem lkL_34 : q_LkV RL 34 yX8_about cX8_about 2 (some .int) 1 6 := ⟨⟨TT_in 1098 (by decide +kernel) rfl, TT_in 1095 (by decide +kernel) rfl, TT_in 63 (by decide +kernel) rfl, ⟨by decide, by decide⟩, by decide +kernel, by decide⟩, TT_in 1096 (by decide +kernel) rfl, TT_in 1097 (by decide +kernel) rfl, ⟨_, _, rfl⟩⟩
theorem lkL_35 : q_LkV RL 35 yX7_make cX7_make 6 (some .int) 3 5 := ⟨⟨TT_in 506 (by decide +kernel) rfl, TT_in 503 (by decide +kernel) rfl, TT_in 57 (by decide +kernel) rfl, ⟨by decide, by decide⟩, by decide +kernel, by decide⟩, TT_in 504 (by decide +kernel) rfl, TT_in 505 (by decide +kernel) rfl, ⟨_, _, rfl⟩⟩
theorem lkL_39 : q_LkV RL 39 yX8_make cX8_make 6 (some .int) 3 6 := ⟨⟨TT_in 1114 (by decide +kernel) rfl, TT_in 1111 (by decide +kernel) rfl, TT_in 63 (by decide +kernel) rfl, ⟨by decide, by decide⟩, by decide +kernel, by decide⟩, TT_in 1112 (by decide +kernel) rfl, TT_in 1113 (by decide +kernel) rfl, ⟨_, _, rfl⟩⟩
theorem lkL_40 : q_LkV RL 40 yX7_share cX7_share 4 (some .int) 2 5 := ⟨⟨TT_in 510 (by decide +kernel) rfl, TT_in 507 (by decide +kernel) rfl, TT_in 57 (by decide +kernel) rfl, ⟨by decide, by decide⟩, by decide +kernel, by decide⟩, TT_in 508 (by decide +kernel) rfl, TT_in 509 (by decide +kernel) rfl, ⟨_, _, rfl⟩⟩
theorem lkL_44 : q_LkV RL 44 yX8_share cX8_share 3 (some .int) 2 6 := ⟨⟨TT_in 1120 (by decide +kernel) rfl, TT_in 1117 (by decide +kernel) rfl, TT_in 63 (by decide +kernel) rfl, ⟨by decide, by decide⟩, by decide +kernel, by decide⟩, TT_in 1118 (by decide +kernel) rfl, TT_in 1119 (by decide +kernel) rfl, ⟨_, _, rfl⟩⟩
theorem lkL_45 : q_LkV RL 45 yX7_thing cX7_thing 3 (some .int) 2 5 := ⟨⟨TT_in 514 (by decide +kernel) rfl, TT_in 511 (by decide +kernel) rfl, TT_in 57 (by decide +kernel) rfl, ⟨by decide, by decide⟩, by decide +kernel, by decide⟩, TT_in 512 (by decide +kernel) rfl, TT_in 513 (by decide +kernel) rfl, ⟨_, _, rfl⟩⟩
theorem lkL_48 : q_LkV RL 48 yX8_thing cX8_thing 3 (some .int) 2 6 := ⟨⟨TT_in 1124 (by decide +kernel) rfl, TT_in 1121 (by decide +kernel) rfl, TT_in 63 (by decide +kernel) rfl, ⟨by decide, by decide⟩, by decide +kernel, by decide⟩, TT_in 1122 (by decide +kernel) rfl, TT_in 1123 (by decide +kernel) rfl, ⟨_, _, rfl⟩⟩
theorem lkL_49 : q_LkV RL 49 yX7_same cX7_same 3 (some .int) 2 5 := ⟨⟨TT_in 518 (by decide +kernel) rfl, TT_in 515 (by decide +kernel) rfl, TT_in 57 (by decide +kernel) rfl, ⟨by decide, by decide⟩, by decide +kernel, by decide⟩, TT_in 516 (by decide +kernel) rfl, TT_in 517 (by decide +kernel) rfl, ⟨_, _, rfl⟩⟩
theorem lkL_52 : q_LkV RL 52 yX8_same cX8_same 3 (some .int) 2 6 := ⟨⟨TT_in 1132 (by decide +kernel) rfl, TT_in 1129 (by decide +kernel) rfl, TT_in 63 (by decide +kernel) rfl, ⟨by decide, by decide⟩, by decide +kernel, by decide⟩, TT_in 1130 (by decide +kernel) rfl, TT_in 1131 (by decide +kernel) rfl, ⟨_, _, rfl⟩⟩
theorem lkL_53 : q_LkV RL 53 yX7_cell cX7_cell 8 (some .long) 3 5 := ⟨⟨TT_in 522 (by decide +kernel) rfl, TT_in 519 (by decide +kernel) rfl, TT_in 57 (by decide +kernel) rfl, ⟨by decide, by decide⟩, by decide +kernel, by decide⟩, TT_in 520 (by decide +kernel) rfl, TT_in 521 (by decide +kernel) rfl, ⟨_, _, rfl⟩⟩
theorem lkL_57 : q_LkV RL 57 yX8_cell cX8_cell 4 (some .long) 3 6 := ⟨⟨TT_in 1136 (by decide +kernel) rfl, TT_in 1133 (by decide +kernel) rfl, TT_in 63 (by decide +kernel) rfl, ⟨by decide, by decide⟩, by decide +kernel, by decide⟩, TT_in 1134 (by decide +kernel) rfl, TT_in 1135 (by decide +kernel) rfl, ⟨_, _, rfl⟩⟩
theorem lkL_60 : q_LkV RL 60 yX7_give cX7_give 4 (some .int) 2 5 := ⟨⟨TT_in 556 (by decide +kernel) rfl, TT_in 553 (by decide +kernel) rfl, TT_in 57 (by decide +kernel) rfl, ⟨by decide, by decide⟩, by decide +kernel, by decide⟩, TT_in 554 (by decide +kernel) rfl, TT_in 555 (by decide +kernel) rfl, ⟨_, _, rfl⟩⟩
theorem lkL_64 : q_LkV RL 64 yX8_give cX8_give 4 (some .int) 2 6 := ⟨⟨TT_in 1156 (by decide +kernel) rfl, TT_in 1153 (by decide +kernel) rfl, TT_in 63 (by decide +kernel) rfl, ⟨by decide, by decide⟩, by decide +kernel, by decide⟩, TT_in 1154 (by decide +kernel) rfl, TT_in 1155 (by decide +kernel) rfl, ⟨_, _, rfl⟩⟩
theorem lkL_65 : q_LkV RL 65 yX7_mark cX7_mark 4 (some .int) 2 5 := ⟨⟨TT_in 568 (by decide +kernel) rfl, TT_in 565 (by decide +kernel) rfl, TT_in 57 (by decide +kernel) rfl, ⟨by decide, by decide⟩, by decide +kernel, by decide⟩, TT_in 566 (by decide +kernel) rfl, TT_in 567 (by decide +kernel) rfl, ⟨_, _, rfl⟩⟩
theorem lkL_68 : q_LkV RL 68 yX8_mark cX8_mark 3 (some .int) 2 6 := ⟨⟨TT_in 1174 (by decide +kernel) rfl, TT_in 1171 (by decide +kernel) rfl, TT_in 63 (by decide +kernel) rfl, ⟨by decide, by decide⟩, by decide +kernel, by decide⟩, TT_in 1172 (by decide +kernel) rfl, TT_in 1173 (by decide +kernel) rfl, ⟨_, _, rfl⟩⟩
theorem lkL_69 : q_LkV RL 69 yX7_text cX7_text 2 (some .int) 1 5 := ⟨⟨TT_in 583 (by decide +kernel) rfl, TT_in 580 (by decide +kernel) rfl, TT_in 57 (by decide +kernel) rfl, ⟨by decide, by decide⟩, by decide +kernel, by decide⟩, TT_in 581 (by decide +kernel) rfl, TT_in 582 (by decide +kernel) rfl, ⟨_, _, rfl⟩⟩
theorem lkL_72 : q_LkV RL 72 yX8_text cX8_text 2 (some .int) 1 6 := ⟨⟨TT_in 1179 (by decide +kernel) rfl, TT_in 1176 (by decide +kernel) rfl, TT_in 63 (by decide +kernel) rfl, ⟨by decide, by decide⟩, by decide +kernel, by decide⟩, TT_in 1177 (by decide +kernel) rfl, TT_in 1178 (by decide +kernel) rfl, ⟨_, _, rfl⟩⟩
theorem lkL_73 : q_LkV RL 73 yX7_turn cX7_turn 1 (some .int) 0 5 := ⟨⟨TT_in 587 (by decide +kernel) rfl, TT_in 584 (by decide +kernel) rfl, TT_in 57 (by decide +kernel) rfl, ⟨by decide, by decide⟩, by decide +kernel, by decide⟩, TT_in 585 (by decide +kernel) rfl, TT_in 586 (by decide +kernel) rfl, ⟨_, _, rfl⟩⟩
theorem lkL_76 : q_LkV RL 76 yX8_turn cX8_turn 1 (some .int) 0 6 := ⟨⟨TT_in 1183 (by decide +kernel) rfl, TT_in 1180 (by decide +kernel) rfl, TT_in 63 (by decide +kernel) rfl, ⟨by decide, by decide⟩, by decide +kernel, by decide⟩, TT_in 1181 (by decide +kernel) rfl, TT_in 1182 (by decide +kernel) rfl, ⟨_, _, rfl⟩⟩
theorem lkL_77 : q_LkV RL 77 yX7_hand cX7_hand 2 (some .long) 1 5 := ⟨⟨TT_in 591 (by decide +kernel) rfl, TT_in 588 (by decide +kernel) rfl, TT_in 57 (by decide +kernel) rfl, ⟨by decide, by decide⟩, by decide +kernel, by decide⟩, TT_in 589 (by decide +kernel) rfl, TT_in 590 (by decide +kernel) rfl, ⟨_, _, rfl⟩⟩
theorem lkL_81 : q_LkV RL 81 yX8_hand cX8_hand 2 (some .long) 1 6 := ⟨⟨TT_in 1187 (by decide +kernel) rfl, TT_in 1184 (by decide +kernel) rfl, TT_in 63 (by decide +kernel) rfl, ⟨by decide, by decide⟩, by decide +kernel, by decide⟩, TT_in 1185 (by decide +kernel) rfl, TT_in 1186 (by decide +kernel) rfl, ⟨_, _, rfl⟩⟩
theorem lkL_82 : q_LkV RL 82 yX7_grow cX7_grow 4 (some .int) 1 5 := ⟨⟨TT_in 595 (by decide +kernel) rfl, TT_in 592 (by decide +kernel) rfl, TT_in 57 (by decide +kernel) rfl, ⟨by decide, by decide⟩, by decide +kernel, by decide⟩, TT_in 593 (by decide +kernel) rfl, TT_in 594 (by decide +kernel) rfl, ⟨_, _, rfl⟩⟩
theorem lkL_85 : q_LkV RL 85 yX8_grow cX8_grow 3 (some .int) 1 6 := ⟨⟨TT_in 1191 (by decide +kernel) rfl, TT_in 1188 (by decide +kernel) rfl, TT_in 63 (by decide +kernel) rfl, ⟨by decide, by decide⟩, by decide +kernel, by decide⟩, TT_in 1189 (by decide +kernel) rfl, TT_in 1190 (by decide +kernel) rfl, ⟨_, _, rfl⟩⟩
theorem lkL_86 : q_LkV RL 86 yX7_take cX7_take 7 (some .int) 3 5 := ⟨⟨TT_in 607 (by decide +kernel) rfl, TT_in 604 (by decide +kernel) rfl, TT_in 57 (by decide +kernel) rfl, ⟨by decide, by decide⟩, by decide +kernel, by decide⟩, TT_in 605 (by decide +kernel) rfl, TT_in 606 (by decide +kernel) rfl, ⟨_, _, rfl⟩⟩
theorem lkL_89 : q_LkV RL 89 yX8_take cX8_take 6 (some .int) 3 6 := ⟨⟨TT_in 1195 (by decide +kernel) rfl, TT_in 1192 (by decide +kernel) rfl, TT_in 63 (by decide +kernel) rfl, ⟨by decide, by decide⟩, by decide +kernel, by decide⟩, TT_in 1193 (by decide +kernel) rfl, TT_in 1194 (by decide +kernel) rfl, ⟨_, _, rfl⟩⟩
theorem lkL_90 : q_LkV RL 90 yX7_fetch cX7_fetch 5 (some .int) 2 5 := ⟨⟨TT_in 633 (by decide +kernel) rfl, TT_in 630 (by decide +kernel) rfl, TT_in 57 (by decide +kernel) rfl, ⟨by decide, by decide⟩, by decide +kernel, by decide⟩, TT_in 631 (by decide +kernel) rfl, TT_in 632 (by decide +kernel) rfl, ⟨_, _, rfl⟩⟩
theorem lkL_93 : q_LkV RL 93 yX8_fetch cX8_fetch 4 (some .int) 2 6 := ⟨⟨TT_in 1224 (by decide +kernel) rfl, TT_in 1221 (by decide +kernel) rfl, TT_in 63 (by decide +kernel) rfl, ⟨by decide, by decide⟩, by decide +kernel, by decide⟩, TT_in 1222 (by decide +kernel) rfl, TT_in 1223 (by decide +kernel) rfl, ⟨_, _, rfl⟩⟩
theorem lkL_94 : q_LkV RL 94 yX7_lay cX7_lay 6 (some .int) 2 5 := ⟨⟨TT_in 646 (by decide +kernel) rfl, TT_in 643 (by decide +kernel) rfl, TT_in 57 (by decide +kernel) rfl, ⟨by decide, by decide⟩, by decide +kernel, by decide⟩, TT_in 644 (by decide +kernel) rfl, TT_in 645 (by decide +kernel) rfl, ⟨_, _, rfl⟩⟩
theorem lkL_97 : q_LkV RL 97 yX8_lay cX8_lay 4 (some .int) 2 6 := ⟨⟨TT_in 1232 (by decide +kernel) rfl, TT_in 1229 (by decide +kernel) rfl, TT_in 63 (by decide +kernel) rfl, ⟨by decide, by decide⟩, by decide +kernel, by decide⟩, TT_in 1230 (by decide +kernel) rfl, TT_in 1231 (by decide +kernel) rfl, ⟨_, _, rfl⟩⟩
theorem lkL_98 : q_LkV RL 98 yX7_scatter cX7_scatter 10 (some .int) 2 5 := ⟨⟨TT_in 667 (by decide +kernel) rfl, TT_in 664 (by decide +kernel) rfl, TT_in 57 (by decide +kernel) rfl, ⟨by decide, by decide⟩, by decide +kernel, by decide⟩, TT_in 665 (by decide +kernel) rfl, TT_in 666 (by decide +kernel) rfl, ⟨_, _, rfl⟩⟩
theorem lkL_101 : q_LkV RL 101 yX8_scatter cX8_scatter 8 (some .int) 2 6 := ⟨⟨TT_in 1248 (by decide +kernel) rfl, TT_in 1245 (by decide +kernel) rfl, TT_in 63 (by decide +kernel) rfl, ⟨by decide, by decide⟩, by decide +kernel, by decide⟩, TT_in 1246 (by decide +kernel) rfl, TT_in 1247 (by decide +kernel) rfl, ⟨_, _, rfl⟩⟩
theorem lkL_102 : q_LkV RL 102 yX7_convert cX7_convert 9 (some .int) 3 5 := ⟨⟨TT_in 673 (by decide +kernel) rfl, TT_in 670 (by decide +kernel) rfl, TT_in 57 (by decide +kernel) rfl, ⟨by decide, by decide⟩, by decide +kernel, by decide⟩, TT_in 671 (by decide +kernel) rfl, TT_in 672 (by decide +kernel) rfl, ⟨_, _, rfl⟩⟩
theorem lkL_105 : q_LkV RL 105 yX8_convert cX8_convert 9 (some .int) 3 6 := ⟨⟨TT_in 1258 (by decide +kernel) rfl, TT_in 1255 (by decide +kernel) rfl, TT_in 63 (by decide +kernel) rfl, ⟨by decide, by decide⟩, by decide +kernel, by decide⟩, TT_in 1256 (by decide +kernel) rfl, TT_in 1257 (by decide +kernel) rfl, ⟨_, _, rfl⟩⟩
theorem lkL_106 : q_LkV RL 106 yX7_report cX7_report 2 (some .int) 1 5 := ⟨⟨TT_in 723 (by decide +kernel) rfl, TT_in 720 (by decide +kernel) rfl, TT_in 57 (by decide +kernel) rfl, ⟨by decide, by decide⟩, by decide +kernel, by decide⟩, TT_in 721 (by decide +kernel) rfl, TT_in 722 (by decide +kernel) rfl, ⟨_, _, rfl⟩⟩
theorem lkL_109 : q_LkV RL 109 yX8_report cX8_report 2 (some .int) 1 6 := ⟨⟨TT_in 1275 (by decide +kernel) rfl, TT_in 1272 (by decide +kernel) rfl, TT_in 63 (by decide +kernel) rfl, ⟨by decide, by decide⟩, by decide +kernel, by decide⟩, TT_in 1273 (by decide +kernel) rfl, TT_in 1274 (by decide +kernel) rfl, ⟨_, _, rfl⟩⟩
theorem lkL_110 : q_LkV RL 110 yX7_chains cX7_chains 3 (some .int) 2 5 := ⟨⟨TT_in 727 (by decide +kernel) rfl, TT_in 724 (by decide +kernel) rfl, TT_in 57 (by decide +kernel) rfl, ⟨by decide, by decide⟩, by decide +kernel, by decide⟩, TT_in 725 (by decide +kernel) rfl, TT_in 726 (by decide +kernel) rfl, ⟨_, _, rfl⟩⟩
theorem lkL_113 : q_LkV RL 113 yX8_chains cX8_chains 5 (some .int) 2 6 := ⟨⟨TT_in 1279 (by decide +kernel) rfl, TT_in 1276 (by decide +kernel) rfl, TT_in 63 (by decide +kernel) rfl, ⟨by decide, by decide⟩, by decide +kernel, by decide⟩, TT_in 1277 (by decide +kernel) rfl, TT_in 1278 (by decide +kernel) rfl, ⟨_, _, rfl⟩⟩
theorem lkL_114 : q_LkV RL 114 yX7_carry cX7_carry 5 (some .int) 3 5 := ⟨⟨TT_in 736 (by decide +kernel) rfl, TT_in 733 (by decide +kernel) rfl, TT_in 57 (by decide +kernel) rfl, ⟨by decide, by decide⟩, by decide +kernel, by decide⟩, TT_in 734 (by decide +kernel) rfl, TT_in 735 (by decide +kernel) rfl, ⟨_, _, rfl⟩⟩
theorem lkL_117 : q_LkV RL 117 yX8_carry cX8_carry 11 (some .int) 3 6 := ⟨⟨TT_in 1283 (by decide +kernel) rfl, TT_in 1280 (by decide +kernel) rfl, TT_in 63 (by decide +kernel) rfl, ⟨by decide, by decide⟩, by decide +kernel, by decide⟩, TT_in 1281 (by decide +kernel) rfl, TT_in 1282 (by decide +kernel) rfl, ⟨_, _, rfl⟩⟩
theorem lkL_118 : q_LkV RL 118 yX7_ends cX7_ends 5 (some .int) 3 5 := ⟨⟨TT_in 749 (by decide +kernel) rfl, TT_in 746 (by decide +kernel) rfl, TT_in 57 (by decide +kernel) rfl, ⟨by decide, by decide⟩, by decide +kernel, by decide⟩, TT_in 747 (by decide +kernel) rfl, TT_in 748 (by decide +kernel) rfl, ⟨_, _, rfl⟩⟩
theorem lkL_121 : q_LkV RL 121 yX8_ends cX8_ends 7 (some .int) 3 6 := ⟨⟨TT_in 1293 (by decide +kernel) rfl, TT_in 1290 (by decide +kernel) rfl, TT_in 63 (by decide +kernel) rfl, ⟨by decide, by decide⟩, by decide +kernel, by decide⟩, TT_in 1291 (by decide +kernel) rfl, TT_in 1292 (by decide +kernel) rfl, ⟨_, _, rfl⟩⟩
theorem lkL_122 : q_LkV RL 122 yX7_least cX7_least 4 (some .int) 1 5 := ⟨⟨TT_in 757 (by decide +kernel) rfl, TT_in 754 (by decide +kernel) rfl, TT_in 57 (by decide +kernel) rfl, ⟨by decide, by decide⟩, by decide +kernel, by decide⟩, TT_in 755 (by decide +kernel) rfl, TT_in 756 (by decide +kernel) rfl, ⟨_, _, rfl⟩⟩
theorem lkL_125 : q_LkV RL 125 yX8_least cX8_least 7 (some .int) 1 6 := ⟨⟨TT_in 1301 (by decide +kernel) rfl, TT_in 1298 (by decide +kernel) rfl, TT_in 63 (by decide +kernel) rfl, ⟨by decide, by decide⟩, by decide +kernel, by decide⟩, TT_in 1299 (by decide +kernel) rfl, TT_in 1300 (by decide +kernel) rfl, ⟨_, _, rfl⟩⟩
theorem lkL_126 : q_LkV RL 126 yX7_join cX7_join 9 (some .int) 3 5 := ⟨⟨TT_in 768 (by decide +kernel) rfl, TT_in 765 (by decide +kernel) rfl, TT_in 57 (by decide +kernel) rfl, ⟨by decide, by decide⟩, by decide +kernel, by decide⟩, TT_in 766 (by decide +kernel) rfl, TT_in 767 (by decide +kernel) rfl, ⟨_, _, rfl⟩⟩
theorem lkL_129 : q_LkV RL 129 yX8_join cX8_join 4 (some .int) 3 6 := ⟨⟨TT_in 1309 (by decide +kernel) rfl, TT_in 1306 (by decide +kernel) rfl, TT_in 63 (by decide +kernel) rfl, ⟨by decide, by decide⟩, by decide +kernel, by decide⟩, TT_in 1307 (by decide +kernel) rfl, TT_in 1308 (by decide +kernel) rfl, ⟨_, _, rfl⟩⟩
theorem lkL_130 : q_LkV RL 130 yX7_cut cX7_cut 9 (some .int) 3 5 := ⟨⟨TT_in 786 (by decide +kernel) rfl, TT_in 783 (by decide +kernel) rfl, TT_in 57 (by decide +kernel) rfl, ⟨by decide, by decide⟩, by decide +kernel, by decide⟩, TT_in 784 (by decide +kernel) rfl, TT_in 785 (by decide +kernel) rfl, ⟨_, _, rfl⟩⟩
theorem lkL_133 : q_LkV RL 133 yX8_cut cX8_cut 6 (some .int) 3 6 := ⟨⟨TT_in 1323 (by decide +kernel) rfl, TT_in 1320 (by decide +kernel) rfl, TT_in 63 (by decide +kernel) rfl, ⟨by decide, by decide⟩, by decide +kernel, by decide⟩, TT_in 1321 (by decide +kernel) rfl, TT_in 1322 (by decide +kernel) rfl, ⟨_, _, rfl⟩⟩
theorem lkL_134 : q_LkV RL 134 yX7_alike cX7_alike 7 (some .int) 2 5 := ⟨⟨TT_in 790 (by decide +kernel) rfl, TT_in 787 (by decide +kernel) rfl, TT_in 57 (by decide +kernel) rfl, ⟨by decide, by decide⟩, by decide +kernel, by decide⟩, TT_in 788 (by decide +kernel) rfl, TT_in 789 (by decide +kernel) rfl, ⟨_, _, rfl⟩⟩
theorem lkL_137 : q_LkV RL 137 yX8_alike cX8_alike 7 (some .int) 2 6 := ⟨⟨TT_in 1328 (by decide +kernel) rfl, TT_in 1325 (by decide +kernel) rfl, TT_in 63 (by decide +kernel) rfl, ⟨by decide, by decide⟩, by decide +kernel, by decide⟩, TT_in 1326 (by decide +kernel) rfl, TT_in 1327 (by decide +kernel) rfl, ⟨_, _, rfl⟩⟩
theorem lkL_138 : q_LkV RL 138 yX7_unlike cX7_unlike 5 (some .int) 1 5 := ⟨⟨TT_in 799 (by decide +kernel) rfl, TT_in 796 (by decide +kernel) rfl, TT_in 57 (by decide +kernel) rfl, ⟨by decide, by decide⟩, by decide +kernel, by decide⟩, TT_in 797 (by decide +kernel) rfl, TT_in 798 (by decide +kernel) rfl, ⟨_, _, rfl⟩⟩
theorem lkL_141 : q_LkV RL 141 yX8_unlike cX8_unlike 7 (some .int) 1 6 := ⟨⟨TT_in 1336 (by decide +kernel) rfl, TT_in 1333 (by decide +kernel) rfl, TT_in 63 (by decide +kernel) rfl, ⟨by decide, by decide⟩, by decide +kernel, by decide⟩, TT_in 1334 (by decide +kernel) rfl, TT_in 1335 (by decide +kernel) rfl, ⟨_, _, rfl⟩⟩
theorem lkL_142 : q_LkV RL 142 yX7_total cX7_total 9 (some .int) 2 5 := ⟨⟨TT_in 807 (by decide +kernel) rfl, TT_in 804 (by decide +kernel) rfl, TT_in 57 (by decide +kernel) rfl, ⟨by decide, by decide⟩, by decide +kernel, by decide⟩, TT_in 805 (by decide +kernel) rfl, TT_in 806 (by decide +kernel) rfl, ⟨_, _, rfl⟩⟩
theorem lkL_145 : q_LkV RL 145 yX8_total cX8_total 8 (some .int) 2 6 := ⟨⟨TT_in 1344 (by decide +kernel) rfl, TT_in 1341 (by decide +kernel) rfl, TT_in 63 (by decide +kernel) rfl, ⟨by decide, by decide⟩, by decide +kernel, by decide⟩, TT_in 1342 (by decide +kernel) rfl, TT_in 1343 (by decide +kernel) rfl, ⟨_, _, rfl⟩⟩
theorem lkL_146 : q_LkV RL 146 yX7_see cX7_see 4 (some .int) 3 5 := ⟨⟨TT_in 811 (by decide +kernel) rfl, TT_in 808 (by decide +kernel) rfl, TT_in 57 (by decide +kernel) rfl, ⟨by decide, by decide⟩, by decide +kernel, by decide⟩, TT_in 809 (by decide +kernel) rfl, TT_in 810 (by decide +kernel) rfl, ⟨_, _, rfl⟩⟩
theorem lkL_149 : q_LkV RL 149 yX8_see cX8_see 4 (some .int) 3 6 := ⟨⟨TT_in 1350 (by decide +kernel) rfl, TT_in 1347 (by decide +kernel) rfl, TT_in 63 (by decide +kernel) rfl, ⟨by decide, by decide⟩, by decide +kernel, by decide⟩, TT_in 1348 (by decide +kernel) rfl, TT_in 1349 (by decide +kernel) rfl, ⟨_, _, rfl⟩⟩
theorem lkL_150 : q_LkV RL 150 yX7_unsee cX7_unsee 2 (some .int) 0 5 := ⟨⟨TT_in 819 (by decide +kernel) rfl, TT_in 816 (by decide +kernel) rfl, TT_in 57 (by decide +kernel) rfl, ⟨by decide, by decide⟩, by decide +kernel, by decide⟩, TT_in 817 (by decide +kernel) rfl, TT_in 818 (by decide +kernel) rfl, ⟨_, _, rfl⟩⟩
theorem lkL_153 : q_LkV RL 153 yX8_unsee cX8_unsee 2 (some .int) 0 6 := ⟨⟨TT_in 1354 (by decide +kernel) rfl, TT_in 1351 (by decide +kernel) rfl, TT_in 63 (by decide +kernel) rfl, ⟨by decide, by decide⟩, by decide +kernel, by decide⟩, TT_in 1352 (by decide +kernel) rfl, TT_in 1353 (by decide +kernel) rfl, ⟨_, _, rfl⟩⟩
theorem lkL_154 : q_LkV RL 154 yX7_which cX7_which 3 (some .int) 0 5 := ⟨⟨TT_in 823 (by decide +kernel) rfl, TT_in 820 (by decide +kernel) rfl, TT_in 57 (by decide +kernel) rfl, ⟨by decide, by decide⟩, by decide +kernel, by decide⟩, TT_in 821 (by decide +kernel) rfl, TT_in 822 (by decide +kernel) rfl, ⟨_, _, rfl⟩⟩
theorem lkL_157 : q_LkV RL 157 yX8_which cX8_which 5 (some .int) 0 6 := ⟨⟨TT_in 1358 (by decide +kernel) rfl, TT_in 1355 (by decide +kernel) rfl, TT_in 63 (by decide +kernel) rfl, ⟨by decide, by decide⟩, by decide +kernel, by decide⟩, TT_in 1356 (by decide +kernel) rfl, TT_in 1357 (by decide +kernel) rfl, ⟨_, _, rfl⟩⟩
theorem lkL_158 : q_LkV RL 158 yX7_undo cX7_undo 2 (some .int) 0 5 := ⟨⟨TT_in 836 (by decide +kernel) rfl, TT_in 833 (by decide +kernel) rfl, TT_in 57 (by decide +kernel) rfl, ⟨by decide, by decide⟩, by decide +kernel, by decide⟩, TT_in 834 (by decide +kernel) rfl, TT_in 835 (by decide +kernel) rfl, ⟨_, _, rfl⟩⟩
theorem lkL_161 : q_LkV RL 161 yX8_undo cX8_undo 2 (some .int) 0 6 := ⟨⟨TT_in 1071 (by decide +kernel) rfl, TT_in 1068 (by decide +kernel) rfl, TT_in 63 (by decide +kernel) rfl, ⟨by decide, by decide⟩, by decide +kernel, by decide⟩, TT_in 1069 (by decide +kernel) rfl, TT_in 1070 (by decide +kernel) rfl, ⟨_, _, rfl⟩⟩
theorem cnL_58 : Cond.constantLong RL 58 4294967295 ∈ TT := TT_in 1363 (by decide +kernel) rfl
theorem nI_plus (i k : Nat) : nI i + nI k = nI (i + k) := nI_add i k
theorem dL_law_0 : decode cL_law 0 = .ok (.new 7, 3) := by decide +kernel
theorem dL_law_3 : decode cL_law 3 = .ok (.dup, 1) := by decide +kernel
theorem dL_law_4 : decode cL_law 4 = .ok (.invokespecial 9, 3) := by decide +kernel
theorem dL_law_7 : decode cL_law 7 = .ok (.astore_n 1, 1) := by decide +kernel
theorem dL_law_8 : decode cL_law 8 = .ok (.new 10, 3) := by decide +kernel
theorem dL_law_11 : decode cL_law 11 = .ok (.dup, 1) := by decide +kernel
theorem dL_law_12 : decode cL_law 12 = .ok (.invokespecial 12, 3) := by decide +kernel
theorem dL_law_15 : decode cL_law 15 = .ok (.astore_n 2, 1) := by decide +kernel
theorem dL_law_16 : decode cL_law 16 = .ok (.iconst 0, 1) := by decide +kernel
theorem dL_law_17 : decode cL_law 17 = .ok (.istore_n 3, 1) := by decide +kernel
theorem dL_law_18 : decode cL_law 18 = .ok (.iload_n 3, 1) := by decide +kernel
theorem dL_law_19 : decode cL_law 19 = .ok (.aload_n 0, 1) := by decide +kernel
theorem dL_law_20 : decode cL_law 20 = .ok (.arraylength, 1) := by decide +kernel
theorem dL_law_21 : decode cL_law 21 = .ok (.iconst 4, 1) := by decide +kernel
theorem dL_law_22 : decode cL_law 22 = .ok (.isub, 1) := by decide +kernel
theorem dL_law_23 : decode cL_law 23 = .ok (.if_icmp .gt 1268, 3) := by decide +kernel
theorem dL_law_26 : decode cL_law 26 = .ok (.aload_n 0, 1) := by decide +kernel
theorem dL_law_27 : decode cL_law 27 = .ok (.iload_n 3, 1) := by decide +kernel
theorem dL_law_28 : decode cL_law 28 = .ok (.iaload, 1) := by decide +kernel
theorem dL_law_29 : decode cL_law 29 = .ok (.bipush 63, 2) := by decide +kernel
theorem dL_law_31 : decode cL_law 31 = .ok (.iand, 1) := by decide +kernel
theorem dL_law_32 : decode cL_law 32 = .ok (.tableswitch 1253 0 34 #[156, 179, 192, 205, 228, 251, 294, 327, 360, 393, 437, 500, 533, 556, 569, 593, 616, 659, 692, 725, 788, 831, 854, 887, 930, 973, 996, 1039, 1082, 1115, 1138, 1171, 1214, 1227, 1240], 156) := by decide +kernel
theorem dL_law_188 : decode cL_law 188 = .ok (.aload_n 1, 1) := by decide +kernel
theorem dL_law_189 : decode cL_law 189 = .ok (.aload_n 0, 1) := by decide +kernel
theorem dL_law_190 : decode cL_law 190 = .ok (.iload_n 3, 1) := by decide +kernel
theorem dL_law_191 : decode cL_law 191 = .ok (.iconst 1, 1) := by decide +kernel
theorem dL_law_192 : decode cL_law 192 = .ok (.iadd, 1) := by decide +kernel
theorem dL_law_193 : decode cL_law 193 = .ok (.iaload, 1) := by decide +kernel
theorem dL_law_194 : decode cL_law 194 = .ok (.invokevirtual 13, 3) := by decide +kernel
theorem dL_law_197 : decode cL_law 197 = .ok (.aload_n 2, 1) := by decide +kernel
theorem dL_law_198 : decode cL_law 198 = .ok (.aload_n 0, 1) := by decide +kernel
theorem dL_law_199 : decode cL_law 199 = .ok (.iload_n 3, 1) := by decide +kernel
theorem dL_law_200 : decode cL_law 200 = .ok (.iconst 1, 1) := by decide +kernel
theorem dL_law_201 : decode cL_law 201 = .ok (.iadd, 1) := by decide +kernel
theorem dL_law_202 : decode cL_law 202 = .ok (.iaload, 1) := by decide +kernel
theorem dL_law_203 : decode cL_law 203 = .ok (.invokevirtual 17, 3) := by decide +kernel
theorem dL_law_206 : decode cL_law 206 = .ok (.if_icmp .eq 1079, 3) := by decide +kernel
theorem dL_law_209 : decode cL_law 209 = .ok (.iconst 0, 1) := by decide +kernel
theorem dL_law_210 : decode cL_law 210 = .ok (.ireturn, 1) := by decide +kernel
theorem dL_law_211 : decode cL_law 211 = .ok (.aload_n 1, 1) := by decide +kernel
theorem dL_law_212 : decode cL_law 212 = .ok (.invokevirtual 18, 3) := by decide +kernel
theorem dL_law_215 : decode cL_law 215 = .ok (.aload_n 2, 1) := by decide +kernel
theorem dL_law_216 : decode cL_law 216 = .ok (.invokevirtual 22, 3) := by decide +kernel
theorem dL_law_219 : decode cL_law 219 = .ok (.if_icmp .eq 1066, 3) := by decide +kernel
theorem dL_law_222 : decode cL_law 222 = .ok (.iconst 0, 1) := by decide +kernel
theorem dL_law_223 : decode cL_law 223 = .ok (.ireturn, 1) := by decide +kernel
theorem dL_law_224 : decode cL_law 224 = .ok (.aload_n 1, 1) := by decide +kernel
theorem dL_law_225 : decode cL_law 225 = .ok (.invokevirtual 23, 3) := by decide +kernel
theorem dL_law_228 : decode cL_law 228 = .ok (.aload_n 2, 1) := by decide +kernel
theorem dL_law_229 : decode cL_law 229 = .ok (.invokevirtual 26, 3) := by decide +kernel
theorem dL_law_232 : decode cL_law 232 = .ok (.if_icmp .eq 1053, 3) := by decide +kernel
theorem dL_law_235 : decode cL_law 235 = .ok (.iconst 0, 1) := by decide +kernel
theorem dL_law_236 : decode cL_law 236 = .ok (.ireturn, 1) := by decide +kernel
theorem dL_law_237 : decode cL_law 237 = .ok (.aload_n 1, 1) := by decide +kernel
theorem dL_law_238 : decode cL_law 238 = .ok (.aload_n 0, 1) := by decide +kernel
theorem dL_law_239 : decode cL_law 239 = .ok (.iload_n 3, 1) := by decide +kernel
theorem dL_law_240 : decode cL_law 240 = .ok (.iconst 1, 1) := by decide +kernel
theorem dL_law_241 : decode cL_law 241 = .ok (.iadd, 1) := by decide +kernel
theorem dL_law_242 : decode cL_law 242 = .ok (.iaload, 1) := by decide +kernel
theorem dL_law_243 : decode cL_law 243 = .ok (.invokevirtual 27, 3) := by decide +kernel
theorem dL_law_246 : decode cL_law 246 = .ok (.aload_n 2, 1) := by decide +kernel
theorem dL_law_247 : decode cL_law 247 = .ok (.aload_n 0, 1) := by decide +kernel
theorem dL_law_248 : decode cL_law 248 = .ok (.iload_n 3, 1) := by decide +kernel
theorem dL_law_249 : decode cL_law 249 = .ok (.iconst 1, 1) := by decide +kernel
theorem dL_law_250 : decode cL_law 250 = .ok (.iadd, 1) := by decide +kernel
theorem dL_law_251 : decode cL_law 251 = .ok (.iaload, 1) := by decide +kernel
theorem dL_law_252 : decode cL_law 252 = .ok (.invokevirtual 30, 3) := by decide +kernel
theorem dL_law_255 : decode cL_law 255 = .ok (.if_icmp .eq 1030, 3) := by decide +kernel
theorem dL_law_258 : decode cL_law 258 = .ok (.iconst 0, 1) := by decide +kernel
theorem dL_law_259 : decode cL_law 259 = .ok (.ireturn, 1) := by decide +kernel
theorem dL_law_260 : decode cL_law 260 = .ok (.aload_n 1, 1) := by decide +kernel
theorem dL_law_261 : decode cL_law 261 = .ok (.aload_n 0, 1) := by decide +kernel
theorem dL_law_262 : decode cL_law 262 = .ok (.iload_n 3, 1) := by decide +kernel
theorem dL_law_263 : decode cL_law 263 = .ok (.iconst 1, 1) := by decide +kernel
theorem dL_law_264 : decode cL_law 264 = .ok (.iadd, 1) := by decide +kernel
theorem dL_law_265 : decode cL_law 265 = .ok (.iaload, 1) := by decide +kernel
theorem dL_law_266 : decode cL_law 266 = .ok (.invokevirtual 31, 3) := by decide +kernel
theorem dL_law_269 : decode cL_law 269 = .ok (.aload_n 2, 1) := by decide +kernel
theorem dL_law_270 : decode cL_law 270 = .ok (.aload_n 0, 1) := by decide +kernel
theorem dL_law_271 : decode cL_law 271 = .ok (.iload_n 3, 1) := by decide +kernel
theorem dL_law_272 : decode cL_law 272 = .ok (.iconst 1, 1) := by decide +kernel
theorem dL_law_273 : decode cL_law 273 = .ok (.iadd, 1) := by decide +kernel
theorem dL_law_274 : decode cL_law 274 = .ok (.iaload, 1) := by decide +kernel
theorem dL_law_275 : decode cL_law 275 = .ok (.invokevirtual 34, 3) := by decide +kernel
theorem dL_law_278 : decode cL_law 278 = .ok (.if_icmp .eq 1007, 3) := by decide +kernel
theorem dL_law_281 : decode cL_law 281 = .ok (.iconst 0, 1) := by decide +kernel
theorem dL_law_282 : decode cL_law 282 = .ok (.ireturn, 1) := by decide +kernel
theorem dL_law_283 : decode cL_law 283 = .ok (.aload_n 1, 1) := by decide +kernel
theorem dL_law_284 : decode cL_law 284 = .ok (.aload_n 0, 1) := by decide +kernel
theorem dL_law_285 : decode cL_law 285 = .ok (.iload_n 3, 1) := by decide +kernel
theorem dL_law_286 : decode cL_law 286 = .ok (.iconst 1, 1) := by decide +kernel
theorem dL_law_287 : decode cL_law 287 = .ok (.iadd, 1) := by decide +kernel
theorem dL_law_288 : decode cL_law 288 = .ok (.iaload, 1) := by decide +kernel
theorem dL_law_289 : decode cL_law 289 = .ok (.aload_n 0, 1) := by decide +kernel
theorem dL_law_290 : decode cL_law 290 = .ok (.iload_n 3, 1) := by decide +kernel
theorem dL_law_291 : decode cL_law 291 = .ok (.iconst 2, 1) := by decide +kernel
theorem dL_law_292 : decode cL_law 292 = .ok (.iadd, 1) := by decide +kernel
theorem dL_law_293 : decode cL_law 293 = .ok (.iaload, 1) := by decide +kernel
theorem dL_law_294 : decode cL_law 294 = .ok (.aload_n 0, 1) := by decide +kernel
theorem dL_law_295 : decode cL_law 295 = .ok (.iload_n 3, 1) := by decide +kernel
theorem dL_law_296 : decode cL_law 296 = .ok (.iconst 3, 1) := by decide +kernel
theorem dL_law_297 : decode cL_law 297 = .ok (.iadd, 1) := by decide +kernel
theorem dL_law_298 : decode cL_law 298 = .ok (.iaload, 1) := by decide +kernel
theorem dL_law_299 : decode cL_law 299 = .ok (.invokevirtual 35, 3) := by decide +kernel
theorem dL_law_302 : decode cL_law 302 = .ok (.aload_n 2, 1) := by decide +kernel
theorem dL_law_303 : decode cL_law 303 = .ok (.aload_n 0, 1) := by decide +kernel
theorem dL_law_304 : decode cL_law 304 = .ok (.iload_n 3, 1) := by decide +kernel
theorem dL_law_305 : decode cL_law 305 = .ok (.iconst 1, 1) := by decide +kernel
theorem dL_law_306 : decode cL_law 306 = .ok (.iadd, 1) := by decide +kernel
theorem dL_law_307 : decode cL_law 307 = .ok (.iaload, 1) := by decide +kernel
theorem dL_law_308 : decode cL_law 308 = .ok (.aload_n 0, 1) := by decide +kernel
theorem dL_law_309 : decode cL_law 309 = .ok (.iload_n 3, 1) := by decide +kernel
theorem dL_law_310 : decode cL_law 310 = .ok (.iconst 2, 1) := by decide +kernel
theorem dL_law_311 : decode cL_law 311 = .ok (.iadd, 1) := by decide +kernel
theorem dL_law_312 : decode cL_law 312 = .ok (.iaload, 1) := by decide +kernel
theorem dL_law_313 : decode cL_law 313 = .ok (.aload_n 0, 1) := by decide +kernel
theorem dL_law_314 : decode cL_law 314 = .ok (.iload_n 3, 1) := by decide +kernel
theorem dL_law_315 : decode cL_law 315 = .ok (.iconst 3, 1) := by decide +kernel
theorem dL_law_316 : decode cL_law 316 = .ok (.iadd, 1) := by decide +kernel
theorem dL_law_317 : decode cL_law 317 = .ok (.iaload, 1) := by decide +kernel
theorem dL_law_318 : decode cL_law 318 = .ok (.invokevirtual 39, 3) := by decide +kernel
theorem dL_law_321 : decode cL_law 321 = .ok (.if_icmp .eq 964, 3) := by decide +kernel
theorem dL_law_324 : decode cL_law 324 = .ok (.iconst 0, 1) := by decide +kernel
theorem dL_law_325 : decode cL_law 325 = .ok (.ireturn, 1) := by decide +kernel
theorem dL_law_326 : decode cL_law 326 = .ok (.aload_n 1, 1) := by decide +kernel
theorem dL_law_327 : decode cL_law 327 = .ok (.aload_n 0, 1) := by decide +kernel
theorem dL_law_328 : decode cL_law 328 = .ok (.iload_n 3, 1) := by decide +kernel
theorem dL_law_329 : decode cL_law 329 = .ok (.iconst 1, 1) := by decide +kernel
theorem dL_law_330 : decode cL_law 330 = .ok (.iadd, 1) := by decide +kernel
theorem dL_law_331 : decode cL_law 331 = .ok (.iaload, 1) := by decide +kernel
theorem dL_law_332 : decode cL_law 332 = .ok (.aload_n 0, 1) := by decide +kernel
theorem dL_law_333 : decode cL_law 333 = .ok (.iload_n 3, 1) := by decide +kernel
theorem dL_law_334 : decode cL_law 334 = .ok (.iconst 2, 1) := by decide +kernel
theorem dL_law_335 : decode cL_law 335 = .ok (.iadd, 1) := by decide +kernel
theorem dL_law_336 : decode cL_law 336 = .ok (.iaload, 1) := by decide +kernel
theorem dL_law_337 : decode cL_law 337 = .ok (.invokevirtual 40, 3) := by decide +kernel
theorem dL_law_340 : decode cL_law 340 = .ok (.aload_n 2, 1) := by decide +kernel
theorem dL_law_341 : decode cL_law 341 = .ok (.aload_n 0, 1) := by decide +kernel
theorem dL_law_342 : decode cL_law 342 = .ok (.iload_n 3, 1) := by decide +kernel
theorem dL_law_343 : decode cL_law 343 = .ok (.iconst 1, 1) := by decide +kernel
theorem dL_law_344 : decode cL_law 344 = .ok (.iadd, 1) := by decide +kernel
theorem dL_law_345 : decode cL_law 345 = .ok (.iaload, 1) := by decide +kernel
theorem dL_law_346 : decode cL_law 346 = .ok (.aload_n 0, 1) := by decide +kernel
theorem dL_law_347 : decode cL_law 347 = .ok (.iload_n 3, 1) := by decide +kernel
theorem dL_law_348 : decode cL_law 348 = .ok (.iconst 2, 1) := by decide +kernel
theorem dL_law_349 : decode cL_law 349 = .ok (.iadd, 1) := by decide +kernel
theorem dL_law_350 : decode cL_law 350 = .ok (.iaload, 1) := by decide +kernel
theorem dL_law_351 : decode cL_law 351 = .ok (.invokevirtual 44, 3) := by decide +kernel
theorem dL_law_354 : decode cL_law 354 = .ok (.if_icmp .eq 931, 3) := by decide +kernel
theorem dL_law_357 : decode cL_law 357 = .ok (.iconst 0, 1) := by decide +kernel
theorem dL_law_358 : decode cL_law 358 = .ok (.ireturn, 1) := by decide +kernel
theorem dL_law_359 : decode cL_law 359 = .ok (.aload_n 1, 1) := by decide +kernel
theorem dL_law_360 : decode cL_law 360 = .ok (.aload_n 0, 1) := by decide +kernel
theorem dL_law_361 : decode cL_law 361 = .ok (.iload_n 3, 1) := by decide +kernel
theorem dL_law_362 : decode cL_law 362 = .ok (.iconst 1, 1) := by decide +kernel
theorem dL_law_363 : decode cL_law 363 = .ok (.iadd, 1) := by decide +kernel
theorem dL_law_364 : decode cL_law 364 = .ok (.iaload, 1) := by decide +kernel
theorem dL_law_365 : decode cL_law 365 = .ok (.aload_n 0, 1) := by decide +kernel
theorem dL_law_366 : decode cL_law 366 = .ok (.iload_n 3, 1) := by decide +kernel
theorem dL_law_367 : decode cL_law 367 = .ok (.iconst 2, 1) := by decide +kernel
theorem dL_law_368 : decode cL_law 368 = .ok (.iadd, 1) := by decide +kernel
theorem dL_law_369 : decode cL_law 369 = .ok (.iaload, 1) := by decide +kernel
theorem dL_law_370 : decode cL_law 370 = .ok (.invokevirtual 45, 3) := by decide +kernel
theorem dL_law_373 : decode cL_law 373 = .ok (.aload_n 2, 1) := by decide +kernel
theorem dL_law_374 : decode cL_law 374 = .ok (.aload_n 0, 1) := by decide +kernel
theorem dL_law_375 : decode cL_law 375 = .ok (.iload_n 3, 1) := by decide +kernel
theorem dL_law_376 : decode cL_law 376 = .ok (.iconst 1, 1) := by decide +kernel
theorem dL_law_377 : decode cL_law 377 = .ok (.iadd, 1) := by decide +kernel
theorem dL_law_378 : decode cL_law 378 = .ok (.iaload, 1) := by decide +kernel
theorem dL_law_379 : decode cL_law 379 = .ok (.aload_n 0, 1) := by decide +kernel
theorem dL_law_380 : decode cL_law 380 = .ok (.iload_n 3, 1) := by decide +kernel
theorem dL_law_381 : decode cL_law 381 = .ok (.iconst 2, 1) := by decide +kernel
theorem dL_law_382 : decode cL_law 382 = .ok (.iadd, 1) := by decide +kernel
theorem dL_law_383 : decode cL_law 383 = .ok (.iaload, 1) := by decide +kernel
theorem dL_law_384 : decode cL_law 384 = .ok (.invokevirtual 48, 3) := by decide +kernel
theorem dL_law_387 : decode cL_law 387 = .ok (.if_icmp .eq 898, 3) := by decide +kernel
theorem dL_law_390 : decode cL_law 390 = .ok (.iconst 0, 1) := by decide +kernel
theorem dL_law_391 : decode cL_law 391 = .ok (.ireturn, 1) := by decide +kernel
theorem dL_law_392 : decode cL_law 392 = .ok (.aload_n 1, 1) := by decide +kernel
theorem dL_law_393 : decode cL_law 393 = .ok (.aload_n 0, 1) := by decide +kernel
theorem dL_law_394 : decode cL_law 394 = .ok (.iload_n 3, 1) := by decide +kernel
theorem dL_law_395 : decode cL_law 395 = .ok (.iconst 1, 1) := by decide +kernel
theorem dL_law_396 : decode cL_law 396 = .ok (.iadd, 1) := by decide +kernel
theorem dL_law_397 : decode cL_law 397 = .ok (.iaload, 1) := by decide +kernel
theorem dL_law_398 : decode cL_law 398 = .ok (.aload_n 0, 1) := by decide +kernel
theorem dL_law_399 : decode cL_law 399 = .ok (.iload_n 3, 1) := by decide +kernel
theorem dL_law_400 : decode cL_law 400 = .ok (.iconst 2, 1) := by decide +kernel
theorem dL_law_401 : decode cL_law 401 = .ok (.iadd, 1) := by decide +kernel
theorem dL_law_402 : decode cL_law 402 = .ok (.iaload, 1) := by decide +kernel
theorem dL_law_403 : decode cL_law 403 = .ok (.invokevirtual 49, 3) := by decide +kernel
theorem dL_law_406 : decode cL_law 406 = .ok (.aload_n 2, 1) := by decide +kernel
theorem dL_law_407 : decode cL_law 407 = .ok (.aload_n 0, 1) := by decide +kernel
theorem dL_law_408 : decode cL_law 408 = .ok (.iload_n 3, 1) := by decide +kernel
theorem dL_law_409 : decode cL_law 409 = .ok (.iconst 1, 1) := by decide +kernel
theorem dL_law_410 : decode cL_law 410 = .ok (.iadd, 1) := by decide +kernel
theorem dL_law_411 : decode cL_law 411 = .ok (.iaload, 1) := by decide +kernel
theorem dL_law_412 : decode cL_law 412 = .ok (.aload_n 0, 1) := by decide +kernel
theorem dL_law_413 : decode cL_law 413 = .ok (.iload_n 3, 1) := by decide +kernel
theorem dL_law_414 : decode cL_law 414 = .ok (.iconst 2, 1) := by decide +kernel
theorem dL_law_415 : decode cL_law 415 = .ok (.iadd, 1) := by decide +kernel
theorem dL_law_416 : decode cL_law 416 = .ok (.iaload, 1) := by decide +kernel
theorem dL_law_417 : decode cL_law 417 = .ok (.invokevirtual 52, 3) := by decide +kernel
theorem dL_law_420 : decode cL_law 420 = .ok (.if_icmp .eq 865, 3) := by decide +kernel
theorem dL_law_423 : decode cL_law 423 = .ok (.iconst 0, 1) := by decide +kernel
theorem dL_law_424 : decode cL_law 424 = .ok (.ireturn, 1) := by decide +kernel
theorem dL_law_425 : decode cL_law 425 = .ok (.aload_n 1, 1) := by decide +kernel
theorem dL_law_426 : decode cL_law 426 = .ok (.aload_n 0, 1) := by decide +kernel
theorem dL_law_427 : decode cL_law 427 = .ok (.iload_n 3, 1) := by decide +kernel
theorem dL_law_428 : decode cL_law 428 = .ok (.iconst 1, 1) := by decide +kernel
theorem dL_law_429 : decode cL_law 429 = .ok (.iadd, 1) := by decide +kernel
theorem dL_law_430 : decode cL_law 430 = .ok (.iaload, 1) := by decide +kernel
theorem dL_law_431 : decode cL_law 431 = .ok (.aload_n 0, 1) := by decide +kernel
theorem dL_law_432 : decode cL_law 432 = .ok (.iload_n 3, 1) := by decide +kernel
theorem dL_law_433 : decode cL_law 433 = .ok (.iconst 2, 1) := by decide +kernel
theorem dL_law_434 : decode cL_law 434 = .ok (.iadd, 1) := by decide +kernel
theorem dL_law_435 : decode cL_law 435 = .ok (.iaload, 1) := by decide +kernel
theorem dL_law_436 : decode cL_law 436 = .ok (.aload_n 0, 1) := by decide +kernel
theorem dL_law_437 : decode cL_law 437 = .ok (.iload_n 3, 1) := by decide +kernel
theorem dL_law_438 : decode cL_law 438 = .ok (.iconst 3, 1) := by decide +kernel
theorem dL_law_439 : decode cL_law 439 = .ok (.iadd, 1) := by decide +kernel
theorem dL_law_440 : decode cL_law 440 = .ok (.iaload, 1) := by decide +kernel
theorem dL_law_441 : decode cL_law 441 = .ok (.invokevirtual 53, 3) := by decide +kernel
theorem dL_law_444 : decode cL_law 444 = .ok (.aload_n 2, 1) := by decide +kernel
theorem dL_law_445 : decode cL_law 445 = .ok (.aload_n 0, 1) := by decide +kernel
theorem dL_law_446 : decode cL_law 446 = .ok (.iload_n 3, 1) := by decide +kernel
theorem dL_law_447 : decode cL_law 447 = .ok (.iconst 1, 1) := by decide +kernel
theorem dL_law_448 : decode cL_law 448 = .ok (.iadd, 1) := by decide +kernel
theorem dL_law_449 : decode cL_law 449 = .ok (.iaload, 1) := by decide +kernel
theorem dL_law_450 : decode cL_law 450 = .ok (.aload_n 0, 1) := by decide +kernel
theorem dL_law_451 : decode cL_law 451 = .ok (.iload_n 3, 1) := by decide +kernel
theorem dL_law_452 : decode cL_law 452 = .ok (.iconst 2, 1) := by decide +kernel
theorem dL_law_453 : decode cL_law 453 = .ok (.iadd, 1) := by decide +kernel
theorem dL_law_454 : decode cL_law 454 = .ok (.iaload, 1) := by decide +kernel
theorem dL_law_455 : decode cL_law 455 = .ok (.aload_n 0, 1) := by decide +kernel
theorem dL_law_456 : decode cL_law 456 = .ok (.iload_n 3, 1) := by decide +kernel
theorem dL_law_457 : decode cL_law 457 = .ok (.iconst 3, 1) := by decide +kernel
theorem dL_law_458 : decode cL_law 458 = .ok (.iadd, 1) := by decide +kernel
theorem dL_law_459 : decode cL_law 459 = .ok (.iaload, 1) := by decide +kernel
theorem dL_law_460 : decode cL_law 460 = .ok (.invokevirtual 57, 3) := by decide +kernel
theorem dL_law_463 : decode cL_law 463 = .ok (.lcmp, 1) := by decide +kernel
theorem dL_law_464 : decode cL_law 464 = .ok (.ifCond .eq 821, 3) := by decide +kernel
theorem dL_law_467 : decode cL_law 467 = .ok (.iconst 0, 1) := by decide +kernel
theorem dL_law_468 : decode cL_law 468 = .ok (.ireturn, 1) := by decide +kernel
theorem dL_law_469 : decode cL_law 469 = .ok (.aload_n 1, 1) := by decide +kernel
theorem dL_law_470 : decode cL_law 470 = .ok (.aload_n 0, 1) := by decide +kernel
theorem dL_law_471 : decode cL_law 471 = .ok (.iload_n 3, 1) := by decide +kernel
theorem dL_law_472 : decode cL_law 472 = .ok (.iconst 1, 1) := by decide +kernel
theorem dL_law_473 : decode cL_law 473 = .ok (.iadd, 1) := by decide +kernel
theorem dL_law_474 : decode cL_law 474 = .ok (.iaload, 1) := by decide +kernel
theorem dL_law_475 : decode cL_law 475 = .ok (.aload_n 0, 1) := by decide +kernel
theorem dL_law_476 : decode cL_law 476 = .ok (.iload_n 3, 1) := by decide +kernel
theorem dL_law_477 : decode cL_law 477 = .ok (.iconst 2, 1) := by decide +kernel
theorem dL_law_478 : decode cL_law 478 = .ok (.iadd, 1) := by decide +kernel
theorem dL_law_479 : decode cL_law 479 = .ok (.iaload, 1) := by decide +kernel
theorem dL_law_480 : decode cL_law 480 = .ok (.i2l, 1) := by decide +kernel
theorem dL_law_481 : decode cL_law 481 = .ok (.bipush 32, 2) := by decide +kernel
theorem dL_law_483 : decode cL_law 483 = .ok (.lshl, 1) := by decide +kernel
theorem dL_law_484 : decode cL_law 484 = .ok (.aload_n 0, 1) := by decide +kernel
theorem dL_law_485 : decode cL_law 485 = .ok (.iload_n 3, 1) := by decide +kernel
theorem dL_law_486 : decode cL_law 486 = .ok (.iconst 3, 1) := by decide +kernel
theorem dL_law_487 : decode cL_law 487 = .ok (.iadd, 1) := by decide +kernel
theorem dL_law_488 : decode cL_law 488 = .ok (.iaload, 1) := by decide +kernel
theorem dL_law_489 : decode cL_law 489 = .ok (.i2l, 1) := by decide +kernel
theorem dL_law_490 : decode cL_law 490 = .ok (.ldc2_w 58, 3) := by decide +kernel
theorem dL_law_493 : decode cL_law 493 = .ok (.land, 1) := by decide +kernel
theorem dL_law_494 : decode cL_law 494 = .ok (.lor, 1) := by decide +kernel
theorem dL_law_495 : decode cL_law 495 = .ok (.invokevirtual 60, 3) := by decide +kernel
theorem dL_law_498 : decode cL_law 498 = .ok (.aload_n 2, 1) := by decide +kernel
theorem dL_law_499 : decode cL_law 499 = .ok (.aload_n 0, 1) := by decide +kernel
theorem dL_law_500 : decode cL_law 500 = .ok (.iload_n 3, 1) := by decide +kernel
theorem dL_law_501 : decode cL_law 501 = .ok (.iconst 1, 1) := by decide +kernel
theorem dL_law_502 : decode cL_law 502 = .ok (.iadd, 1) := by decide +kernel
theorem dL_law_503 : decode cL_law 503 = .ok (.iaload, 1) := by decide +kernel
theorem dL_law_504 : decode cL_law 504 = .ok (.aload_n 0, 1) := by decide +kernel
theorem dL_law_505 : decode cL_law 505 = .ok (.iload_n 3, 1) := by decide +kernel
theorem dL_law_506 : decode cL_law 506 = .ok (.iconst 2, 1) := by decide +kernel
theorem dL_law_507 : decode cL_law 507 = .ok (.iadd, 1) := by decide +kernel
theorem dL_law_508 : decode cL_law 508 = .ok (.iaload, 1) := by decide +kernel
theorem dL_law_509 : decode cL_law 509 = .ok (.i2l, 1) := by decide +kernel
theorem dL_law_510 : decode cL_law 510 = .ok (.bipush 32, 2) := by decide +kernel
theorem dL_law_512 : decode cL_law 512 = .ok (.lshl, 1) := by decide +kernel
theorem dL_law_513 : decode cL_law 513 = .ok (.aload_n 0, 1) := by decide +kernel
theorem dL_law_514 : decode cL_law 514 = .ok (.iload_n 3, 1) := by decide +kernel
theorem dL_law_515 : decode cL_law 515 = .ok (.iconst 3, 1) := by decide +kernel
theorem dL_law_516 : decode cL_law 516 = .ok (.iadd, 1) := by decide +kernel
theorem dL_law_517 : decode cL_law 517 = .ok (.iaload, 1) := by decide +kernel
theorem dL_law_518 : decode cL_law 518 = .ok (.i2l, 1) := by decide +kernel
theorem dL_law_519 : decode cL_law 519 = .ok (.ldc2_w 58, 3) := by decide +kernel
theorem dL_law_522 : decode cL_law 522 = .ok (.land, 1) := by decide +kernel
theorem dL_law_523 : decode cL_law 523 = .ok (.lor, 1) := by decide +kernel
theorem dL_law_524 : decode cL_law 524 = .ok (.invokevirtual 64, 3) := by decide +kernel
theorem dL_law_527 : decode cL_law 527 = .ok (.if_icmp .eq 758, 3) := by decide +kernel
theorem dL_law_530 : decode cL_law 530 = .ok (.iconst 0, 1) := by decide +kernel
theorem dL_law_531 : decode cL_law 531 = .ok (.ireturn, 1) := by decide +kernel
theorem dL_law_532 : decode cL_law 532 = .ok (.aload_n 1, 1) := by decide +kernel
theorem dL_law_533 : decode cL_law 533 = .ok (.aload_n 0, 1) := by decide +kernel
theorem dL_law_534 : decode cL_law 534 = .ok (.iload_n 3, 1) := by decide +kernel
theorem dL_law_535 : decode cL_law 535 = .ok (.iconst 1, 1) := by decide +kernel
theorem dL_law_536 : decode cL_law 536 = .ok (.iadd, 1) := by decide +kernel
theorem dL_law_537 : decode cL_law 537 = .ok (.iaload, 1) := by decide +kernel
theorem dL_law_538 : decode cL_law 538 = .ok (.aload_n 0, 1) := by decide +kernel
theorem dL_law_539 : decode cL_law 539 = .ok (.iload_n 3, 1) := by decide +kernel
theorem dL_law_540 : decode cL_law 540 = .ok (.iconst 2, 1) := by decide +kernel
theorem dL_law_541 : decode cL_law 541 = .ok (.iadd, 1) := by decide +kernel
theorem dL_law_542 : decode cL_law 542 = .ok (.iaload, 1) := by decide +kernel
theorem dL_law_543 : decode cL_law 543 = .ok (.invokevirtual 65, 3) := by decide +kernel
theorem dL_law_546 : decode cL_law 546 = .ok (.aload_n 2, 1) := by decide +kernel
theorem dL_law_547 : decode cL_law 547 = .ok (.aload_n 0, 1) := by decide +kernel
theorem dL_law_548 : decode cL_law 548 = .ok (.iload_n 3, 1) := by decide +kernel
theorem dL_law_549 : decode cL_law 549 = .ok (.iconst 1, 1) := by decide +kernel
theorem dL_law_550 : decode cL_law 550 = .ok (.iadd, 1) := by decide +kernel
theorem dL_law_551 : decode cL_law 551 = .ok (.iaload, 1) := by decide +kernel
theorem dL_law_552 : decode cL_law 552 = .ok (.aload_n 0, 1) := by decide +kernel
theorem dL_law_553 : decode cL_law 553 = .ok (.iload_n 3, 1) := by decide +kernel
theorem dL_law_554 : decode cL_law 554 = .ok (.iconst 2, 1) := by decide +kernel
theorem dL_law_555 : decode cL_law 555 = .ok (.iadd, 1) := by decide +kernel
theorem dL_law_556 : decode cL_law 556 = .ok (.iaload, 1) := by decide +kernel
theorem dL_law_557 : decode cL_law 557 = .ok (.invokevirtual 68, 3) := by decide +kernel
theorem dL_law_560 : decode cL_law 560 = .ok (.if_icmp .eq 725, 3) := by decide +kernel
theorem dL_law_563 : decode cL_law 563 = .ok (.iconst 0, 1) := by decide +kernel
theorem dL_law_564 : decode cL_law 564 = .ok (.ireturn, 1) := by decide +kernel
theorem dL_law_565 : decode cL_law 565 = .ok (.aload_n 1, 1) := by decide +kernel
theorem dL_law_566 : decode cL_law 566 = .ok (.aload_n 0, 1) := by decide +kernel
theorem dL_law_567 : decode cL_law 567 = .ok (.iload_n 3, 1) := by decide +kernel
theorem dL_law_568 : decode cL_law 568 = .ok (.iconst 1, 1) := by decide +kernel
theorem dL_law_569 : decode cL_law 569 = .ok (.iadd, 1) := by decide +kernel
theorem dL_law_570 : decode cL_law 570 = .ok (.iaload, 1) := by decide +kernel
theorem dL_law_571 : decode cL_law 571 = .ok (.invokevirtual 69, 3) := by decide +kernel
theorem dL_law_574 : decode cL_law 574 = .ok (.aload_n 2, 1) := by decide +kernel
theorem dL_law_575 : decode cL_law 575 = .ok (.aload_n 0, 1) := by decide +kernel
theorem dL_law_576 : decode cL_law 576 = .ok (.iload_n 3, 1) := by decide +kernel
theorem dL_law_577 : decode cL_law 577 = .ok (.iconst 1, 1) := by decide +kernel
theorem dL_law_578 : decode cL_law 578 = .ok (.iadd, 1) := by decide +kernel
theorem dL_law_579 : decode cL_law 579 = .ok (.iaload, 1) := by decide +kernel
theorem dL_law_580 : decode cL_law 580 = .ok (.invokevirtual 72, 3) := by decide +kernel
theorem dL_law_583 : decode cL_law 583 = .ok (.if_icmp .eq 702, 3) := by decide +kernel
theorem dL_law_586 : decode cL_law 586 = .ok (.iconst 0, 1) := by decide +kernel
theorem dL_law_587 : decode cL_law 587 = .ok (.ireturn, 1) := by decide +kernel
theorem dL_law_588 : decode cL_law 588 = .ok (.aload_n 1, 1) := by decide +kernel
theorem dL_law_589 : decode cL_law 589 = .ok (.invokevirtual 73, 3) := by decide +kernel
theorem dL_law_592 : decode cL_law 592 = .ok (.aload_n 2, 1) := by decide +kernel
theorem dL_law_593 : decode cL_law 593 = .ok (.invokevirtual 76, 3) := by decide +kernel
theorem dL_law_596 : decode cL_law 596 = .ok (.if_icmp .eq 689, 3) := by decide +kernel
theorem dL_law_599 : decode cL_law 599 = .ok (.iconst 0, 1) := by decide +kernel
theorem dL_law_600 : decode cL_law 600 = .ok (.ireturn, 1) := by decide +kernel
theorem dL_law_601 : decode cL_law 601 = .ok (.aload_n 1, 1) := by decide +kernel
theorem dL_law_602 : decode cL_law 602 = .ok (.aload_n 0, 1) := by decide +kernel
theorem dL_law_603 : decode cL_law 603 = .ok (.iload_n 3, 1) := by decide +kernel
theorem dL_law_604 : decode cL_law 604 = .ok (.iconst 1, 1) := by decide +kernel
theorem dL_law_605 : decode cL_law 605 = .ok (.iadd, 1) := by decide +kernel
theorem dL_law_606 : decode cL_law 606 = .ok (.iaload, 1) := by decide +kernel
theorem dL_law_607 : decode cL_law 607 = .ok (.invokevirtual 77, 3) := by decide +kernel
theorem dL_law_610 : decode cL_law 610 = .ok (.aload_n 2, 1) := by decide +kernel
theorem dL_law_611 : decode cL_law 611 = .ok (.aload_n 0, 1) := by decide +kernel
theorem dL_law_612 : decode cL_law 612 = .ok (.iload_n 3, 1) := by decide +kernel
theorem dL_law_613 : decode cL_law 613 = .ok (.iconst 1, 1) := by decide +kernel
theorem dL_law_614 : decode cL_law 614 = .ok (.iadd, 1) := by decide +kernel
theorem dL_law_615 : decode cL_law 615 = .ok (.iaload, 1) := by decide +kernel
theorem dL_law_616 : decode cL_law 616 = .ok (.invokevirtual 81, 3) := by decide +kernel
theorem dL_law_619 : decode cL_law 619 = .ok (.lcmp, 1) := by decide +kernel
theorem dL_law_620 : decode cL_law 620 = .ok (.ifCond .eq 665, 3) := by decide +kernel
theorem dL_law_623 : decode cL_law 623 = .ok (.iconst 0, 1) := by decide +kernel
theorem dL_law_624 : decode cL_law 624 = .ok (.ireturn, 1) := by decide +kernel
theorem dL_law_625 : decode cL_law 625 = .ok (.aload_n 1, 1) := by decide +kernel
theorem dL_law_626 : decode cL_law 626 = .ok (.aload_n 0, 1) := by decide +kernel
theorem dL_law_627 : decode cL_law 627 = .ok (.iload_n 3, 1) := by decide +kernel
theorem dL_law_628 : decode cL_law 628 = .ok (.iconst 1, 1) := by decide +kernel
theorem dL_law_629 : decode cL_law 629 = .ok (.iadd, 1) := by decide +kernel
theorem dL_law_630 : decode cL_law 630 = .ok (.iaload, 1) := by decide +kernel
theorem dL_law_631 : decode cL_law 631 = .ok (.invokevirtual 82, 3) := by decide +kernel
theorem dL_law_634 : decode cL_law 634 = .ok (.aload_n 2, 1) := by decide +kernel
theorem dL_law_635 : decode cL_law 635 = .ok (.aload_n 0, 1) := by decide +kernel
theorem dL_law_636 : decode cL_law 636 = .ok (.iload_n 3, 1) := by decide +kernel
theorem dL_law_637 : decode cL_law 637 = .ok (.iconst 1, 1) := by decide +kernel
theorem dL_law_638 : decode cL_law 638 = .ok (.iadd, 1) := by decide +kernel
theorem dL_law_639 : decode cL_law 639 = .ok (.iaload, 1) := by decide +kernel
theorem dL_law_640 : decode cL_law 640 = .ok (.invokevirtual 85, 3) := by decide +kernel
theorem dL_law_643 : decode cL_law 643 = .ok (.if_icmp .eq 642, 3) := by decide +kernel
theorem dL_law_646 : decode cL_law 646 = .ok (.iconst 0, 1) := by decide +kernel
theorem dL_law_647 : decode cL_law 647 = .ok (.ireturn, 1) := by decide +kernel
theorem dL_law_648 : decode cL_law 648 = .ok (.aload_n 1, 1) := by decide +kernel
theorem dL_law_649 : decode cL_law 649 = .ok (.aload_n 0, 1) := by decide +kernel
theorem dL_law_650 : decode cL_law 650 = .ok (.iload_n 3, 1) := by decide +kernel
theorem dL_law_651 : decode cL_law 651 = .ok (.iconst 1, 1) := by decide +kernel
theorem dL_law_652 : decode cL_law 652 = .ok (.iadd, 1) := by decide +kernel
theorem dL_law_653 : decode cL_law 653 = .ok (.iaload, 1) := by decide +kernel
theorem dL_law_654 : decode cL_law 654 = .ok (.aload_n 0, 1) := by decide +kernel
theorem dL_law_655 : decode cL_law 655 = .ok (.iload_n 3, 1) := by decide +kernel
theorem dL_law_656 : decode cL_law 656 = .ok (.iconst 2, 1) := by decide +kernel
theorem dL_law_657 : decode cL_law 657 = .ok (.iadd, 1) := by decide +kernel
theorem dL_law_658 : decode cL_law 658 = .ok (.iaload, 1) := by decide +kernel
theorem dL_law_659 : decode cL_law 659 = .ok (.aload_n 0, 1) := by decide +kernel
theorem dL_law_660 : decode cL_law 660 = .ok (.iload_n 3, 1) := by decide +kernel
theorem dL_law_661 : decode cL_law 661 = .ok (.iconst 3, 1) := by decide +kernel
theorem dL_law_662 : decode cL_law 662 = .ok (.iadd, 1) := by decide +kernel
theorem dL_law_663 : decode cL_law 663 = .ok (.iaload, 1) := by decide +kernel
theorem dL_law_664 : decode cL_law 664 = .ok (.invokevirtual 86, 3) := by decide +kernel
theorem dL_law_667 : decode cL_law 667 = .ok (.aload_n 2, 1) := by decide +kernel
theorem dL_law_668 : decode cL_law 668 = .ok (.aload_n 0, 1) := by decide +kernel
theorem dL_law_669 : decode cL_law 669 = .ok (.iload_n 3, 1) := by decide +kernel
theorem dL_law_670 : decode cL_law 670 = .ok (.iconst 1, 1) := by decide +kernel
theorem dL_law_671 : decode cL_law 671 = .ok (.iadd, 1) := by decide +kernel
theorem dL_law_672 : decode cL_law 672 = .ok (.iaload, 1) := by decide +kernel
theorem dL_law_673 : decode cL_law 673 = .ok (.aload_n 0, 1) := by decide +kernel
theorem dL_law_674 : decode cL_law 674 = .ok (.iload_n 3, 1) := by decide +kernel
theorem dL_law_675 : decode cL_law 675 = .ok (.iconst 2, 1) := by decide +kernel
theorem dL_law_676 : decode cL_law 676 = .ok (.iadd, 1) := by decide +kernel
theorem dL_law_677 : decode cL_law 677 = .ok (.iaload, 1) := by decide +kernel
theorem dL_law_678 : decode cL_law 678 = .ok (.aload_n 0, 1) := by decide +kernel
theorem dL_law_679 : decode cL_law 679 = .ok (.iload_n 3, 1) := by decide +kernel
theorem dL_law_680 : decode cL_law 680 = .ok (.iconst 3, 1) := by decide +kernel
theorem dL_law_681 : decode cL_law 681 = .ok (.iadd, 1) := by decide +kernel
theorem dL_law_682 : decode cL_law 682 = .ok (.iaload, 1) := by decide +kernel
theorem dL_law_683 : decode cL_law 683 = .ok (.invokevirtual 89, 3) := by decide +kernel
theorem dL_law_686 : decode cL_law 686 = .ok (.if_icmp .eq 599, 3) := by decide +kernel
theorem dL_law_689 : decode cL_law 689 = .ok (.iconst 0, 1) := by decide +kernel
theorem dL_law_690 : decode cL_law 690 = .ok (.ireturn, 1) := by decide +kernel
theorem dL_law_691 : decode cL_law 691 = .ok (.aload_n 1, 1) := by decide +kernel
theorem dL_law_692 : decode cL_law 692 = .ok (.aload_n 0, 1) := by decide +kernel
theorem dL_law_693 : decode cL_law 693 = .ok (.iload_n 3, 1) := by decide +kernel
theorem dL_law_694 : decode cL_law 694 = .ok (.iconst 1, 1) := by decide +kernel
theorem dL_law_695 : decode cL_law 695 = .ok (.iadd, 1) := by decide +kernel
theorem dL_law_696 : decode cL_law 696 = .ok (.iaload, 1) := by decide +kernel
theorem dL_law_697 : decode cL_law 697 = .ok (.aload_n 0, 1) := by decide +kernel
theorem dL_law_698 : decode cL_law 698 = .ok (.iload_n 3, 1) := by decide +kernel
theorem dL_law_699 : decode cL_law 699 = .ok (.iconst 2, 1) := by decide +kernel
theorem dL_law_700 : decode cL_law 700 = .ok (.iadd, 1) := by decide +kernel
theorem dL_law_701 : decode cL_law 701 = .ok (.iaload, 1) := by decide +kernel
theorem dL_law_702 : decode cL_law 702 = .ok (.invokevirtual 90, 3) := by decide +kernel
theorem dL_law_705 : decode cL_law 705 = .ok (.aload_n 2, 1) := by decide +kernel
theorem dL_law_706 : decode cL_law 706 = .ok (.aload_n 0, 1) := by decide +kernel
theorem dL_law_707 : decode cL_law 707 = .ok (.iload_n 3, 1) := by decide +kernel
theorem dL_law_708 : decode cL_law 708 = .ok (.iconst 1, 1) := by decide +kernel
theorem dL_law_709 : decode cL_law 709 = .ok (.iadd, 1) := by decide +kernel
theorem dL_law_710 : decode cL_law 710 = .ok (.iaload, 1) := by decide +kernel
theorem dL_law_711 : decode cL_law 711 = .ok (.aload_n 0, 1) := by decide +kernel
theorem dL_law_712 : decode cL_law 712 = .ok (.iload_n 3, 1) := by decide +kernel
theorem dL_law_713 : decode cL_law 713 = .ok (.iconst 2, 1) := by decide +kernel
theorem dL_law_714 : decode cL_law 714 = .ok (.iadd, 1) := by decide +kernel
theorem dL_law_715 : decode cL_law 715 = .ok (.iaload, 1) := by decide +kernel
theorem dL_law_716 : decode cL_law 716 = .ok (.invokevirtual 93, 3) := by decide +kernel
theorem dL_law_719 : decode cL_law 719 = .ok (.if_icmp .eq 566, 3) := by decide +kernel
theorem dL_law_722 : decode cL_law 722 = .ok (.iconst 0, 1) := by decide +kernel
theorem dL_law_723 : decode cL_law 723 = .ok (.ireturn, 1) := by decide +kernel
theorem dL_law_724 : decode cL_law 724 = .ok (.aload_n 1, 1) := by decide +kernel
theorem dL_law_725 : decode cL_law 725 = .ok (.aload_n 0, 1) := by decide +kernel
theorem dL_law_726 : decode cL_law 726 = .ok (.iload_n 3, 1) := by decide +kernel
theorem dL_law_727 : decode cL_law 727 = .ok (.iconst 1, 1) := by decide +kernel
theorem dL_law_728 : decode cL_law 728 = .ok (.iadd, 1) := by decide +kernel
theorem dL_law_729 : decode cL_law 729 = .ok (.iaload, 1) := by decide +kernel
theorem dL_law_730 : decode cL_law 730 = .ok (.aload_n 0, 1) := by decide +kernel
theorem dL_law_731 : decode cL_law 731 = .ok (.iload_n 3, 1) := by decide +kernel
theorem dL_law_732 : decode cL_law 732 = .ok (.iconst 2, 1) := by decide +kernel
theorem dL_law_733 : decode cL_law 733 = .ok (.iadd, 1) := by decide +kernel
theorem dL_law_734 : decode cL_law 734 = .ok (.iaload, 1) := by decide +kernel
theorem dL_law_735 : decode cL_law 735 = .ok (.invokevirtual 94, 3) := by decide +kernel
theorem dL_law_738 : decode cL_law 738 = .ok (.aload_n 2, 1) := by decide +kernel
theorem dL_law_739 : decode cL_law 739 = .ok (.aload_n 0, 1) := by decide +kernel
theorem dL_law_740 : decode cL_law 740 = .ok (.iload_n 3, 1) := by decide +kernel
theorem dL_law_741 : decode cL_law 741 = .ok (.iconst 1, 1) := by decide +kernel
theorem dL_law_742 : decode cL_law 742 = .ok (.iadd, 1) := by decide +kernel
theorem dL_law_743 : decode cL_law 743 = .ok (.iaload, 1) := by decide +kernel
theorem dL_law_744 : decode cL_law 744 = .ok (.aload_n 0, 1) := by decide +kernel
theorem dL_law_745 : decode cL_law 745 = .ok (.iload_n 3, 1) := by decide +kernel
theorem dL_law_746 : decode cL_law 746 = .ok (.iconst 2, 1) := by decide +kernel
theorem dL_law_747 : decode cL_law 747 = .ok (.iadd, 1) := by decide +kernel
theorem dL_law_748 : decode cL_law 748 = .ok (.iaload, 1) := by decide +kernel
theorem dL_law_749 : decode cL_law 749 = .ok (.invokevirtual 97, 3) := by decide +kernel
theorem dL_law_752 : decode cL_law 752 = .ok (.if_icmp .eq 533, 3) := by decide +kernel
theorem dL_law_755 : decode cL_law 755 = .ok (.iconst 0, 1) := by decide +kernel
theorem dL_law_756 : decode cL_law 756 = .ok (.ireturn, 1) := by decide +kernel
theorem dL_law_757 : decode cL_law 757 = .ok (.aload_n 1, 1) := by decide +kernel
theorem dL_law_758 : decode cL_law 758 = .ok (.aload_n 0, 1) := by decide +kernel
theorem dL_law_759 : decode cL_law 759 = .ok (.iload_n 3, 1) := by decide +kernel
theorem dL_law_760 : decode cL_law 760 = .ok (.iconst 1, 1) := by decide +kernel
theorem dL_law_761 : decode cL_law 761 = .ok (.iadd, 1) := by decide +kernel
theorem dL_law_762 : decode cL_law 762 = .ok (.iaload, 1) := by decide +kernel
theorem dL_law_763 : decode cL_law 763 = .ok (.aload_n 0, 1) := by decide +kernel
theorem dL_law_764 : decode cL_law 764 = .ok (.iload_n 3, 1) := by decide +kernel
theorem dL_law_765 : decode cL_law 765 = .ok (.iconst 2, 1) := by decide +kernel
theorem dL_law_766 : decode cL_law 766 = .ok (.iadd, 1) := by decide +kernel
theorem dL_law_767 : decode cL_law 767 = .ok (.iaload, 1) := by decide +kernel
theorem dL_law_768 : decode cL_law 768 = .ok (.i2l, 1) := by decide +kernel
theorem dL_law_769 : decode cL_law 769 = .ok (.bipush 32, 2) := by decide +kernel
theorem dL_law_771 : decode cL_law 771 = .ok (.lshl, 1) := by decide +kernel
theorem dL_law_772 : decode cL_law 772 = .ok (.aload_n 0, 1) := by decide +kernel
theorem dL_law_773 : decode cL_law 773 = .ok (.iload_n 3, 1) := by decide +kernel
theorem dL_law_774 : decode cL_law 774 = .ok (.iconst 3, 1) := by decide +kernel
theorem dL_law_775 : decode cL_law 775 = .ok (.iadd, 1) := by decide +kernel
theorem dL_law_776 : decode cL_law 776 = .ok (.iaload, 1) := by decide +kernel
theorem dL_law_777 : decode cL_law 777 = .ok (.i2l, 1) := by decide +kernel
theorem dL_law_778 : decode cL_law 778 = .ok (.ldc2_w 58, 3) := by decide +kernel
theorem dL_law_781 : decode cL_law 781 = .ok (.land, 1) := by decide +kernel
theorem dL_law_782 : decode cL_law 782 = .ok (.lor, 1) := by decide +kernel
theorem dL_law_783 : decode cL_law 783 = .ok (.invokevirtual 98, 3) := by decide +kernel
theorem dL_law_786 : decode cL_law 786 = .ok (.aload_n 2, 1) := by decide +kernel
theorem dL_law_787 : decode cL_law 787 = .ok (.aload_n 0, 1) := by decide +kernel
theorem dL_law_788 : decode cL_law 788 = .ok (.iload_n 3, 1) := by decide +kernel
theorem dL_law_789 : decode cL_law 789 = .ok (.iconst 1, 1) := by decide +kernel
theorem dL_law_790 : decode cL_law 790 = .ok (.iadd, 1) := by decide +kernel
theorem dL_law_791 : decode cL_law 791 = .ok (.iaload, 1) := by decide +kernel
theorem dL_law_792 : decode cL_law 792 = .ok (.aload_n 0, 1) := by decide +kernel
theorem dL_law_793 : decode cL_law 793 = .ok (.iload_n 3, 1) := by decide +kernel
theorem dL_law_794 : decode cL_law 794 = .ok (.iconst 2, 1) := by decide +kernel
theorem dL_law_795 : decode cL_law 795 = .ok (.iadd, 1) := by decide +kernel
theorem dL_law_796 : decode cL_law 796 = .ok (.iaload, 1) := by decide +kernel
theorem dL_law_797 : decode cL_law 797 = .ok (.i2l, 1) := by decide +kernel
theorem dL_law_798 : decode cL_law 798 = .ok (.bipush 32, 2) := by decide +kernel
theorem dL_law_800 : decode cL_law 800 = .ok (.lshl, 1) := by decide +kernel
theorem dL_law_801 : decode cL_law 801 = .ok (.aload_n 0, 1) := by decide +kernel
theorem dL_law_802 : decode cL_law 802 = .ok (.iload_n 3, 1) := by decide +kernel
theorem dL_law_803 : decode cL_law 803 = .ok (.iconst 3, 1) := by decide +kernel
theorem dL_law_804 : decode cL_law 804 = .ok (.iadd, 1) := by decide +kernel
theorem dL_law_805 : decode cL_law 805 = .ok (.iaload, 1) := by decide +kernel
theorem dL_law_806 : decode cL_law 806 = .ok (.i2l, 1) := by decide +kernel
theorem dL_law_807 : decode cL_law 807 = .ok (.ldc2_w 58, 3) := by decide +kernel
theorem dL_law_810 : decode cL_law 810 = .ok (.land, 1) := by decide +kernel
theorem dL_law_811 : decode cL_law 811 = .ok (.lor, 1) := by decide +kernel
theorem dL_law_812 : decode cL_law 812 = .ok (.invokevirtual 101, 3) := by decide +kernel
theorem dL_law_815 : decode cL_law 815 = .ok (.if_icmp .eq 470, 3) := by decide +kernel
theorem dL_law_818 : decode cL_law 818 = .ok (.iconst 0, 1) := by decide +kernel
theorem dL_law_819 : decode cL_law 819 = .ok (.ireturn, 1) := by decide +kernel
theorem dL_law_820 : decode cL_law 820 = .ok (.aload_n 1, 1) := by decide +kernel
theorem dL_law_821 : decode cL_law 821 = .ok (.aload_n 0, 1) := by decide +kernel
theorem dL_law_822 : decode cL_law 822 = .ok (.iload_n 3, 1) := by decide +kernel
theorem dL_law_823 : decode cL_law 823 = .ok (.iconst 1, 1) := by decide +kernel
theorem dL_law_824 : decode cL_law 824 = .ok (.iadd, 1) := by decide +kernel
theorem dL_law_825 : decode cL_law 825 = .ok (.iaload, 1) := by decide +kernel
theorem dL_law_826 : decode cL_law 826 = .ok (.aload_n 0, 1) := by decide +kernel
theorem dL_law_827 : decode cL_law 827 = .ok (.iload_n 3, 1) := by decide +kernel
theorem dL_law_828 : decode cL_law 828 = .ok (.iconst 2, 1) := by decide +kernel
theorem dL_law_829 : decode cL_law 829 = .ok (.iadd, 1) := by decide +kernel
theorem dL_law_830 : decode cL_law 830 = .ok (.iaload, 1) := by decide +kernel
theorem dL_law_831 : decode cL_law 831 = .ok (.aload_n 0, 1) := by decide +kernel
theorem dL_law_832 : decode cL_law 832 = .ok (.iload_n 3, 1) := by decide +kernel
theorem dL_law_833 : decode cL_law 833 = .ok (.iconst 3, 1) := by decide +kernel
theorem dL_law_834 : decode cL_law 834 = .ok (.iadd, 1) := by decide +kernel
theorem dL_law_835 : decode cL_law 835 = .ok (.iaload, 1) := by decide +kernel
theorem dL_law_836 : decode cL_law 836 = .ok (.invokevirtual 102, 3) := by decide +kernel
theorem dL_law_839 : decode cL_law 839 = .ok (.aload_n 2, 1) := by decide +kernel
theorem dL_law_840 : decode cL_law 840 = .ok (.aload_n 0, 1) := by decide +kernel
theorem dL_law_841 : decode cL_law 841 = .ok (.iload_n 3, 1) := by decide +kernel
theorem dL_law_842 : decode cL_law 842 = .ok (.iconst 1, 1) := by decide +kernel
theorem dL_law_843 : decode cL_law 843 = .ok (.iadd, 1) := by decide +kernel
theorem dL_law_844 : decode cL_law 844 = .ok (.iaload, 1) := by decide +kernel
theorem dL_law_845 : decode cL_law 845 = .ok (.aload_n 0, 1) := by decide +kernel
theorem dL_law_846 : decode cL_law 846 = .ok (.iload_n 3, 1) := by decide +kernel
theorem dL_law_847 : decode cL_law 847 = .ok (.iconst 2, 1) := by decide +kernel
theorem dL_law_848 : decode cL_law 848 = .ok (.iadd, 1) := by decide +kernel
theorem dL_law_849 : decode cL_law 849 = .ok (.iaload, 1) := by decide +kernel
theorem dL_law_850 : decode cL_law 850 = .ok (.aload_n 0, 1) := by decide +kernel
theorem dL_law_851 : decode cL_law 851 = .ok (.iload_n 3, 1) := by decide +kernel
theorem dL_law_852 : decode cL_law 852 = .ok (.iconst 3, 1) := by decide +kernel
theorem dL_law_853 : decode cL_law 853 = .ok (.iadd, 1) := by decide +kernel
theorem dL_law_854 : decode cL_law 854 = .ok (.iaload, 1) := by decide +kernel
theorem dL_law_855 : decode cL_law 855 = .ok (.invokevirtual 105, 3) := by decide +kernel
theorem dL_law_858 : decode cL_law 858 = .ok (.if_icmp .eq 427, 3) := by decide +kernel
theorem dL_law_861 : decode cL_law 861 = .ok (.iconst 0, 1) := by decide +kernel
theorem dL_law_862 : decode cL_law 862 = .ok (.ireturn, 1) := by decide +kernel
theorem dL_law_863 : decode cL_law 863 = .ok (.aload_n 1, 1) := by decide +kernel
theorem dL_law_864 : decode cL_law 864 = .ok (.aload_n 0, 1) := by decide +kernel
theorem dL_law_865 : decode cL_law 865 = .ok (.iload_n 3, 1) := by decide +kernel
theorem dL_law_866 : decode cL_law 866 = .ok (.iconst 1, 1) := by decide +kernel
theorem dL_law_867 : decode cL_law 867 = .ok (.iadd, 1) := by decide +kernel
theorem dL_law_868 : decode cL_law 868 = .ok (.iaload, 1) := by decide +kernel
theorem dL_law_869 : decode cL_law 869 = .ok (.invokevirtual 106, 3) := by decide +kernel
theorem dL_law_872 : decode cL_law 872 = .ok (.aload_n 2, 1) := by decide +kernel
theorem dL_law_873 : decode cL_law 873 = .ok (.aload_n 0, 1) := by decide +kernel
theorem dL_law_874 : decode cL_law 874 = .ok (.iload_n 3, 1) := by decide +kernel
theorem dL_law_875 : decode cL_law 875 = .ok (.iconst 1, 1) := by decide +kernel
theorem dL_law_876 : decode cL_law 876 = .ok (.iadd, 1) := by decide +kernel
theorem dL_law_877 : decode cL_law 877 = .ok (.iaload, 1) := by decide +kernel
theorem dL_law_878 : decode cL_law 878 = .ok (.invokevirtual 109, 3) := by decide +kernel
theorem dL_law_881 : decode cL_law 881 = .ok (.if_icmp .eq 404, 3) := by decide +kernel
theorem dL_law_884 : decode cL_law 884 = .ok (.iconst 0, 1) := by decide +kernel
theorem dL_law_885 : decode cL_law 885 = .ok (.ireturn, 1) := by decide +kernel
theorem dL_law_886 : decode cL_law 886 = .ok (.aload_n 1, 1) := by decide +kernel
theorem dL_law_887 : decode cL_law 887 = .ok (.aload_n 0, 1) := by decide +kernel
theorem dL_law_888 : decode cL_law 888 = .ok (.iload_n 3, 1) := by decide +kernel
theorem dL_law_889 : decode cL_law 889 = .ok (.iconst 1, 1) := by decide +kernel
theorem dL_law_890 : decode cL_law 890 = .ok (.iadd, 1) := by decide +kernel
theorem dL_law_891 : decode cL_law 891 = .ok (.iaload, 1) := by decide +kernel
theorem dL_law_892 : decode cL_law 892 = .ok (.aload_n 0, 1) := by decide +kernel
theorem dL_law_893 : decode cL_law 893 = .ok (.iload_n 3, 1) := by decide +kernel
theorem dL_law_894 : decode cL_law 894 = .ok (.iconst 2, 1) := by decide +kernel
theorem dL_law_895 : decode cL_law 895 = .ok (.iadd, 1) := by decide +kernel
theorem dL_law_896 : decode cL_law 896 = .ok (.iaload, 1) := by decide +kernel
theorem dL_law_897 : decode cL_law 897 = .ok (.invokevirtual 110, 3) := by decide +kernel
theorem dL_law_900 : decode cL_law 900 = .ok (.aload_n 2, 1) := by decide +kernel
theorem dL_law_901 : decode cL_law 901 = .ok (.aload_n 0, 1) := by decide +kernel
theorem dL_law_902 : decode cL_law 902 = .ok (.iload_n 3, 1) := by decide +kernel
theorem dL_law_903 : decode cL_law 903 = .ok (.iconst 1, 1) := by decide +kernel
theorem dL_law_904 : decode cL_law 904 = .ok (.iadd, 1) := by decide +kernel
theorem dL_law_905 : decode cL_law 905 = .ok (.iaload, 1) := by decide +kernel
theorem dL_law_906 : decode cL_law 906 = .ok (.aload_n 0, 1) := by decide +kernel
theorem dL_law_907 : decode cL_law 907 = .ok (.iload_n 3, 1) := by decide +kernel
theorem dL_law_908 : decode cL_law 908 = .ok (.iconst 2, 1) := by decide +kernel
theorem dL_law_909 : decode cL_law 909 = .ok (.iadd, 1) := by decide +kernel
theorem dL_law_910 : decode cL_law 910 = .ok (.iaload, 1) := by decide +kernel
theorem dL_law_911 : decode cL_law 911 = .ok (.invokevirtual 113, 3) := by decide +kernel
theorem dL_law_914 : decode cL_law 914 = .ok (.if_icmp .eq 371, 3) := by decide +kernel
theorem dL_law_917 : decode cL_law 917 = .ok (.iconst 0, 1) := by decide +kernel
theorem dL_law_918 : decode cL_law 918 = .ok (.ireturn, 1) := by decide +kernel
theorem dL_law_919 : decode cL_law 919 = .ok (.aload_n 1, 1) := by decide +kernel
theorem dL_law_920 : decode cL_law 920 = .ok (.aload_n 0, 1) := by decide +kernel
theorem dL_law_921 : decode cL_law 921 = .ok (.iload_n 3, 1) := by decide +kernel
theorem dL_law_922 : decode cL_law 922 = .ok (.iconst 1, 1) := by decide +kernel
theorem dL_law_923 : decode cL_law 923 = .ok (.iadd, 1) := by decide +kernel
theorem dL_law_924 : decode cL_law 924 = .ok (.iaload, 1) := by decide +kernel
theorem dL_law_925 : decode cL_law 925 = .ok (.aload_n 0, 1) := by decide +kernel
theorem dL_law_926 : decode cL_law 926 = .ok (.iload_n 3, 1) := by decide +kernel
theorem dL_law_927 : decode cL_law 927 = .ok (.iconst 2, 1) := by decide +kernel
theorem dL_law_928 : decode cL_law 928 = .ok (.iadd, 1) := by decide +kernel
theorem dL_law_929 : decode cL_law 929 = .ok (.iaload, 1) := by decide +kernel
theorem dL_law_930 : decode cL_law 930 = .ok (.aload_n 0, 1) := by decide +kernel
theorem dL_law_931 : decode cL_law 931 = .ok (.iload_n 3, 1) := by decide +kernel
theorem dL_law_932 : decode cL_law 932 = .ok (.iconst 3, 1) := by decide +kernel
theorem dL_law_933 : decode cL_law 933 = .ok (.iadd, 1) := by decide +kernel
theorem dL_law_934 : decode cL_law 934 = .ok (.iaload, 1) := by decide +kernel
theorem dL_law_935 : decode cL_law 935 = .ok (.invokevirtual 114, 3) := by decide +kernel
theorem dL_law_938 : decode cL_law 938 = .ok (.aload_n 2, 1) := by decide +kernel
theorem dL_law_939 : decode cL_law 939 = .ok (.aload_n 0, 1) := by decide +kernel
theorem dL_law_940 : decode cL_law 940 = .ok (.iload_n 3, 1) := by decide +kernel
theorem dL_law_941 : decode cL_law 941 = .ok (.iconst 1, 1) := by decide +kernel
theorem dL_law_942 : decode cL_law 942 = .ok (.iadd, 1) := by decide +kernel
theorem dL_law_943 : decode cL_law 943 = .ok (.iaload, 1) := by decide +kernel
theorem dL_law_944 : decode cL_law 944 = .ok (.aload_n 0, 1) := by decide +kernel
theorem dL_law_945 : decode cL_law 945 = .ok (.iload_n 3, 1) := by decide +kernel
theorem dL_law_946 : decode cL_law 946 = .ok (.iconst 2, 1) := by decide +kernel
theorem dL_law_947 : decode cL_law 947 = .ok (.iadd, 1) := by decide +kernel
theorem dL_law_948 : decode cL_law 948 = .ok (.iaload, 1) := by decide +kernel
theorem dL_law_949 : decode cL_law 949 = .ok (.aload_n 0, 1) := by decide +kernel
theorem dL_law_950 : decode cL_law 950 = .ok (.iload_n 3, 1) := by decide +kernel
theorem dL_law_951 : decode cL_law 951 = .ok (.iconst 3, 1) := by decide +kernel
theorem dL_law_952 : decode cL_law 952 = .ok (.iadd, 1) := by decide +kernel
theorem dL_law_953 : decode cL_law 953 = .ok (.iaload, 1) := by decide +kernel
theorem dL_law_954 : decode cL_law 954 = .ok (.invokevirtual 117, 3) := by decide +kernel
theorem dL_law_957 : decode cL_law 957 = .ok (.if_icmp .eq 328, 3) := by decide +kernel
theorem dL_law_960 : decode cL_law 960 = .ok (.iconst 0, 1) := by decide +kernel
theorem dL_law_961 : decode cL_law 961 = .ok (.ireturn, 1) := by decide +kernel
theorem dL_law_962 : decode cL_law 962 = .ok (.aload_n 1, 1) := by decide +kernel
theorem dL_law_963 : decode cL_law 963 = .ok (.aload_n 0, 1) := by decide +kernel
theorem dL_law_964 : decode cL_law 964 = .ok (.iload_n 3, 1) := by decide +kernel
theorem dL_law_965 : decode cL_law 965 = .ok (.iconst 1, 1) := by decide +kernel
theorem dL_law_966 : decode cL_law 966 = .ok (.iadd, 1) := by decide +kernel
theorem dL_law_967 : decode cL_law 967 = .ok (.iaload, 1) := by decide +kernel
theorem dL_law_968 : decode cL_law 968 = .ok (.aload_n 0, 1) := by decide +kernel
theorem dL_law_969 : decode cL_law 969 = .ok (.iload_n 3, 1) := by decide +kernel
theorem dL_law_970 : decode cL_law 970 = .ok (.iconst 2, 1) := by decide +kernel
theorem dL_law_971 : decode cL_law 971 = .ok (.iadd, 1) := by decide +kernel
theorem dL_law_972 : decode cL_law 972 = .ok (.iaload, 1) := by decide +kernel
theorem dL_law_973 : decode cL_law 973 = .ok (.aload_n 0, 1) := by decide +kernel
theorem dL_law_974 : decode cL_law 974 = .ok (.iload_n 3, 1) := by decide +kernel
theorem dL_law_975 : decode cL_law 975 = .ok (.iconst 3, 1) := by decide +kernel
theorem dL_law_976 : decode cL_law 976 = .ok (.iadd, 1) := by decide +kernel
theorem dL_law_977 : decode cL_law 977 = .ok (.iaload, 1) := by decide +kernel
theorem dL_law_978 : decode cL_law 978 = .ok (.invokevirtual 118, 3) := by decide +kernel
theorem dL_law_981 : decode cL_law 981 = .ok (.aload_n 2, 1) := by decide +kernel
theorem dL_law_982 : decode cL_law 982 = .ok (.aload_n 0, 1) := by decide +kernel
theorem dL_law_983 : decode cL_law 983 = .ok (.iload_n 3, 1) := by decide +kernel
theorem dL_law_984 : decode cL_law 984 = .ok (.iconst 1, 1) := by decide +kernel
theorem dL_law_985 : decode cL_law 985 = .ok (.iadd, 1) := by decide +kernel
theorem dL_law_986 : decode cL_law 986 = .ok (.iaload, 1) := by decide +kernel
theorem dL_law_987 : decode cL_law 987 = .ok (.aload_n 0, 1) := by decide +kernel
theorem dL_law_988 : decode cL_law 988 = .ok (.iload_n 3, 1) := by decide +kernel
theorem dL_law_989 : decode cL_law 989 = .ok (.iconst 2, 1) := by decide +kernel
theorem dL_law_990 : decode cL_law 990 = .ok (.iadd, 1) := by decide +kernel
theorem dL_law_991 : decode cL_law 991 = .ok (.iaload, 1) := by decide +kernel
theorem dL_law_992 : decode cL_law 992 = .ok (.aload_n 0, 1) := by decide +kernel
theorem dL_law_993 : decode cL_law 993 = .ok (.iload_n 3, 1) := by decide +kernel
theorem dL_law_994 : decode cL_law 994 = .ok (.iconst 3, 1) := by decide +kernel
theorem dL_law_995 : decode cL_law 995 = .ok (.iadd, 1) := by decide +kernel
theorem dL_law_996 : decode cL_law 996 = .ok (.iaload, 1) := by decide +kernel
theorem dL_law_997 : decode cL_law 997 = .ok (.invokevirtual 121, 3) := by decide +kernel
theorem dL_law_1000 : decode cL_law 1000 = .ok (.if_icmp .eq 285, 3) := by decide +kernel
theorem dL_law_1003 : decode cL_law 1003 = .ok (.iconst 0, 1) := by decide +kernel
theorem dL_law_1004 : decode cL_law 1004 = .ok (.ireturn, 1) := by decide +kernel
theorem dL_law_1005 : decode cL_law 1005 = .ok (.aload_n 1, 1) := by decide +kernel
theorem dL_law_1006 : decode cL_law 1006 = .ok (.aload_n 0, 1) := by decide +kernel
theorem dL_law_1007 : decode cL_law 1007 = .ok (.iload_n 3, 1) := by decide +kernel
theorem dL_law_1008 : decode cL_law 1008 = .ok (.iconst 1, 1) := by decide +kernel
theorem dL_law_1009 : decode cL_law 1009 = .ok (.iadd, 1) := by decide +kernel
theorem dL_law_1010 : decode cL_law 1010 = .ok (.iaload, 1) := by decide +kernel
theorem dL_law_1011 : decode cL_law 1011 = .ok (.invokevirtual 122, 3) := by decide +kernel
theorem dL_law_1014 : decode cL_law 1014 = .ok (.aload_n 2, 1) := by decide +kernel
theorem dL_law_1015 : decode cL_law 1015 = .ok (.aload_n 0, 1) := by decide +kernel
theorem dL_law_1016 : decode cL_law 1016 = .ok (.iload_n 3, 1) := by decide +kernel
theorem dL_law_1017 : decode cL_law 1017 = .ok (.iconst 1, 1) := by decide +kernel
theorem dL_law_1018 : decode cL_law 1018 = .ok (.iadd, 1) := by decide +kernel
theorem dL_law_1019 : decode cL_law 1019 = .ok (.iaload, 1) := by decide +kernel
theorem dL_law_1020 : decode cL_law 1020 = .ok (.invokevirtual 125, 3) := by decide +kernel
theorem dL_law_1023 : decode cL_law 1023 = .ok (.if_icmp .eq 262, 3) := by decide +kernel
theorem dL_law_1026 : decode cL_law 1026 = .ok (.iconst 0, 1) := by decide +kernel
theorem dL_law_1027 : decode cL_law 1027 = .ok (.ireturn, 1) := by decide +kernel
theorem dL_law_1028 : decode cL_law 1028 = .ok (.aload_n 1, 1) := by decide +kernel
theorem dL_law_1029 : decode cL_law 1029 = .ok (.aload_n 0, 1) := by decide +kernel
theorem dL_law_1030 : decode cL_law 1030 = .ok (.iload_n 3, 1) := by decide +kernel
theorem dL_law_1031 : decode cL_law 1031 = .ok (.iconst 1, 1) := by decide +kernel
theorem dL_law_1032 : decode cL_law 1032 = .ok (.iadd, 1) := by decide +kernel
theorem dL_law_1033 : decode cL_law 1033 = .ok (.iaload, 1) := by decide +kernel
theorem dL_law_1034 : decode cL_law 1034 = .ok (.aload_n 0, 1) := by decide +kernel
theorem dL_law_1035 : decode cL_law 1035 = .ok (.iload_n 3, 1) := by decide +kernel
theorem dL_law_1036 : decode cL_law 1036 = .ok (.iconst 2, 1) := by decide +kernel
theorem dL_law_1037 : decode cL_law 1037 = .ok (.iadd, 1) := by decide +kernel
theorem dL_law_1038 : decode cL_law 1038 = .ok (.iaload, 1) := by decide +kernel
theorem dL_law_1039 : decode cL_law 1039 = .ok (.aload_n 0, 1) := by decide +kernel
theorem dL_law_1040 : decode cL_law 1040 = .ok (.iload_n 3, 1) := by decide +kernel
theorem dL_law_1041 : decode cL_law 1041 = .ok (.iconst 3, 1) := by decide +kernel
theorem dL_law_1042 : decode cL_law 1042 = .ok (.iadd, 1) := by decide +kernel
theorem dL_law_1043 : decode cL_law 1043 = .ok (.iaload, 1) := by decide +kernel
theorem dL_law_1044 : decode cL_law 1044 = .ok (.invokevirtual 126, 3) := by decide +kernel
theorem dL_law_1047 : decode cL_law 1047 = .ok (.aload_n 2, 1) := by decide +kernel
theorem dL_law_1048 : decode cL_law 1048 = .ok (.aload_n 0, 1) := by decide +kernel
theorem dL_law_1049 : decode cL_law 1049 = .ok (.iload_n 3, 1) := by decide +kernel
theorem dL_law_1050 : decode cL_law 1050 = .ok (.iconst 1, 1) := by decide +kernel
theorem dL_law_1051 : decode cL_law 1051 = .ok (.iadd, 1) := by decide +kernel
theorem dL_law_1052 : decode cL_law 1052 = .ok (.iaload, 1) := by decide +kernel
theorem dL_law_1053 : decode cL_law 1053 = .ok (.aload_n 0, 1) := by decide +kernel
theorem dL_law_1054 : decode cL_law 1054 = .ok (.iload_n 3, 1) := by decide +kernel
theorem dL_law_1055 : decode cL_law 1055 = .ok (.iconst 2, 1) := by decide +kernel
theorem dL_law_1056 : decode cL_law 1056 = .ok (.iadd, 1) := by decide +kernel
theorem dL_law_1057 : decode cL_law 1057 = .ok (.iaload, 1) := by decide +kernel
theorem dL_law_1058 : decode cL_law 1058 = .ok (.aload_n 0, 1) := by decide +kernel
theorem dL_law_1059 : decode cL_law 1059 = .ok (.iload_n 3, 1) := by decide +kernel
theorem dL_law_1060 : decode cL_law 1060 = .ok (.iconst 3, 1) := by decide +kernel
theorem dL_law_1061 : decode cL_law 1061 = .ok (.iadd, 1) := by decide +kernel
theorem dL_law_1062 : decode cL_law 1062 = .ok (.iaload, 1) := by decide +kernel
theorem dL_law_1063 : decode cL_law 1063 = .ok (.invokevirtual 129, 3) := by decide +kernel
theorem dL_law_1066 : decode cL_law 1066 = .ok (.if_icmp .eq 219, 3) := by decide +kernel
theorem dL_law_1069 : decode cL_law 1069 = .ok (.iconst 0, 1) := by decide +kernel
theorem dL_law_1070 : decode cL_law 1070 = .ok (.ireturn, 1) := by decide +kernel
theorem dL_law_1071 : decode cL_law 1071 = .ok (.aload_n 1, 1) := by decide +kernel
theorem dL_law_1072 : decode cL_law 1072 = .ok (.aload_n 0, 1) := by decide +kernel
theorem dL_law_1073 : decode cL_law 1073 = .ok (.iload_n 3, 1) := by decide +kernel
theorem dL_law_1074 : decode cL_law 1074 = .ok (.iconst 1, 1) := by decide +kernel
theorem dL_law_1075 : decode cL_law 1075 = .ok (.iadd, 1) := by decide +kernel
theorem dL_law_1076 : decode cL_law 1076 = .ok (.iaload, 1) := by decide +kernel
theorem dL_law_1077 : decode cL_law 1077 = .ok (.aload_n 0, 1) := by decide +kernel
theorem dL_law_1078 : decode cL_law 1078 = .ok (.iload_n 3, 1) := by decide +kernel
theorem dL_law_1079 : decode cL_law 1079 = .ok (.iconst 2, 1) := by decide +kernel
theorem dL_law_1080 : decode cL_law 1080 = .ok (.iadd, 1) := by decide +kernel
theorem dL_law_1081 : decode cL_law 1081 = .ok (.iaload, 1) := by decide +kernel
theorem dL_law_1082 : decode cL_law 1082 = .ok (.aload_n 0, 1) := by decide +kernel
theorem dL_law_1083 : decode cL_law 1083 = .ok (.iload_n 3, 1) := by decide +kernel
theorem dL_law_1084 : decode cL_law 1084 = .ok (.iconst 3, 1) := by decide +kernel
theorem dL_law_1085 : decode cL_law 1085 = .ok (.iadd, 1) := by decide +kernel
theorem dL_law_1086 : decode cL_law 1086 = .ok (.iaload, 1) := by decide +kernel
theorem dL_law_1087 : decode cL_law 1087 = .ok (.invokevirtual 130, 3) := by decide +kernel
theorem dL_law_1090 : decode cL_law 1090 = .ok (.aload_n 2, 1) := by decide +kernel
theorem dL_law_1091 : decode cL_law 1091 = .ok (.aload_n 0, 1) := by decide +kernel
theorem dL_law_1092 : decode cL_law 1092 = .ok (.iload_n 3, 1) := by decide +kernel
theorem dL_law_1093 : decode cL_law 1093 = .ok (.iconst 1, 1) := by decide +kernel
theorem dL_law_1094 : decode cL_law 1094 = .ok (.iadd, 1) := by decide +kernel
theorem dL_law_1095 : decode cL_law 1095 = .ok (.iaload, 1) := by decide +kernel
theorem dL_law_1096 : decode cL_law 1096 = .ok (.aload_n 0, 1) := by decide +kernel
theorem dL_law_1097 : decode cL_law 1097 = .ok (.iload_n 3, 1) := by decide +kernel
theorem dL_law_1098 : decode cL_law 1098 = .ok (.iconst 2, 1) := by decide +kernel
theorem dL_law_1099 : decode cL_law 1099 = .ok (.iadd, 1) := by decide +kernel
theorem dL_law_1100 : decode cL_law 1100 = .ok (.iaload, 1) := by decide +kernel
theorem dL_law_1101 : decode cL_law 1101 = .ok (.aload_n 0, 1) := by decide +kernel
theorem dL_law_1102 : decode cL_law 1102 = .ok (.iload_n 3, 1) := by decide +kernel
theorem dL_law_1103 : decode cL_law 1103 = .ok (.iconst 3, 1) := by decide +kernel
theorem dL_law_1104 : decode cL_law 1104 = .ok (.iadd, 1) := by decide +kernel
theorem dL_law_1105 : decode cL_law 1105 = .ok (.iaload, 1) := by decide +kernel
theorem dL_law_1106 : decode cL_law 1106 = .ok (.invokevirtual 133, 3) := by decide +kernel
theorem dL_law_1109 : decode cL_law 1109 = .ok (.if_icmp .eq 176, 3) := by decide +kernel
theorem dL_law_1112 : decode cL_law 1112 = .ok (.iconst 0, 1) := by decide +kernel
theorem dL_law_1113 : decode cL_law 1113 = .ok (.ireturn, 1) := by decide +kernel
theorem dL_law_1114 : decode cL_law 1114 = .ok (.aload_n 1, 1) := by decide +kernel
theorem dL_law_1115 : decode cL_law 1115 = .ok (.aload_n 0, 1) := by decide +kernel
theorem dL_law_1116 : decode cL_law 1116 = .ok (.iload_n 3, 1) := by decide +kernel
theorem dL_law_1117 : decode cL_law 1117 = .ok (.iconst 1, 1) := by decide +kernel
theorem dL_law_1118 : decode cL_law 1118 = .ok (.iadd, 1) := by decide +kernel
theorem dL_law_1119 : decode cL_law 1119 = .ok (.iaload, 1) := by decide +kernel
theorem dL_law_1120 : decode cL_law 1120 = .ok (.aload_n 0, 1) := by decide +kernel
theorem dL_law_1121 : decode cL_law 1121 = .ok (.iload_n 3, 1) := by decide +kernel
theorem dL_law_1122 : decode cL_law 1122 = .ok (.iconst 2, 1) := by decide +kernel
theorem dL_law_1123 : decode cL_law 1123 = .ok (.iadd, 1) := by decide +kernel
theorem dL_law_1124 : decode cL_law 1124 = .ok (.iaload, 1) := by decide +kernel
theorem dL_law_1125 : decode cL_law 1125 = .ok (.invokevirtual 134, 3) := by decide +kernel
theorem dL_law_1128 : decode cL_law 1128 = .ok (.aload_n 2, 1) := by decide +kernel
theorem dL_law_1129 : decode cL_law 1129 = .ok (.aload_n 0, 1) := by decide +kernel
theorem dL_law_1130 : decode cL_law 1130 = .ok (.iload_n 3, 1) := by decide +kernel
theorem dL_law_1131 : decode cL_law 1131 = .ok (.iconst 1, 1) := by decide +kernel
theorem dL_law_1132 : decode cL_law 1132 = .ok (.iadd, 1) := by decide +kernel
theorem dL_law_1133 : decode cL_law 1133 = .ok (.iaload, 1) := by decide +kernel
theorem dL_law_1134 : decode cL_law 1134 = .ok (.aload_n 0, 1) := by decide +kernel
theorem dL_law_1135 : decode cL_law 1135 = .ok (.iload_n 3, 1) := by decide +kernel
theorem dL_law_1136 : decode cL_law 1136 = .ok (.iconst 2, 1) := by decide +kernel
theorem dL_law_1137 : decode cL_law 1137 = .ok (.iadd, 1) := by decide +kernel
theorem dL_law_1138 : decode cL_law 1138 = .ok (.iaload, 1) := by decide +kernel
theorem dL_law_1139 : decode cL_law 1139 = .ok (.invokevirtual 137, 3) := by decide +kernel
theorem dL_law_1142 : decode cL_law 1142 = .ok (.if_icmp .eq 143, 3) := by decide +kernel
theorem dL_law_1145 : decode cL_law 1145 = .ok (.iconst 0, 1) := by decide +kernel
theorem dL_law_1146 : decode cL_law 1146 = .ok (.ireturn, 1) := by decide +kernel
theorem dL_law_1147 : decode cL_law 1147 = .ok (.aload_n 1, 1) := by decide +kernel
theorem dL_law_1148 : decode cL_law 1148 = .ok (.aload_n 0, 1) := by decide +kernel
theorem dL_law_1149 : decode cL_law 1149 = .ok (.iload_n 3, 1) := by decide +kernel
theorem dL_law_1150 : decode cL_law 1150 = .ok (.iconst 1, 1) := by decide +kernel
theorem dL_law_1151 : decode cL_law 1151 = .ok (.iadd, 1) := by decide +kernel
theorem dL_law_1152 : decode cL_law 1152 = .ok (.iaload, 1) := by decide +kernel
theorem dL_law_1153 : decode cL_law 1153 = .ok (.invokevirtual 138, 3) := by decide +kernel
theorem dL_law_1156 : decode cL_law 1156 = .ok (.aload_n 2, 1) := by decide +kernel
theorem dL_law_1157 : decode cL_law 1157 = .ok (.aload_n 0, 1) := by decide +kernel
theorem dL_law_1158 : decode cL_law 1158 = .ok (.iload_n 3, 1) := by decide +kernel
theorem dL_law_1159 : decode cL_law 1159 = .ok (.iconst 1, 1) := by decide +kernel
theorem dL_law_1160 : decode cL_law 1160 = .ok (.iadd, 1) := by decide +kernel
theorem dL_law_1161 : decode cL_law 1161 = .ok (.iaload, 1) := by decide +kernel
theorem dL_law_1162 : decode cL_law 1162 = .ok (.invokevirtual 141, 3) := by decide +kernel
theorem dL_law_1165 : decode cL_law 1165 = .ok (.if_icmp .eq 120, 3) := by decide +kernel
theorem dL_law_1168 : decode cL_law 1168 = .ok (.iconst 0, 1) := by decide +kernel
theorem dL_law_1169 : decode cL_law 1169 = .ok (.ireturn, 1) := by decide +kernel
theorem dL_law_1170 : decode cL_law 1170 = .ok (.aload_n 1, 1) := by decide +kernel
theorem dL_law_1171 : decode cL_law 1171 = .ok (.aload_n 0, 1) := by decide +kernel
theorem dL_law_1172 : decode cL_law 1172 = .ok (.iload_n 3, 1) := by decide +kernel
theorem dL_law_1173 : decode cL_law 1173 = .ok (.iconst 1, 1) := by decide +kernel
theorem dL_law_1174 : decode cL_law 1174 = .ok (.iadd, 1) := by decide +kernel
theorem dL_law_1175 : decode cL_law 1175 = .ok (.iaload, 1) := by decide +kernel
theorem dL_law_1176 : decode cL_law 1176 = .ok (.aload_n 0, 1) := by decide +kernel
theorem dL_law_1177 : decode cL_law 1177 = .ok (.iload_n 3, 1) := by decide +kernel
theorem dL_law_1178 : decode cL_law 1178 = .ok (.iconst 2, 1) := by decide +kernel
theorem dL_law_1179 : decode cL_law 1179 = .ok (.iadd, 1) := by decide +kernel
theorem dL_law_1180 : decode cL_law 1180 = .ok (.iaload, 1) := by decide +kernel
theorem dL_law_1181 : decode cL_law 1181 = .ok (.invokevirtual 142, 3) := by decide +kernel
theorem dL_law_1184 : decode cL_law 1184 = .ok (.aload_n 2, 1) := by decide +kernel
theorem dL_law_1185 : decode cL_law 1185 = .ok (.aload_n 0, 1) := by decide +kernel
theorem dL_law_1186 : decode cL_law 1186 = .ok (.iload_n 3, 1) := by decide +kernel
theorem dL_law_1187 : decode cL_law 1187 = .ok (.iconst 1, 1) := by decide +kernel
theorem dL_law_1188 : decode cL_law 1188 = .ok (.iadd, 1) := by decide +kernel
theorem dL_law_1189 : decode cL_law 1189 = .ok (.iaload, 1) := by decide +kernel
theorem dL_law_1190 : decode cL_law 1190 = .ok (.aload_n 0, 1) := by decide +kernel
theorem dL_law_1191 : decode cL_law 1191 = .ok (.iload_n 3, 1) := by decide +kernel
theorem dL_law_1192 : decode cL_law 1192 = .ok (.iconst 2, 1) := by decide +kernel
theorem dL_law_1193 : decode cL_law 1193 = .ok (.iadd, 1) := by decide +kernel
theorem dL_law_1194 : decode cL_law 1194 = .ok (.iaload, 1) := by decide +kernel
theorem dL_law_1195 : decode cL_law 1195 = .ok (.invokevirtual 145, 3) := by decide +kernel
theorem dL_law_1198 : decode cL_law 1198 = .ok (.if_icmp .eq 87, 3) := by decide +kernel
theorem dL_law_1201 : decode cL_law 1201 = .ok (.iconst 0, 1) := by decide +kernel
theorem dL_law_1202 : decode cL_law 1202 = .ok (.ireturn, 1) := by decide +kernel
theorem dL_law_1203 : decode cL_law 1203 = .ok (.aload_n 1, 1) := by decide +kernel
theorem dL_law_1204 : decode cL_law 1204 = .ok (.aload_n 0, 1) := by decide +kernel
theorem dL_law_1205 : decode cL_law 1205 = .ok (.iload_n 3, 1) := by decide +kernel
theorem dL_law_1206 : decode cL_law 1206 = .ok (.iconst 1, 1) := by decide +kernel
theorem dL_law_1207 : decode cL_law 1207 = .ok (.iadd, 1) := by decide +kernel
theorem dL_law_1208 : decode cL_law 1208 = .ok (.iaload, 1) := by decide +kernel
theorem dL_law_1209 : decode cL_law 1209 = .ok (.aload_n 0, 1) := by decide +kernel
theorem dL_law_1210 : decode cL_law 1210 = .ok (.iload_n 3, 1) := by decide +kernel
theorem dL_law_1211 : decode cL_law 1211 = .ok (.iconst 2, 1) := by decide +kernel
theorem dL_law_1212 : decode cL_law 1212 = .ok (.iadd, 1) := by decide +kernel
theorem dL_law_1213 : decode cL_law 1213 = .ok (.iaload, 1) := by decide +kernel
theorem dL_law_1214 : decode cL_law 1214 = .ok (.aload_n 0, 1) := by decide +kernel
theorem dL_law_1215 : decode cL_law 1215 = .ok (.iload_n 3, 1) := by decide +kernel
theorem dL_law_1216 : decode cL_law 1216 = .ok (.iconst 3, 1) := by decide +kernel
theorem dL_law_1217 : decode cL_law 1217 = .ok (.iadd, 1) := by decide +kernel
theorem dL_law_1218 : decode cL_law 1218 = .ok (.iaload, 1) := by decide +kernel
theorem dL_law_1219 : decode cL_law 1219 = .ok (.invokevirtual 146, 3) := by decide +kernel
theorem dL_law_1222 : decode cL_law 1222 = .ok (.aload_n 2, 1) := by decide +kernel
theorem dL_law_1223 : decode cL_law 1223 = .ok (.aload_n 0, 1) := by decide +kernel
theorem dL_law_1224 : decode cL_law 1224 = .ok (.iload_n 3, 1) := by decide +kernel
theorem dL_law_1225 : decode cL_law 1225 = .ok (.iconst 1, 1) := by decide +kernel
theorem dL_law_1226 : decode cL_law 1226 = .ok (.iadd, 1) := by decide +kernel
theorem dL_law_1227 : decode cL_law 1227 = .ok (.iaload, 1) := by decide +kernel
theorem dL_law_1228 : decode cL_law 1228 = .ok (.aload_n 0, 1) := by decide +kernel
theorem dL_law_1229 : decode cL_law 1229 = .ok (.iload_n 3, 1) := by decide +kernel
theorem dL_law_1230 : decode cL_law 1230 = .ok (.iconst 2, 1) := by decide +kernel
theorem dL_law_1231 : decode cL_law 1231 = .ok (.iadd, 1) := by decide +kernel
theorem dL_law_1232 : decode cL_law 1232 = .ok (.iaload, 1) := by decide +kernel
theorem dL_law_1233 : decode cL_law 1233 = .ok (.aload_n 0, 1) := by decide +kernel
theorem dL_law_1234 : decode cL_law 1234 = .ok (.iload_n 3, 1) := by decide +kernel
theorem dL_law_1235 : decode cL_law 1235 = .ok (.iconst 3, 1) := by decide +kernel
theorem dL_law_1236 : decode cL_law 1236 = .ok (.iadd, 1) := by decide +kernel
theorem dL_law_1237 : decode cL_law 1237 = .ok (.iaload, 1) := by decide +kernel
theorem dL_law_1238 : decode cL_law 1238 = .ok (.invokevirtual 149, 3) := by decide +kernel
theorem dL_law_1241 : decode cL_law 1241 = .ok (.if_icmp .eq 44, 3) := by decide +kernel
theorem dL_law_1244 : decode cL_law 1244 = .ok (.iconst 0, 1) := by decide +kernel
theorem dL_law_1245 : decode cL_law 1245 = .ok (.ireturn, 1) := by decide +kernel
theorem dL_law_1246 : decode cL_law 1246 = .ok (.aload_n 1, 1) := by decide +kernel
theorem dL_law_1247 : decode cL_law 1247 = .ok (.invokevirtual 150, 3) := by decide +kernel
theorem dL_law_1250 : decode cL_law 1250 = .ok (.aload_n 2, 1) := by decide +kernel
theorem dL_law_1251 : decode cL_law 1251 = .ok (.invokevirtual 153, 3) := by decide +kernel
theorem dL_law_1254 : decode cL_law 1254 = .ok (.if_icmp .eq 31, 3) := by decide +kernel
theorem dL_law_1257 : decode cL_law 1257 = .ok (.iconst 0, 1) := by decide +kernel
theorem dL_law_1258 : decode cL_law 1258 = .ok (.ireturn, 1) := by decide +kernel
theorem dL_law_1259 : decode cL_law 1259 = .ok (.aload_n 1, 1) := by decide +kernel
theorem dL_law_1260 : decode cL_law 1260 = .ok (.invokevirtual 154, 3) := by decide +kernel
theorem dL_law_1263 : decode cL_law 1263 = .ok (.aload_n 2, 1) := by decide +kernel
theorem dL_law_1264 : decode cL_law 1264 = .ok (.invokevirtual 157, 3) := by decide +kernel
theorem dL_law_1267 : decode cL_law 1267 = .ok (.if_icmp .eq 18, 3) := by decide +kernel
theorem dL_law_1270 : decode cL_law 1270 = .ok (.iconst 0, 1) := by decide +kernel
theorem dL_law_1271 : decode cL_law 1271 = .ok (.ireturn, 1) := by decide +kernel
theorem dL_law_1272 : decode cL_law 1272 = .ok (.aload_n 1, 1) := by decide +kernel
theorem dL_law_1273 : decode cL_law 1273 = .ok (.invokevirtual 158, 3) := by decide +kernel
theorem dL_law_1276 : decode cL_law 1276 = .ok (.aload_n 2, 1) := by decide +kernel
theorem dL_law_1277 : decode cL_law 1277 = .ok (.invokevirtual 161, 3) := by decide +kernel
theorem dL_law_1280 : decode cL_law 1280 = .ok (.if_icmp .eq 5, 3) := by decide +kernel
theorem dL_law_1283 : decode cL_law 1283 = .ok (.iconst 0, 1) := by decide +kernel
theorem dL_law_1284 : decode cL_law 1284 = .ok (.ireturn, 1) := by decide +kernel
theorem dL_law_1285 : decode cL_law 1285 = .ok (.iinc 3 4, 3) := by decide +kernel
theorem dL_law_1288 : decode cL_law 1288 = .ok (.goto (-1270), 3) := by decide +kernel
theorem dL_law_1291 : decode cL_law 1291 = .ok (.iconst 1, 1) := by decide +kernel
theorem dL_law_1292 : decode cL_law 1292 = .ok (.ireturn, 1) := by decide +kernel
def St_write (Rel : Mm → Mm → Prop) : Prop := ∀ (p1 : Int32) (μx μm : Mm), Rel μx μm → ∃ (r : Int32) (μx' : Mm) (μm' : Mm), fX7_write p1 μx = some (r, μx') ∧ fX8_write p1 μm = some (r, μm') ∧ Rel μx' μm'
def St_wipe (Rel : Mm → Mm → Prop) : Prop := ∀ (μx μm : Mm), Rel μx μm → ∃ (r : Int32) (μx' : Mm) (μm' : Mm), fX7_wipe μx = some (r, μx') ∧ fX8_wipe μm = some (r, μm') ∧ Rel μx' μm'
def St_fault (Rel : Mm → Mm → Prop) : Prop := ∀ (μx μm : Mm), Rel μx μm → ∃ (r : Int32) (μx' : Mm) (μm' : Mm), fX7_fault μx = some (r, μx') ∧ fX8_fault μm = some (r, μm') ∧ Rel μx' μm'
def St_tell (Rel : Mm → Mm → Prop) : Prop := ∀ (p1 : Int32) (μx μm : Mm), Rel μx μm → ∃ (r : Int32) (μx' : Mm) (μm' : Mm), fX7_tell p1 μx = some (r, μx') ∧ fX8_tell p1 μm = some (r, μm') ∧ Rel μx' μm'
def St_about (Rel : Mm → Mm → Prop) : Prop := ∀ (p1 : Int32) (μx μm : Mm), Rel μx μm → ∃ (r : Int32), fX7_about p1 μx = some r ∧ fX8_about p1 μm = some r ∧ Rel μx μm
def St_make (Rel : Mm → Mm → Prop) : Prop := ∀ (p1 : Int32) (p2 : Int32) (p3 : Int32) (μx μm : Mm), Rel μx μm → ∃ (r : Int32) (μx' : Mm) (μm' : Mm), fX7_make p1 p2 p3 μx = some (r, μx') ∧ fX8_make p1 p2 p3 μm = some (r, μm') ∧ Rel μx' μm'
def St_share (Rel : Mm → Mm → Prop) : Prop := ∀ (p1 : Int32) (p2 : Int32) (μx μm : Mm), Rel μx μm → ∃ (r : Int32) (μx' : Mm) (μm' : Mm), fX7_share p1 p2 μx = some (r, μx') ∧ fX8_share p1 p2 μm = some (r, μm') ∧ Rel μx' μm'
def St_thing (Rel : Mm → Mm → Prop) : Prop := ∀ (p1 : Int32) (p2 : Int32) (μx μm : Mm), Rel μx μm → ∃ (r : Int32), fX7_thing p1 p2 μx = some r ∧ fX8_thing p1 p2 μm = some r ∧ Rel μx μm
def St_same (Rel : Mm → Mm → Prop) : Prop := ∀ (p1 : Int32) (p2 : Int32) (μx μm : Mm), Rel μx μm → ∃ (r : Int32), fX7_same p1 p2 μx = some r ∧ fX8_same p1 p2 μm = some r ∧ Rel μx μm
def St_cell (Rel : Mm → Mm → Prop) : Prop := ∀ (p1 : Int32) (p2 : Int32) (p3 : Int32) (μx μm : Mm), Rel μx μm → ∃ (r : Int64) (μm' : Mm), fX7_cell p1 p2 p3 μx = some r ∧ fX8_cell p1 p2 p3 μm = some (r, μm') ∧ Rel μx μm'
def St_give (Rel : Mm → Mm → Prop) : Prop := ∀ (p1 : Int32) (p2 : Int64) (μx μm : Mm), Rel μx μm → ∃ (r : Int32) (μx' : Mm) (μm' : Mm), fX7_give p1 p2 μx = some (r, μx') ∧ fX8_give p1 p2 μm = some (r, μm') ∧ Rel μx' μm'
def St_mark (Rel : Mm → Mm → Prop) : Prop := ∀ (p1 : Int32) (p2 : Int32) (μx μm : Mm), Rel μx μm → ∃ (r : Int32) (μx' : Mm) (μm' : Mm), fX7_mark p1 p2 μx = some (r, μx') ∧ fX8_mark p1 p2 μm = some (r, μm') ∧ Rel μx' μm'
def St_text (Rel : Mm → Mm → Prop) : Prop := ∀ (p1 : Int32) (μx μm : Mm), Rel μx μm → ∃ (r : Int32) (μx' : Mm) (μm' : Mm), fX7_text p1 μx = some (r, μx') ∧ fX8_text p1 μm = some (r, μm') ∧ Rel μx' μm'
def St_turn (Rel : Mm → Mm → Prop) : Prop := ∀ (μx μm : Mm), Rel μx μm → ∃ (r : Int32) (μx' : Mm) (μm' : Mm), fX7_turn μx = some (r, μx') ∧ fX8_turn μm = some (r, μm') ∧ Rel μx' μm'
def St_hand (Rel : Mm → Mm → Prop) : Prop := ∀ (p1 : Int32) (μx μm : Mm), Rel μx μm → ∃ (r : Int64), fX7_hand p1 μx = some r ∧ fX8_hand p1 μm = some r ∧ Rel μx μm
def St_grow (Rel : Mm → Mm → Prop) : Prop := ∀ (p1 : Int32) (μx μm : Mm), Rel μx μm → ∃ (r : Int32) (μx' : Mm) (μm' : Mm), fX7_grow p1 μx = some (r, μx') ∧ fX8_grow p1 μm = some (r, μm') ∧ Rel μx' μm'
def St_take (Rel : Mm → Mm → Prop) : Prop := ∀ (p1 : Int32) (p2 : Int32) (p3 : Int32) (μx μm : Mm), Rel μx μm → ∃ (r : Int32) (μx' : Mm) (μm' : Mm), fX7_take p1 p2 p3 μx = some (r, μx') ∧ fX8_take p1 p2 p3 μm = some (r, μm') ∧ Rel μx' μm'
def St_fetch (Rel : Mm → Mm → Prop) : Prop := ∀ (p1 : Int32) (p2 : Int32) (μx μm : Mm), Rel μx μm → ∃ (r : Int32) (μx' : Mm) (μm' : Mm), fX7_fetch p1 p2 μx = some (r, μx') ∧ fX8_fetch p1 p2 μm = some (r, μm') ∧ Rel μx' μm'
def St_lay (Rel : Mm → Mm → Prop) : Prop := ∀ (p1 : Int32) (p2 : Int32) (μx μm : Mm), Rel μx μm → ∃ (r : Int32) (μx' : Mm) (μm' : Mm), fX7_lay p1 p2 μx = some (r, μx') ∧ fX8_lay p1 p2 μm = some (r, μm') ∧ Rel μx' μm'
def St_scatter (Rel : Mm → Mm → Prop) : Prop := ∀ (p1 : Int32) (p2 : Int64) (μx μm : Mm), Rel μx μm → ∃ (r : Int32) (μx' : Mm) (μm' : Mm), fX7_scatter p1 p2 μx = some (r, μx') ∧ fX8_scatter p1 p2 μm = some (r, μm') ∧ Rel μx' μm'
def St_convert (Rel : Mm → Mm → Prop) : Prop := ∀ (p1 : Int32) (p2 : Int32) (p3 : Int32) (μx μm : Mm), Rel μx μm → ∃ (r : Int32) (μx' : Mm) (μm' : Mm), fX7_convert p1 p2 p3 μx = some (r, μx') ∧ fX8_convert p1 p2 p3 μm = some (r, μm') ∧ Rel μx' μm'
def St_report (Rel : Mm → Mm → Prop) : Prop := ∀ (p1 : Int32) (μx μm : Mm), Rel μx μm → ∃ (r : Int32), fX7_report p1 μx = some r ∧ fX8_report p1 μm = some r ∧ Rel μx μm
def St_chains (Rel : Mm → Mm → Prop) : Prop := ∀ (p1 : Int32) (p2 : Int32) (μx μm : Mm), Rel μx μm → ∃ (r : Int32) (μm' : Mm), fX7_chains p1 p2 μx = some r ∧ fX8_chains p1 p2 μm = some (r, μm') ∧ Rel μx μm'
def St_carry (Rel : Mm → Mm → Prop) : Prop := ∀ (p1 : Int32) (p2 : Int32) (p3 : Int32) (μx μm : Mm), Rel μx μm → ∃ (r : Int32) (μx' : Mm) (μm' : Mm), fX7_carry p1 p2 p3 μx = some (r, μx') ∧ fX8_carry p1 p2 p3 μm = some (r, μm') ∧ Rel μx' μm'
def St_ends (Rel : Mm → Mm → Prop) : Prop := ∀ (p1 : Int32) (p2 : Int32) (p3 : Int32) (μx μm : Mm), Rel μx μm → ∃ (r : Int32) (μm' : Mm), fX7_ends p1 p2 p3 μx = some r ∧ fX8_ends p1 p2 p3 μm = some (r, μm') ∧ Rel μx μm'
def St_least (Rel : Mm → Mm → Prop) : Prop := ∀ (p1 : Int32) (μx μm : Mm), Rel μx μm → ∃ (r : Int32), fX7_least p1 μx = some r ∧ fX8_least p1 μm = some r ∧ Rel μx μm
def St_join (Rel : Mm → Mm → Prop) : Prop := ∀ (p1 : Int32) (p2 : Int32) (p3 : Int32) (μx μm : Mm), Rel μx μm → ∃ (r : Int32) (μx' : Mm) (μm' : Mm), fX7_join p1 p2 p3 μx = some (r, μx') ∧ fX8_join p1 p2 p3 μm = some (r, μm') ∧ Rel μx' μm'
def St_cut (Rel : Mm → Mm → Prop) : Prop := ∀ (p1 : Int32) (p2 : Int32) (p3 : Int32) (μx μm : Mm), Rel μx μm → ∃ (r : Int32) (μx' : Mm) (μm' : Mm), fX7_cut p1 p2 p3 μx = some (r, μx') ∧ fX8_cut p1 p2 p3 μm = some (r, μm') ∧ Rel μx' μm'
def St_alike (Rel : Mm → Mm → Prop) : Prop := ∀ (p1 : Int32) (p2 : Int32) (μx μm : Mm), Rel μx μm → ∃ (r : Int32) (μm' : Mm), fX7_alike p1 p2 μx = some r ∧ fX8_alike p1 p2 μm = some (r, μm') ∧ Rel μx μm'
def St_unlike (Rel : Mm → Mm → Prop) : Prop := ∀ (p1 : Int32) (μx μm : Mm), Rel μx μm → ∃ (r : Int32), fX7_unlike p1 μx = some r ∧ fX8_unlike p1 μm = some r ∧ Rel μx μm
def St_total (Rel : Mm → Mm → Prop) : Prop := ∀ (p1 : Int32) (p2 : Int32) (μx μm : Mm), Rel μx μm → ∃ (r : Int32) (μx' : Mm) (μm' : Mm), fX7_total p1 p2 μx = some (r, μx') ∧ fX8_total p1 p2 μm = some (r, μm') ∧ Rel μx' μm'
def St_see (Rel : Mm → Mm → Prop) : Prop := ∀ (p1 : Int32) (p2 : Int32) (p3 : Int32) (μx μm : Mm), Rel μx μm → ∃ (r : Int32) (μx' : Mm) (μm' : Mm), fX7_see p1 p2 p3 μx = some (r, μx') ∧ fX8_see p1 p2 p3 μm = some (r, μm') ∧ Rel μx' μm'
def St_unsee (Rel : Mm → Mm → Prop) : Prop := ∀ (μx μm : Mm), Rel μx μm → ∃ (r : Int32) (μx' : Mm) (μm' : Mm), fX7_unsee μx = some (r, μx') ∧ fX8_unsee μm = some (r, μm') ∧ Rel μx' μm'
def St_which (Rel : Mm → Mm → Prop) : Prop := ∀ (μx μm : Mm), Rel μx μm → ∃ (r : Int32), fX7_which μx = some r ∧ fX8_which μm = some r ∧ Rel μx μm
def St_undo (Rel : Mm → Mm → Prop) : Prop := ∀ (μx μm : Mm), Rel μx μm → ∃ (r : Int32) (μx' : Mm) (μm' : Mm), fX7_undo μx = some (r, μx') ∧ fX8_undo μm = some (r, μm') ∧ Rel μx' μm'
