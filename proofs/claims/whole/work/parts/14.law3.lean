/-! THE CLAIM OUT OF ONE WALK OF THE LAW'S BODY. Your part is whole_start (and what it stands on); all else here is the same for every law, but numbers. -/
def R_law : String := "WidenDeskLaw"
def lw_P (b : Addr) (xs : List Int32) (args : Array Value) (s : State) : Prop := args = #[.ref b] ∧ s.IntsAt b xs ∧ xs.length ≤ 2048 ∧ (Jvm.Cond.and given_1 narrow_1).before args s = true
def lw_Q (_ : Array Value) (s : State) (o : Outcome) (t : State) : Prop := o = .returned (some (.int 1)) ∧ Framed s o t [] 600000 7302250
def lw_Z (below : List Frame) (a : Array Value) (s : State) : State → Prop := fun t => ∃ o, t.status = .running ∧ Ended t below o ∧ lw_Q a s o t
/-- the law's own end, with 1 on the stack, nothing written that was there before, its room as the claim has it -/
theorem lw_ret {p : Program} {l : Launch} {e : Env} {s : State} {m : MethodId} {below : List Frame} {meth : Method} {c : Code} {b : Nat} (hx : p.tables.exec = Jvm.exec) (hb : c.code = code) (hr : meth.sig.returnType = ret) (hlocks : meth.locks = false) {pc : Nat} {H : Heap} {ls : Array Slot} (hdg : decode code pc = .ok (.ireturn, 1)) : W p l e room_1 s m #[Value.ref b] below meth c H [] 600000 7302250 (lw_Z below #[Value.ref b] s) (F0 m pc ls [.int 1]) := by
  intro T hT X
  obtain ⟨fs, hret, hrun, hended, hW, hframe⟩ := X.leave (v := some (.int 1)) (hlocks := hlocks) (fun h => by rw [hr] at h; cases h)
  have hmeth' : T.vm.method? m = some meth := X.method'
  refine ⟨T.setFrames fs, ?_, .returned (some (.int 1)), hrun, hended, rfl, ⟨_, rfl⟩, hW, hframe⟩
  jvm_step X.here [X.here.top, hx, hb, hdg, hmeth', hr, ret, narrow_b1]
  (try refine ⟨rfl, ?_⟩); (try refine ⟨rfl, ?_⟩)
  first | (intro acts; rw [hret _ acts rfl rfl rfl]) | rw [hret _ _ rfl rfl rfl]
  exact Steps.refl _
/-- what holds at the law's entry: the machine, the code, the tables' words (any of lw_tbl by 'hts w (by decide +kernel)'), the script of L ints xs at the cell b, what the Statement gives of the start (any of its parts by flat_of_before) -/
def lw_At (p : Program) (s : State) (m : MethodId) (meth : Method) (c : Code) (b L : Nat) (xs : Nat → Int32) : Prop :=
  p.tables.exec = Jvm.exec ∧ c.code = code ∧ meth.sig.returnType = ret ∧ c.maxLocals = 4 ∧ s.vm.findClass R_law = some m.cls ∧ (∀ w ∈ lw_tbl, w.before #[Value.ref b] s = true) ∧ va_X b L xs s s.heap ∧ b < s.heap.size ∧ meth.locks = false ∧ (Jvm.Cond.and given_1 narrow_1).before #[Value.ref b] s = true
def mk0 (ad : Nat → Nat) (μ : Mm) (o : Nat) : Nat → List Nat → List Value
  | _, [] => []
  | k, kd :: r => shv ad μ o k kd :: mk0 ad μ o (k + 1) r
theorem mk0_eq (ad : Nat → Nat) (μ : Mm) (o : Nat) : ∀ (ks : List Nat) (n : Nat), ks.mapIdx (fun k kd => shv ad μ o (k + n) kd) = mk0 ad μ o n ks
  | [], n => rfl
  | kd :: r, n => by
    rw [List.mapIdx_cons, mk0, ← mk0_eq ad μ o r (n + 1)]
    congr 1
    · rw [Nat.zero_add]
    · congr 1; funext k kd; rw [show k + 1 + n = k + (n + 1) by omega]
def mkR (ε : Ev) (μ : Mm) (o : Nat) : Sh → va_E
  | .inl q => .inl (eA ε q.1, q.2, if q.1 = 1 then .inr (.inl (μ.2 o)) else .inl (μ.1 o))
  | .inr q => .inr (q.1, mk0 (ea ε) μ o 0 q.2)
theorem mkR_eq (ε : Ev) (μ : Mm) (o : Nat) (sh : Sh) : mkE ε μ o sh = mkR ε μ o sh := by
  rcases sh with q | q
  · rfl
  · simp only [mkE, mkR]; rw [← mk0_eq (ea ε) μ o q.2 0]; rfl
def wdr (ε : Ev) (μ : Mm) : Nat → List Sh → va_W
  | _, [] => []
  | n, sh :: r => (ea ε n, mkR ε μ n sh) :: wdr ε μ (n + 1) r
theorem wdr_eq (ε : Ev) (μ : Mm) : ∀ (l : List Sh) (n : Nat), l.mapIdx (fun o sh => (ea ε (o + n), mkE ε μ (o + n) sh)) = wdr ε μ n l
  | [], n => rfl
  | sh :: r, n => by
    rw [List.mapIdx_cons, wdr, ← wdr_eq ε μ r (n + 1)]
    congr 1
    · rw [Nat.zero_add, mkR_eq]
    · congr 1; funext k kd; rw [show k + 1 + n = k + (n + 1) by omega]
theorem wd_eq (lay : List Sh) (ε : Ev) (μ : Mm) : wd lay ε μ = wdr ε μ 0 lay := wdr_eq ε μ lay 0
theorem lw_lt {i L : Nat} (hi : i < 2 ^ 30) (hL : L < 2 ^ 30) : nI L - 4 < nI i ↔ L < i + 4 := by
  have e : (nI L - 4).toInt = (L : Int) - 4 := pk_sub_toInt (b := 4) hL (by decide)
  rw [Int32.lt_iff_toInt_lt, e, nI_toInt (by omega)]
  omega
theorem Apart_of {lay : List Sh} {ε : Ev} {μ : Mm} {A : Nat → Prop} (h : va_D A (wd lay ε μ)) : Apart lay ε := fun i j hi hj e =>
  h.1 i j _ _ (wd_at (List.getElem?_eq_getElem hi)) (wd_at (List.getElem?_eq_getElem hj)) e
theorem cx_4 (x : Int32) : x + Int32.ofInt 4 = x + 4 := by rw [show Int32.ofInt 4 = 4 by decide]
def adX (h0 : Nat) (u : List Nat) : Nat → Nat := fun i => [h0, (u.getD 0 0), (u.getD 4 0), (u.getD 9 0), (u.getD 16 0), (u.getD 18 0), (u.getD 22 0), (u.getD 23 0), (u.getD 1 0), (u.getD 2 0), (u.getD 3 0), (u.getD 5 0), (u.getD 6 0), (u.getD 7 0), (u.getD 8 0), (u.getD 10 0), (u.getD 11 0), (u.getD 12 0), (u.getD 13 0), (u.getD 14 0), (u.getD 15 0), (u.getD 17 0), (u.getD 19 0), (u.getD 20 0), (u.getD 21 0)].getD i 0
def adM (h0 : Nat) (u : List Nat) : Nat → Nat := fun i => [h0, (u.getD 0 0), (u.getD 1 0), (u.getD 2 0), (u.getD 3 0), (u.getD 4 0), (u.getD 5 0), (u.getD 6 0), (u.getD 7 0), (u.getD 8 0), (u.getD 9 0), (u.getD 10 0), (u.getD 11 0), (u.getD 12 0), (u.getD 13 0), (u.getD 14 0), (u.getD 15 0), (u.getD 16 0), (u.getD 17 0), (u.getD 18 0), (u.getD 19 0), (u.getD 20 0), (u.getD 21 0), (u.getD 22 0), (u.getD 23 0), (u.getD 24 0), (u.getD 25 0), (u.getD 26 0), (u.getD 27 0)].getD i 0
def μ0X : Mm := (fun o => if o = 11 then upd (fun _ => 0) 0 15 else if o = 0 then upd (fun _ => 0) 9 (-9) else if o = 1 then upd (fun _ => 0) 2 (-9) else fun _ => 0, fun _ _ => 0)
def μ0M : Mm := (fun o => if o = 2 then fT 15 10 else if o = 3 then fT (-9) 10 else fun _ => 0, fun _ _ => 0)
def exX (ε : Ev) (h0 : Nat) (u : List Nat) : Ev := (ε.1, ε.2.1, adX h0 u, ε.2.2.2.1, ε.2.2.2.2)
def exM (ε : Ev) (h0 : Nat) (u : List Nat) : Ev := (ε.1, ε.2.1, adM h0 u, ε.2.2.2.1, ε.2.2.2.2)
set_option maxRecDepth 100000 in
theorem pmX (ε : Ev) (h0 : Nat) (u : List Nat) : ([0, 1, 5, 10, 17, 19, 23, 24, 2, 3, 4, 6, 7, 8, 9, 11, 12, 13, 14, 15, 16, 18, 20, 21, 22] : List Nat).map (fun i => (wuX7 ε h0 u)[i]?) = (wd layX (exX ε h0 u) μ0X).map some := by
  rw [wd_eq]
  rfl
set_option maxRecDepth 100000 in
theorem pmM (ε : Ev) (h0 : Nat) (u : List Nat) : ([0, 1, 2, 3, 4, 5, 6, 7, 8, 9, 10, 11, 12, 13, 14, 15, 16, 17, 18, 19, 20, 21, 22, 23, 24, 25, 26, 27, 28] : List Nat).map (fun i => (wuX8 ε h0 u)[i]?) = (wd layM (exM ε h0 u) μ0M).map some := by
  rw [wd_eq]
  rfl
def permX : List Nat := [0, 1, 5, 10, 17, 19, 23, 24, 2, 3, 4, 6, 7, 8, 9, 11, 12, 13, 14, 15, 16, 18, 20, 21, 22]
def permM : List Nat := [0, 1, 2, 3, 4, 5, 6, 7, 8, 9, 10, 11, 12, 13, 14, 15, 16, 17, 18, 19, 20, 21, 22, 23, 24, 25, 26, 27, 28]
theorem nwL_7 : q_Cl RL 7 5 [(.object "WidenDesk$Reader"), (.object "WidenDesk$Shelf"), (.object "WidenDesk$Log"), (.object "WidenDesk$Marks"), (.object "WidenDesk$Views"), (.array .int), (.array .int), .int, .int, .int, .long] := ⟨RX7, TX7, 11, tyX7, rfl, inTT_X7, tyX7_ok, TT_in 74 (by decide +kernel) rfl, TT_in 75 (by decide +kernel) rfl, TT_in 57 (by decide +kernel) rfl, rfl, by decide +kernel⟩
theorem nwL_10 : q_Cl RL 10 6 [(.array .int), .int, (.array .int), (.array .int), (.array .int), (.array .int), (.array .int), (.array .int), (.array .long), (.array .int), (.array .boolean), .int, .int, .int, .long, (.array .int), .int, (.array .int), (.array .int), (.array .int), (.array .int), (.array .int), (.array .int), (.array .long), (.array .int), (.array .int), .int, .int, (.array .int), (.array .int), (.array .int), .int, .int, .int, (.array .int), (.array .int), (.array .long), .int, .int, .long, (.array .long), (.array .int), .long, .int, .int, .long, .boolean] := ⟨RX8, TX8, 47, tyX8, rfl, inTT_X8, tyX8_ok, TT_in 846 (by decide +kernel) rfl, TT_in 847 (by decide +kernel) rfl, TT_in 63 (by decide +kernel) rfl, rfl, by decide +kernel⟩
theorem liL_9 : q_LkI RL 9 yX7_init cX7_init 1 := ⟨⟨TT_in 78 (by decide +kernel) rfl, TT_in 76 (by decide +kernel) rfl, TT_in 57 (by decide +kernel) rfl, ⟨by decide, by decide⟩, by decide +kernel, by decide⟩, rfl, TT_in 77 (by decide +kernel) rfl⟩
theorem liL_12 : q_LkI RL 12 yX8_init cX8_init 2 := ⟨⟨TT_in 850 (by decide +kernel) rfl, TT_in 848 (by decide +kernel) rfl, TT_in 63 (by decide +kernel) rfl, ⟨by decide, by decide⟩, by decide +kernel, by decide⟩, rfl, TT_in 849 (by decide +kernel) rfl⟩
theorem nest_in : ∀ w ∈ nestW, w ∈ lw_tbl := by
  have h : nestW = ([367, 389, 437, 614, 728] : List Nat).filterMap (fun i => lw_tbl[i]?) := by decide +kernel
  intro w hw
  rw [h] at hw
  obtain ⟨i, -, hi⟩ := List.mem_filterMap.mp hw
  exact List.mem_of_getElem? hi
theorem str_in : Cond.stringRef "WidenDesk$Reader" 54 "zbcsijfd" ∈ lw_tbl := List.mem_of_getElem? (i := 272) (by decide +kernel)
theorem cst_in : Cond.laysStatic "java/lang/String" "COMPACT_STRINGS" "Z" ∈ lw_tbl := List.mem_of_getElem? (i := 286) (by decide +kernel)
theorem cin_in : Cond.initialized "java/lang/String" ∈ lw_tbl := List.mem_of_getElem? (i := 64) (by decide +kernel)
theorem ins_X0 : Cond.instantiable RX0 8 ∈ TT := TT_in 139 (by decide +kernel) rfl
theorem ins_X1 : Cond.instantiable RX1 2 ∈ TT := TT_in 175 (by decide +kernel) rfl
theorem ins_X3 : Cond.instantiable RX3 7 ∈ TT := TT_in 83 (by decide +kernel) rfl
theorem ins_X5 : Cond.instantiable RX5 4 ∈ TT := TT_in 118 (by decide +kernel) rfl
theorem ins_X6 : Cond.instantiable RX6 4 ∈ TT := TT_in 189 (by decide +kernel) rfl
theorem ins_X7 : Cond.instantiable RX7 11 ∈ TT := TT_in 75 (by decide +kernel) rfl
theorem ins_X8 : Cond.instantiable RX8 47 ∈ TT := TT_in 847 (by decide +kernel) rfl
def AllSt (Rel : Mm → Mm → Prop) : Prop := St_write Rel ∧ St_wipe Rel ∧ St_fault Rel ∧ St_tell Rel ∧ St_about Rel ∧ St_make Rel ∧ St_share Rel ∧ St_thing Rel ∧ St_same Rel ∧ St_cell Rel ∧ St_give Rel ∧ St_mark Rel ∧ St_text Rel ∧ St_turn Rel ∧ St_hand Rel ∧ St_grow Rel ∧ St_take Rel ∧ St_fetch Rel ∧ St_lay Rel ∧ St_scatter Rel ∧ St_convert Rel ∧ St_report Rel ∧ St_chains Rel ∧ St_carry Rel ∧ St_ends Rel ∧ St_least Rel ∧ St_join Rel ∧ St_cut Rel ∧ St_alike Rel ∧ St_unlike Rel ∧ St_total Rel ∧ St_see Rel ∧ St_unsee Rel ∧ St_which Rel ∧ St_undo Rel
theorem lw_exit {κ : Kx} {εx εm : Ev} {A : Nat → Prop} {b L i : Nat} {xs : Nat → Int32} {μx μm : Mm} (C : Cf κ code 4 RL (some .boolean) 40) (E : Lc κ εx εm A b L xs) (ha : ka κ = #[Value.ref b]) (hR : kR κ = room_1) (hQ : kQ κ = lw_Z (kb κ) #[Value.ref b] (kS κ)) (hr : (kt κ).sig.returnType = ret) (h1 : kn κ ≤ 600000) (h2 : ko κ ≤ 7302250) : G κ (Vl (kS κ) εx εm μx μm A) 4 1291 [(3, .int (nI i)), (2, .ref (ea εm 0)), (1, .ref (ea εx 0)), (0, .ref b)] [] := by
  refine g_iconst (pc := 1291) C dL_law_1291 ci_1 ?_
  intro H locs ls hV hl
  refine va_forget (fun q hq => E.2.2.2.2.1 _ (hV.2.2.2.2 q hq)) ?_
  refine W.widen (k := 600000) (n := 7302250) h1 h2 ?_
  show W (kp κ) (kl κ) (ke κ) (kR κ) (kS κ) (km κ) (ka κ) (kb κ) (kt κ) (kc κ) H [] 600000 7302250 (kQ κ) _
  rw [hR, ha, hQ]
  exact lw_ret C.1.1 C.1.2.1 hr C.2.2.1 dL_law_1292
set_option maxRecDepth 100000 in
set_option maxHeartbeats 4000000 in
theorem lw_switch {Rel : Mm → Mm → Prop} (hall : AllSt Rel) {κ : Kx} {εx εm : Ev} {A : Nat → Prop} {b L i : Nat} {xs : Nat → Int32} (C : Cf κ code 4 RL (some .boolean) 40) (E : Lc κ εx εm A b L xs) (hL : L ≤ 2048) (hi : i + 4 ≤ L) {μx μm : Mm} (hRel : Rel μx μm) (next : ∀ μx' μm', Rel μx' μm' → G κ (Vl (kS κ) εx εm μx' μm' A) 4 1285 [(3, .int (nI i)), (2, .ref (ea εm 0)), (1, .ref (ea εx 0)), (0, .ref b)] []) {x : Int32} {j : Nat} (hj : j < 64) (hx : x = nI j) : G κ (Vl (kS κ) εx εm μx μm A) 4 32 [(3, .int (nI i)), (2, .ref (ea εm 0)), (1, .ref (ea εx 0)), (0, .ref b)] [.int x] := by
  by_cases h0 : j = 0
  · subst h0
    exact g_tabIn (pc := 32) (v := 0) (off := 156) (tgt := 188) C dL_law_32 hx (by decide) rfl (lw_c0 hall.1 C E hL hi hRel next)

  by_cases h1 : j = 1
  · subst h1
    exact g_tabIn (pc := 32) (v := 1) (off := 179) (tgt := 211) C dL_law_32 hx (by decide) rfl (lw_c1 hall.2.1 C E hL hi hRel next)

  by_cases h2 : j = 2
  · subst h2
    exact g_tabIn (pc := 32) (v := 2) (off := 192) (tgt := 224) C dL_law_32 hx (by decide) rfl (lw_c2 hall.2.2.1 C E hL hi hRel next)

  by_cases h3 : j = 3
  · subst h3
    exact g_tabIn (pc := 32) (v := 3) (off := 205) (tgt := 237) C dL_law_32 hx (by decide) rfl (lw_c3 hall.2.2.2.1 C E hL hi hRel next)

  by_cases h4 : j = 4
  · subst h4
    exact g_tabIn (pc := 32) (v := 4) (off := 228) (tgt := 260) C dL_law_32 hx (by decide) rfl (lw_c4 hall.2.2.2.2.1 C E hL hi hRel next)

  by_cases h5 : j = 5
  · subst h5
    exact g_tabIn (pc := 32) (v := 5) (off := 251) (tgt := 283) C dL_law_32 hx (by decide) rfl (lw_c5 hall.2.2.2.2.2.1 C E hL hi hRel next)

  by_cases h6 : j = 6
  · subst h6
    exact g_tabIn (pc := 32) (v := 6) (off := 294) (tgt := 326) C dL_law_32 hx (by decide) rfl (lw_c6 hall.2.2.2.2.2.2.1 C E hL hi hRel next)

  by_cases h7 : j = 7
  · subst h7
    exact g_tabIn (pc := 32) (v := 7) (off := 327) (tgt := 359) C dL_law_32 hx (by decide) rfl (lw_c7 hall.2.2.2.2.2.2.2.1 C E hL hi hRel next)

  by_cases h8 : j = 8
  · subst h8
    exact g_tabIn (pc := 32) (v := 8) (off := 360) (tgt := 392) C dL_law_32 hx (by decide) rfl (lw_c8 hall.2.2.2.2.2.2.2.2.1 C E hL hi hRel next)

  by_cases h9 : j = 9
  · subst h9
    exact g_tabIn (pc := 32) (v := 9) (off := 393) (tgt := 425) C dL_law_32 hx (by decide) rfl (lw_c9 hall.2.2.2.2.2.2.2.2.2.1 C E hL hi hRel next)

  by_cases h10 : j = 10
  · subst h10
    exact g_tabIn (pc := 32) (v := 10) (off := 437) (tgt := 469) C dL_law_32 hx (by decide) rfl (lw_c10 hall.2.2.2.2.2.2.2.2.2.2.1 C E hL hi hRel next)

  by_cases h11 : j = 11
  · subst h11
    exact g_tabIn (pc := 32) (v := 11) (off := 500) (tgt := 532) C dL_law_32 hx (by decide) rfl (lw_c11 hall.2.2.2.2.2.2.2.2.2.2.2.1 C E hL hi hRel next)

  by_cases h12 : j = 12
  · subst h12
    exact g_tabIn (pc := 32) (v := 12) (off := 533) (tgt := 565) C dL_law_32 hx (by decide) rfl (lw_c12 hall.2.2.2.2.2.2.2.2.2.2.2.2.1 C E hL hi hRel next)

  by_cases h13 : j = 13
  · subst h13
    exact g_tabIn (pc := 32) (v := 13) (off := 556) (tgt := 588) C dL_law_32 hx (by decide) rfl (lw_c13 hall.2.2.2.2.2.2.2.2.2.2.2.2.2.1 C E hL hi hRel next)

  by_cases h14 : j = 14
  · subst h14
    exact g_tabIn (pc := 32) (v := 14) (off := 569) (tgt := 601) C dL_law_32 hx (by decide) rfl (lw_c14 hall.2.2.2.2.2.2.2.2.2.2.2.2.2.2.1 C E hL hi hRel next)

  by_cases h15 : j = 15
  · subst h15
    exact g_tabIn (pc := 32) (v := 15) (off := 593) (tgt := 625) C dL_law_32 hx (by decide) rfl (lw_c15 hall.2.2.2.2.2.2.2.2.2.2.2.2.2.2.2.1 C E hL hi hRel next)

  by_cases h16 : j = 16
  · subst h16
    exact g_tabIn (pc := 32) (v := 16) (off := 616) (tgt := 648) C dL_law_32 hx (by decide) rfl (lw_c16 hall.2.2.2.2.2.2.2.2.2.2.2.2.2.2.2.2.1 C E hL hi hRel next)

  by_cases h17 : j = 17
  · subst h17
    exact g_tabIn (pc := 32) (v := 17) (off := 659) (tgt := 691) C dL_law_32 hx (by decide) rfl (lw_c17 hall.2.2.2.2.2.2.2.2.2.2.2.2.2.2.2.2.2.1 C E hL hi hRel next)

  by_cases h18 : j = 18
  · subst h18
    exact g_tabIn (pc := 32) (v := 18) (off := 692) (tgt := 724) C dL_law_32 hx (by decide) rfl (lw_c18 hall.2.2.2.2.2.2.2.2.2.2.2.2.2.2.2.2.2.2.1 C E hL hi hRel next)

  by_cases h19 : j = 19
  · subst h19
    exact g_tabIn (pc := 32) (v := 19) (off := 725) (tgt := 757) C dL_law_32 hx (by decide) rfl (lw_c19 hall.2.2.2.2.2.2.2.2.2.2.2.2.2.2.2.2.2.2.2.1 C E hL hi hRel next)

  by_cases h20 : j = 20
  · subst h20
    exact g_tabIn (pc := 32) (v := 20) (off := 788) (tgt := 820) C dL_law_32 hx (by decide) rfl (lw_c20 hall.2.2.2.2.2.2.2.2.2.2.2.2.2.2.2.2.2.2.2.2.1 C E hL hi hRel next)

  by_cases h21 : j = 21
  · subst h21
    exact g_tabIn (pc := 32) (v := 21) (off := 831) (tgt := 863) C dL_law_32 hx (by decide) rfl (lw_c21 hall.2.2.2.2.2.2.2.2.2.2.2.2.2.2.2.2.2.2.2.2.2.1 C E hL hi hRel next)

  by_cases h22 : j = 22
  · subst h22
    exact g_tabIn (pc := 32) (v := 22) (off := 854) (tgt := 886) C dL_law_32 hx (by decide) rfl (lw_c22 hall.2.2.2.2.2.2.2.2.2.2.2.2.2.2.2.2.2.2.2.2.2.2.1 C E hL hi hRel next)

  by_cases h23 : j = 23
  · subst h23
    exact g_tabIn (pc := 32) (v := 23) (off := 887) (tgt := 919) C dL_law_32 hx (by decide) rfl (lw_c23 hall.2.2.2.2.2.2.2.2.2.2.2.2.2.2.2.2.2.2.2.2.2.2.2.1 C E hL hi hRel next)

  by_cases h24 : j = 24
  · subst h24
    exact g_tabIn (pc := 32) (v := 24) (off := 930) (tgt := 962) C dL_law_32 hx (by decide) rfl (lw_c24 hall.2.2.2.2.2.2.2.2.2.2.2.2.2.2.2.2.2.2.2.2.2.2.2.2.1 C E hL hi hRel next)

  by_cases h25 : j = 25
  · subst h25
    exact g_tabIn (pc := 32) (v := 25) (off := 973) (tgt := 1005) C dL_law_32 hx (by decide) rfl (lw_c25 hall.2.2.2.2.2.2.2.2.2.2.2.2.2.2.2.2.2.2.2.2.2.2.2.2.2.1 C E hL hi hRel next)

  by_cases h26 : j = 26
  · subst h26
    exact g_tabIn (pc := 32) (v := 26) (off := 996) (tgt := 1028) C dL_law_32 hx (by decide) rfl (lw_c26 hall.2.2.2.2.2.2.2.2.2.2.2.2.2.2.2.2.2.2.2.2.2.2.2.2.2.2.1 C E hL hi hRel next)

  by_cases h27 : j = 27
  · subst h27
    exact g_tabIn (pc := 32) (v := 27) (off := 1039) (tgt := 1071) C dL_law_32 hx (by decide) rfl (lw_c27 hall.2.2.2.2.2.2.2.2.2.2.2.2.2.2.2.2.2.2.2.2.2.2.2.2.2.2.2.1 C E hL hi hRel next)

  by_cases h28 : j = 28
  · subst h28
    exact g_tabIn (pc := 32) (v := 28) (off := 1082) (tgt := 1114) C dL_law_32 hx (by decide) rfl (lw_c28 hall.2.2.2.2.2.2.2.2.2.2.2.2.2.2.2.2.2.2.2.2.2.2.2.2.2.2.2.2.1 C E hL hi hRel next)

  by_cases h29 : j = 29
  · subst h29
    exact g_tabIn (pc := 32) (v := 29) (off := 1115) (tgt := 1147) C dL_law_32 hx (by decide) rfl (lw_c29 hall.2.2.2.2.2.2.2.2.2.2.2.2.2.2.2.2.2.2.2.2.2.2.2.2.2.2.2.2.2.1 C E hL hi hRel next)

  by_cases h30 : j = 30
  · subst h30
    exact g_tabIn (pc := 32) (v := 30) (off := 1138) (tgt := 1170) C dL_law_32 hx (by decide) rfl (lw_c30 hall.2.2.2.2.2.2.2.2.2.2.2.2.2.2.2.2.2.2.2.2.2.2.2.2.2.2.2.2.2.2.1 C E hL hi hRel next)

  by_cases h31 : j = 31
  · subst h31
    exact g_tabIn (pc := 32) (v := 31) (off := 1171) (tgt := 1203) C dL_law_32 hx (by decide) rfl (lw_c31 hall.2.2.2.2.2.2.2.2.2.2.2.2.2.2.2.2.2.2.2.2.2.2.2.2.2.2.2.2.2.2.2.1 C E hL hi hRel next)

  by_cases h32 : j = 32
  · subst h32
    exact g_tabIn (pc := 32) (v := 32) (off := 1214) (tgt := 1246) C dL_law_32 hx (by decide) rfl (lw_c32 hall.2.2.2.2.2.2.2.2.2.2.2.2.2.2.2.2.2.2.2.2.2.2.2.2.2.2.2.2.2.2.2.2.1 C E hL hi hRel next)

  by_cases h33 : j = 33
  · subst h33
    exact g_tabIn (pc := 32) (v := 33) (off := 1227) (tgt := 1259) C dL_law_32 hx (by decide) rfl (lw_c33 hall.2.2.2.2.2.2.2.2.2.2.2.2.2.2.2.2.2.2.2.2.2.2.2.2.2.2.2.2.2.2.2.2.2.1 C E hL hi hRel next)

  by_cases h34 : j = 34
  · subst h34
    exact g_tabIn (pc := 32) (v := 34) (off := 1240) (tgt := 1272) C dL_law_32 hx (by decide) rfl (lw_c34 hall.2.2.2.2.2.2.2.2.2.2.2.2.2.2.2.2.2.2.2.2.2.2.2.2.2.2.2.2.2.2.2.2.2.2 C E hL hi hRel next)

  have h35 : 35 ≤ j := by omega
  exact g_tabOut (pc := 32) (tgt := 1285) C dL_law_32 (Or.inr (by rw [hx, nI_toInt (by omega)]; omega)) rfl (next μx μm hRel)
theorem lw_loop {Rel : Mm → Mm → Prop} (hall : AllSt Rel) {κ : Kx} {εx εm : Ev} {A : Nat → Prop} {b L : Nat} {xs : Nat → Int32} (C : Cf κ code 4 RL (some .boolean) 40) (E : Lc κ εx εm A b L xs) (hL : L ≤ 2048) (ha : ka κ = #[Value.ref b]) (hR : kR κ = room_1) (hQ : kQ κ = lw_Z (kb κ) #[Value.ref b] (kS κ)) (hr : (kt κ).sig.returnType = ret) (h1 : kn κ ≤ 600000) (h2 : ko κ ≤ 7302250) :
    ∀ (n i : Nat) (μx μm : Mm), L ≤ i + 4 * n → i ≤ 2052 → Rel μx μm → G κ (Vl (kS κ) εx εm μx μm A) 4 18 [(3, .int (nI i)), (2, .ref (ea εm 0)), (1, .ref (ea εx 0)), (0, .ref b)] [] := by
  intro n
  induction n with
  | zero =>
    intro i μx μm hn hi2 hRel
    refine g_iload_n (pc := 18) (i := 3) (j := 0) C dL_law_18 rfl rfl ?_
    refine g_aload_n (pc := 19) (i := 0) (j := 3) C dL_law_19 rfl rfl ?_
    refine l_len (pc := 20) C E dL_law_20 ?_
    refine g_iconst (pc := 21) C dL_law_21 ci_4 ?_
    refine g_isub (pc := 22) C dL_law_22 ?_
    refine g_icmp_gt (α := Unit) (A := some ()) (B := some ()) (out := ()) (pc := 23) (tgt := 1291) C dL_law_23 rfl (by split <;> rfl) (fun _ _ => lw_exit C E ha hR hQ hr h1 h2) (fun h _ => absurd ((lw_lt (by omega) (by omega)).mpr (by omega)) h)
  | succ n ih =>
    intro i μx μm hn hi2 hRel
    refine g_iload_n (pc := 18) (i := 3) (j := 0) C dL_law_18 rfl rfl ?_
    refine g_aload_n (pc := 19) (i := 0) (j := 3) C dL_law_19 rfl rfl ?_
    refine l_len (pc := 20) C E dL_law_20 ?_
    refine g_iconst (pc := 21) C dL_law_21 ci_4 ?_
    refine g_isub (pc := 22) C dL_law_22 ?_
    refine g_icmp_gt (α := Unit) (A := some ()) (B := some ()) (out := ()) (pc := 23) (tgt := 1291) C dL_law_23 rfl (by split <;> rfl) (fun _ _ => lw_exit C E ha hR hQ hr h1 h2) (fun h _ => ?_)
    have hi : i + 4 ≤ L := by
      apply Classical.byContradiction
      intro hc
      exact h ((lw_lt (by omega) (by omega)).mpr (by omega))
    refine g_aload_n (pc := 26) (i := 0) (j := 3) C dL_law_26 rfl rfl ?_
    refine g_iload_n (pc := 27) (i := 3) (j := 0) C dL_law_27 rfl rfl ?_
    refine l_ald (pc := 28) (j := i) C E (by omega) (by omega) rfl dL_law_28 ?_
    refine g_bipush (pc := 29) C dL_law_29 cb_63 ?_
    refine g_iand (pc := 31) C dL_law_31 ?_
    obtain ⟨j, hj, hx⟩ := pk_andE (xs i) (m := 63) 6 (by decide)
    refine lw_switch hall C E hL hi hRel (fun μx' μm' hR' => ?_) hj hx
    refine g_iinc (pc := 1285) (i := 3) (j := 0) (v := nI (i + 4)) (L' := [(3, .int (nI (i + 4))), (2, .ref (ea εm 0)), (1, .ref (ea εx 0)), (0, .ref b)]) C dL_law_1285 rfl (by rw [cx_4]; exact nI_plus i 4) (by decide) rfl ?_
    refine g_goto (pc := 1288) (tgt := 18) C dL_law_1288 rfl ?_
    exact ih (i + 4) μx' μm' (by omega) (by omega) hR'
theorem sub_at {is : List Nat} {ws w : va_W} (hs : is.map (fun i => ws[i]?) = w.map some) {k : Nat} {q : Nat × va_E} (h : w[k]? = some q) : ∃ (i : Nat) (x : Nat × va_E), ws[i]? = some x ∧ x.1 = q.1 := by
  have h1 : (is.map (fun i => ws[i]?))[k]? = some (some q) := by rw [hs, List.getElem?_map, h]; rfl
  rw [List.getElem?_map] at h1
  cases hi : is[k]? with
  | none => rw [hi] at h1; cases h1
  | some i => rw [hi] at h1; exact ⟨i, q, Option.some.inj h1, rfl⟩
theorem va_P.sub2 {D : va_G} {cl : List vw_C} {ws w : va_W} {H : Heap} (h : va_P D cl ws H) (is : List Nat) (hs : is.map (fun i => ws[i]?) = w.map some) : va_P D cl w H := by
  intro k q hk
  have h1 : (is.map (fun i => ws[i]?))[k]? = some (some q) := by rw [hs, List.getElem?_map, hk]; rfl
  rw [List.getElem?_map] at h1
  cases hi : is[k]? with
  | none => rw [hi] at h1; cases h1
  | some i => rw [hi] at h1; exact h i q (Option.some.inj h1)
theorem Sx.narrow {ε : Ev} {A B : Nat → Prop} {U : State} {H : Heap} (h : Sx ε A U H) (hAB : ∀ q, B q → A q) : Sx ε B U H := ⟨h.1, h.2.1.narrow hAB, h.2.2.narrow hAB⟩
theorem lw_K {s : State} {args : Array Value} (hts : ∀ w ∈ TT, w.before args s = true) : ∃ (D : va_G) (kA : Nat → ClassId), ∀ ad sk sv, va_K D vwCl (tysOf (D, kA, ad, sk, sv)) s := by
  have hk : ∀ q ∈ vwCl, ∃ (cC : ClassId) (iS : Nat → Nat), u_Kn s q.1 q.2.1 q.2.2 cC iS := by
    intro q hq
    simp only [vwCl, List.mem_cons, List.not_mem_nil, or_false] at hq
    rcases hq with rfl | rfl | rfl | rfl | rfl | rfl | rfl
    · exact u_known hts inTT_X0 (hts _ ins_X0)
    · exact u_known hts inTT_X1 (hts _ ins_X1)
    · exact u_known hts inTT_X3 (hts _ ins_X3)
    · exact u_known hts inTT_X5 (hts _ ins_X5)
    · exact u_known hts inTT_X6 (hts _ ins_X6)
    · exact u_known hts inTT_X7 (hts _ ins_X7)
    · exact u_known hts inTT_X8 (hts _ ins_X8)
  obtain ⟨c0, i0, -⟩ := hk _ (List.mem_cons_self)
  have hc : ∀ c : Nat, ∃ z : ClassId × (Nat → Nat), ∀ q, vwCl[c]? = some q → u_Kn s q.1 q.2.1 q.2.2 z.1 z.2 := by
    intro c
    cases h : vwCl[c]? with
    | none => exact ⟨(c0, i0), fun q hq => by cases hq⟩
    | some q =>
      obtain ⟨cC, iS, h2⟩ := hk q (List.mem_of_getElem? h)
      exact ⟨(cC, iS), fun q' hq => by cases hq; exact h2⟩
  obtain ⟨Z, hZ⟩ := Classical.axiomOfChoice hc
  obtain ⟨a0, k0, m0, e1, e2, e3⟩ := Cond.arrayClass_spec (hts _ ac_int)
  obtain ⟨a1, k1, m1, f1, f2, f3⟩ := Cond.arrayClass_spec (hts _ ac_long)
  obtain ⟨a2, k2, m2, g1, g2, g3⟩ := Cond.arrayClass_spec (hts _ ac_boolean)
  refine ⟨(fun c => (Z c).1, fun c => (Z c).2), fun t => if t = 0 then a0 else if t = 1 then a1 else a2, fun ad sk sv => ⟨fun c q hq => hZ c q hq, fun k q hk => ?_⟩⟩
  have hk3 : k < 3 := (List.getElem?_eq_some_iff.mp hk).1
  rcases (by omega : k = 0 ∨ k = 1 ∨ k = 2) with rfl | rfl | rfl
  · cases hk
    exact ⟨fun n z => ⟨fun k h => (by cases h), k0, e2, m0, e3⟩, e1⟩
  · cases hk
    exact ⟨fun n z => ⟨fun k h => (by cases h), k1, f2, m1, f3⟩, f1⟩
  · cases hk
    exact ⟨fun n z => ⟨fun k h => (by cases h), k2, g2, m2, g3⟩, g1⟩
theorem lw_S {s : State} {b : Nat} (hts : ∀ w ∈ lw_tbl, w.before #[Value.ref b] s = true) (hgv : (Jvm.Cond.and given_1 narrow_1).before #[Value.ref b] s = true) {A : Nat → Prop} (hA : ∀ a : Nat, a < s.heap.size → ¬ A a) : ∃ sk sv : Nat → Nat, ∀ D kA ad, Sx (D, kA, ad, sk, sv) A s s.heap := by
  have hs := flat_of_before _ hgv
  obtain ⟨sk, sv, h1, h2⟩ := vk_Sof (args := #[Value.ref b]) (s := s) (N := 1) (tm := fun _ => Term.string "WidenDesk$Reader" 54) (len := [8]) (byt := [[122, 98, 99, 115, 105, 106, 102, 100]]) (A := A)
    (fun i hi => by rcases (by omega : i = 0) with rfl; decide) (fun i hi => hs _ (by decide +kernel)) (fun i hi => hs _ (by decide +kernel)) (fun i hi => hs _ (by decide +kernel)) (fun i hi => by rcases (by omega : i = 0) with rfl; exact hs _ (by decide +kernel))
    (fun i hi j hj => by
      rcases (by omega : i = 0) with rfl
      have hj8 : j < 8 := hj
      rcases (by omega : j = 0 ∨ j = 1 ∨ j = 2 ∨ j = 3 ∨ j = 4 ∨ j = 5 ∨ j = 6 ∨ j = 7) with rfl | rfl | rfl | rfl | rfl | rfl | rfl | rfl <;> exact hs _ (by decide +kernel))
    (fun i j hi hj hij => absurd (by omega : i = j) hij) hA
  exact ⟨sk, sv, fun D kA ad => ⟨vk_R.of (A := #[Value.ref b]) (hts _ str_in) (h2 0 (by decide)), h1, va_Zof (hts _ cst_in) (hts _ cin_in) (va_eqi (hs _ (by decide +kernel))) hA⟩⟩
set_option maxRecDepth 100000 in
set_option maxHeartbeats 4000000 in
theorem lw_begin {Rel : Mm → Mm → Prop} (hall : AllSt Rel) (h00 : Rel μ0X μ0M) {p : Program} {e : Env} {s : State} {m : MethodId} {below : List Frame} {meth : Method} {c : Code} (l : Launch) {b L : Nat} {xs : Nat → Int32} (hL : L ≤ 2048) (C0 : lw_At p s m meth c b L xs) : W p l e room_1 s m #[Value.ref b] below meth c s.heap [] 0 0 (lw_Z below #[Value.ref b] s) (entryFrame m ([Value.ref b] : List Value).toArray 4) := by
  obtain ⟨hx, hb, hr, hml, hown, hts, hX, hbl, hlocks, hgv⟩ := C0
  have hTT : ∀ w ∈ TT, w.before #[Value.ref b] s = true := fun w h => hts w (List.mem_filter.mp h).1
  have hN : Nst s := by
    intro w hw
    have h1 := hts w (nest_in w hw)
    simp only [nestW, List.mem_cons, List.not_mem_nil, or_false] at hw
    rcases hw with rfl | rfl | rfl | rfl | rfl <;> exact va_Nw.of rfl h1
  obtain ⟨D, kA, hK⟩ := lw_K hTT
  have hA0 : ∀ a : Nat, a < s.heap.size → ¬ (fun q => s.heap.size ≤ q) a := fun a h z => absurd h (Nat.not_lt.mpr z)
  obtain ⟨sk, sv, hSx⟩ := lw_S hts hgv hA0
  have K : KK (D, kA, fun _ => 0, sk, sv) s := hK _ _ _
  generalize hε : ((D, kA, fun _ => 0, sk, sv) : Ev) = ε at K
  have C : Cf (p, l, e, room_1, s, m, #[Value.ref b], below, meth, c, lw_Z below #[Value.ref b] s, 0, 0) code 4 RL (some .boolean) 40 := ⟨⟨hx, hb, hml, hown, hTT⟩, hr, hlocks, hN, Nat.le_of_ble_eq_true rfl, Nat.le_of_ble_eq_true rfl, Nat.zero_le _, Nat.zero_le _⟩
  have hA : Ag (p, l, e, room_1, s, m, #[Value.ref b], below, meth, c, lw_Z below #[Value.ref b] s, 0, 0) (fun q => s.heap.size ≤ q) := fun q hq => hq
  have hl := lv_entry [Value.ref b] (n := 4) (Nat.le_of_ble_eq_true rfl)
  rw [lg_entry_eq]
  have main : G (p, l, e, room_1, s, m, #[Value.ref b], below, meth, c, lw_Z below #[Value.ref b] s, 0, 0) (Vc s ε [] (fun q => s.heap.size ≤ q)) 4 0 [(0, .ref b)] [] := by
    refine c_new (pc := 0) C K hA nwL_7 (Nat.le_of_ble_eq_true rfl) (Nat.le_of_ble_eq_true rfl) dL_law_0 (fun h0 => ?_)
    replace C : Cf (p, l, e, room_1, s, m, #[Value.ref b], below, meth, c, lw_Z below #[Value.ref b] s, 1, 11) code 4 RL (some .boolean) 40 := C.up (a := 1) (b := 11) (Nat.le_of_ble_eq_true rfl) (Nat.le_of_ble_eq_true rfl)
    show G (p, l, e, room_1, s, m, #[Value.ref b], below, meth, c, lw_Z below #[Value.ref b] s, 1, 11) (Vc s ε ([] ++ [(h0, .inr (5, [.null, .null, .null, .null, .null, .null, .null, .int 0, .int 0, .int 0, .long 0]))]) (fun q => s.heap.size ≤ q)) 4 3 [(0, .ref b)] [.ref h0]
    refine g_dup (pc := 3) C dL_law_3 rfl ?_
    refine c_init (pc := 4) (wr := []) C K (fun q hq => hq) liL_9 (kX7_init l ε h0) (by decide) (Nat.le_of_ble_eq_true rfl) (Nat.le_of_ble_eq_true rfl) (Nat.le_of_ble_eq_true rfl) dL_law_4 (fun u hu => ?_)
    replace C : Cf (p, l, e, room_1, s, m, #[Value.ref b], below, meth, c, lw_Z below #[Value.ref b] s, 25, 750) code 4 RL (some .boolean) 40 := C.up (a := 24) (b := 739) (Nat.le_of_ble_eq_true rfl) (Nat.le_of_ble_eq_true rfl)
    show G (p, l, e, room_1, s, m, #[Value.ref b], below, meth, c, lw_Z below #[Value.ref b] s, 25, 750) (Vc s ε (wuX7 ε h0 u) (fun q => s.heap.size ≤ q)) 4 7 [(0, .ref b)] [.ref h0]
    refine g_astore_n (pc := 7) (i := 1) (L' := [(1, .ref h0), (0, .ref b)]) C dL_law_7 rfl (by decide) rfl ?_
    refine c_new (pc := 8) C K (fun q hq => hq) nwL_10 (Nat.le_of_ble_eq_true rfl) (Nat.le_of_ble_eq_true rfl) dL_law_8 (fun h1 => ?_)
    replace C : Cf (p, l, e, room_1, s, m, #[Value.ref b], below, meth, c, lw_Z below #[Value.ref b] s, 26, 797) code 4 RL (some .boolean) 40 := C.up (a := 1) (b := 47) (Nat.le_of_ble_eq_true rfl) (Nat.le_of_ble_eq_true rfl)
    refine g_dup (κ := (p, l, e, room_1, s, m, #[Value.ref b], below, meth, c, lw_Z below #[Value.ref b] s, 26, 797)) (pc := 11) C dL_law_11 rfl ?_
    refine c_init (pc := 12) (wr := wuX7 ε h0 u) C K (fun q hq => hq) liL_12 (kX8_init l ε h1) (by decide) (Nat.le_of_ble_eq_true rfl) (Nat.le_of_ble_eq_true rfl) (Nat.le_of_ble_eq_true rfl) dL_law_12 (fun v hv => ?_)
    replace C : Cf (p, l, e, room_1, s, m, #[Value.ref b], below, meth, c, lw_Z below #[Value.ref b] s, 54, 4905) code 4 RL (some .boolean) 40 := C.up (a := 28) (b := 4108) (Nat.le_of_ble_eq_true rfl) (Nat.le_of_ble_eq_true rfl)
    show G (p, l, e, room_1, s, m, #[Value.ref b], below, meth, c, lw_Z below #[Value.ref b] s, 54, 4905) (Vc s ε (wuX7 ε h0 u ++ wuX8 ε h1 v) (fun q => s.heap.size ≤ q)) 4 15 [(1, .ref h0), (0, .ref b)] [.ref h1]
    refine g_astore_n (pc := 15) (i := 2) (L' := [(2, .ref h1), (1, .ref h0), (0, .ref b)]) C dL_law_15 rfl (by decide) rfl ?_
    refine g_iconst (pc := 16) C dL_law_16 ci_0 ?_
    refine g_istore_n (pc := 17) (i := 3) (L' := [(3, .int 0), (2, .ref h1), (1, .ref h0), (0, .ref b)]) C dL_law_17 rfl (by decide) rfl ?_
    intro H locs ls hV hl
    obtain ⟨hP, hD, hS⟩ := hV
    have hPx : va_P (eD ε) vwCl (wuX7 ε h0 u) H := fun k x hk => hP k x (by rw [List.getElem?_append_left (List.getElem?_eq_some_iff.mp hk).1]; exact hk)
    have hPm : va_P (eD ε) vwCl (wuX8 ε h1 v) H := fun k x hk => hP (k + (wuX7 ε h0 u).length) x (by rw [List.getElem?_append_right (by omega), Nat.add_sub_cancel]; exact hk)
    have hDx : va_D (fun q => s.heap.size ≤ q) (wuX7 ε h0 u) := ⟨fun i j x y hi hj e => hD.1 i j x y (by rw [List.getElem?_append_left (List.getElem?_eq_some_iff.mp hi).1]; exact hi) (by rw [List.getElem?_append_left (List.getElem?_eq_some_iff.mp hj).1]; exact hj) e, fun k x hx => hD.2 k x (by rw [List.getElem?_append_left (List.getElem?_eq_some_iff.mp hx).1]; exact hx)⟩
    have hDm : va_D (fun q => s.heap.size ≤ q) (wuX8 ε h1 v) := ⟨fun i j x y hi hj e => by
        have := hD.1 (i + (wuX7 ε h0 u).length) (j + (wuX7 ε h0 u).length) x y (by rw [List.getElem?_append_right (by omega), Nat.add_sub_cancel]; exact hi) (by rw [List.getElem?_append_right (by omega), Nat.add_sub_cancel]; exact hj) e
        omega, fun k x hx => hD.2 (k + (wuX7 ε h0 u).length) x (by rw [List.getElem?_append_right (by omega), Nat.add_sub_cancel]; exact hx)⟩
    have qx := hPx.sub2 permX (pmX ε h0 u)
    have qm := hPm.sub2 permM (pmM ε h1 v)
    have dx := hDx.sub permX (by decide) (pmX ε h0 u)
    have dm := hDm.sub permM (by decide) (pmM ε h1 v)
    have hdis : ∀ q, Aw layX (exX ε h0 u) q → ¬ Aw layM (exM ε h1 v) q := by
      rintro q ⟨i, hi, e1⟩ ⟨j, hj, e2⟩
      obtain ⟨i', x, a1, a2⟩ := sub_at (pmX ε h0 u) (wd_at (ε := exX ε h0 u) (μ := μ0X) (List.getElem?_eq_getElem hi))
      obtain ⟨j', y, b1, b2⟩ := sub_at (pmM ε h1 v) (wd_at (ε := exM ε h1 v) (μ := μ0M) (List.getElem?_eq_getElem hj))
      have hi' := (List.getElem?_eq_some_iff.mp a1).1
      have := hD.1 i' (j' + (wuX7 ε h0 u).length) _ _ (by rw [List.getElem?_append_left hi']; exact a1) (by rw [List.getElem?_append_right (by omega), Nat.add_sub_cancel]; exact b1) (by rw [a2, b2]; exact e1.symm.trans e2)
      omega
    have hAx : ∀ q, Aw layX (exX ε h0 u) q → s.heap.size ≤ q := by
      rintro q ⟨i, hi, e1⟩
      rw [e1]
      exact dx.2 i _ (wd_at (List.getElem?_eq_getElem hi))
    have hAm : ∀ q, Aw layM (exM ε h1 v) q → s.heap.size ≤ q := by
      rintro q ⟨i, hi, e1⟩
      rw [e1]
      exact dm.2 i _ (wd_at (List.getElem?_eq_getElem hi))
    have E : Lc (p, l, e, room_1, s, m, #[Value.ref b], below, meth, c, lw_Z below #[Value.ref b] s, 54, 4905) (exX ε h0 u) (exM ε h1 v) (fun q => s.heap.size ≤ q) b L xs := by
      subst hε
      exact ⟨⟨⟨hK _ _ _, Apart_of dx, (hSx D kA _).narrow hAx⟩, ⟨hK _ _ _, Apart_of dm, (hSx D kA _).narrow hAm⟩⟩, hdis, hAx, hAm, fun q h => h, hX, hbl⟩
    exact lw_loop hall C E hL rfl rfl rfl hr (Nat.le_of_ble_eq_true rfl) (Nat.le_of_ble_eq_true rfl) 600 0 μ0X μ0M (by omega) (by omega) h00 H locs ls ⟨qx, qm, hS⟩ hl
  exact main s.heap [] _ ⟨fun k q hk => (by simp at hk), ⟨fun i j x y hi => (by simp at hi), fun k q hk => (by simp at hk)⟩, va_S.rf⟩ hl
