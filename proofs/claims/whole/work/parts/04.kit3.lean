/-! MY KIT, 3: fields, arrays, calls, returns over a memory's world -/
def q_Fd (own : String) (idx ci k : Nat) (ty : FieldType) (fin : Bool) : Prop := ∃ (C : String) (T : u_T) (N : Nat) (ty0 : Nat → FieldType), vwCl[ci]? = some (C, T, N) ∧ k < N ∧ (∀ w ∈ u_ws C T N, w ∈ TT) ∧ Cond.fieldLink own idx (T k).1 (T k).2.1 (T k).2.2.1 ∈ TT ∧ (∀ k, k < N → parseFieldDescriptor (T k).2.2.1 = some (ty0 k)) ∧ (∀ a, a < N → ∀ b, b < N → a ≠ b → (T a).2.1 ≠ (T b).2.1) ∧ ty0 k = ty ∧ (T k).2.2.2 = fin
/-- the class and the kind of a slot -/
def q_lk (lay : List Sh) (o k : Nat) : Option (Nat × Nat) := match lay[o]? with
  | some (.inr q) => match q.2[k]? with
    | some kd => some (q.1, kd)
    | none => none
  | _ => none
theorem q_lk_of {lay : List Sh} {o k ci kd : Nat} (h : q_lk lay o k = some (ci, kd)) : ∃ ks, lay[o]? = some (.inr (ci, ks)) ∧ ks[k]? = some kd := by
  unfold q_lk at h
  split at h
  · rename_i q hq
    split at h
    · rename_i z hz
      cases h
      exact ⟨q.2, hq, hz⟩
    · cases h
  · cases h
section R
variable {κ : Kx} {nL pc : Nat} {L : List (Nat × Value)} {st : List Value} {cc : ByteArray} {own : String} {ret : Option FieldType} {d : Nat} {ε : Ev} {lay : List Sh} {μ : Mm} {idx ci k o : Nat} {ty : FieldType} {fin : Bool}
theorem g_getv (C : Cf κ cc nL own ret d) (E : En ε lay (kS κ)) (F : q_Fd own idx ci k ty fin) {kd : Nat} (hs : q_lk lay o k = some (ci, kd)) {v : Value} (hv : shv (ea ε) μ o k kd = v) (hd : decode cc pc = .ok (.getfield idx, 3)) (kk : G κ (Vw κ ε lay μ) nL (pc + 3) L (v :: st)) : G κ (Vw κ ε lay μ) nL pc L (.ref (ea ε o) :: st) := by
  obtain ⟨CC, T, N, ty0, h1, h2, h3, h4, h5, h6, h7, h8⟩ := F
  obtain ⟨ks, e1, e2⟩ := q_lk_of hs
  intro H locs ls hV hl
  refine va_get (D := eD ε) (cl := vwCl) (ci := ci) (C := CC) (T := T) (N := N) C.1.1 C.1.2.1 C.1.2.2.2.2 h3 C.1.2.2.2.1 E.1 hV.1 o (wd_at e1) h1 k h2 (C.1.2.2.2.2 _ h4) (fun _ h => h) (v := v) ?_ hd (kk H locs ls hV hl)
  rw [List.getElem?_mapIdx, e2, ← hv]
  rfl
theorem g_geti (C : Cf κ cc nL own ret d) (E : En ε lay (kS κ)) (F : q_Fd own idx ci k ty fin) (hs : q_lk lay o k = some (ci, 0)) (hd : decode cc pc = .ok (.getfield idx, 3)) (kk : G κ (Vw κ ε lay μ) nL (pc + 3) L (.int (μ.1 o k) :: st)) : G κ (Vw κ ε lay μ) nL pc L (.ref (ea ε o) :: st) := g_getv C E F hs rfl hd kk
theorem g_getl (C : Cf κ cc nL own ret d) (E : En ε lay (kS κ)) (F : q_Fd own idx ci k ty fin) (hs : q_lk lay o k = some (ci, 1)) (hd : decode cc pc = .ok (.getfield idx, 3)) (kk : G κ (Vw κ ε lay μ) nL (pc + 3) L (.long (μ.2 o k) :: st)) : G κ (Vw κ ε lay μ) nL pc L (.ref (ea ε o) :: st) := g_getv C E F hs rfl hd kk
theorem g_getr (C : Cf κ cc nL own ret d) (E : En ε lay (kS κ)) (F : q_Fd own idx ci k ty fin) {j : Nat} (hs : q_lk lay o k = some (ci, j + 2)) (hd : decode cc pc = .ok (.getfield idx, 3)) (kk : G κ (Vw κ ε lay μ) nL (pc + 3) L (.ref (ea ε j) :: st)) : G κ (Vw κ ε lay μ) nL pc L (.ref (ea ε o) :: st) := g_getv C E F hs rfl hd kk
theorem g_puti (C : Cf κ cc nL own ret d) (E : En ε lay (kS κ)) (F : q_Fd own idx ci k .int false) (hs : q_lk lay o k = some (ci, 0)) {x : Int32} (hd : decode cc pc = .ok (.putfield idx, 3)) (kk : G κ (Vw κ ε lay (wI μ o k x)) nL (pc + 3) L st) : G κ (Vw κ ε lay μ) nL pc L (.int x :: .ref (ea ε o) :: st) := by
  obtain ⟨CC, T, N, ty0, h1, h2, h3, h4, h5, h6, h7, h8⟩ := F
  obtain ⟨ks, e1, e2⟩ := q_lk_of hs
  intro H locs ls hV hl
  refine va_put (D := eD ε) (cl := vwCl) (ci := ci) (C := CC) (T := T) (N := N) C.1.1 C.1.2.1 C.1.2.2.2.2 h3 ty0 h5 h6 C.1.2.2.2.1 E.1 hV.1 (wd_D E.2.1) hV.2 o (wd_at e1) h1 k h2 (C.1.2.2.2.2 _ h4) (fun _ h => h) h8 (ty := .int) (v := .int x) (by rw [h5 k h2, h7]) rfl rfl (by simpa using (List.getElem?_eq_some_iff.mp e2).1) hd (fun H1 locs1 hP1 _ hS1 => kk H1 locs1 ls ⟨?_, hS1⟩ hl)
  rw [← wd_setI e1 e2]
  exact hP1
theorem g_putl (C : Cf κ cc nL own ret d) (E : En ε lay (kS κ)) (F : q_Fd own idx ci k .long false) (hs : q_lk lay o k = some (ci, 1)) {x : Int64} (hd : decode cc pc = .ok (.putfield idx, 3)) (kk : G κ (Vw κ ε lay (wL μ o k x)) nL (pc + 3) L st) : G κ (Vw κ ε lay μ) nL pc L (.long x :: .ref (ea ε o) :: st) := by
  obtain ⟨CC, T, N, ty0, h1, h2, h3, h4, h5, h6, h7, h8⟩ := F
  obtain ⟨ks, e1, e2⟩ := q_lk_of hs
  intro H locs ls hV hl
  refine va_put (D := eD ε) (cl := vwCl) (ci := ci) (C := CC) (T := T) (N := N) C.1.1 C.1.2.1 C.1.2.2.2.2 h3 ty0 h5 h6 C.1.2.2.2.1 E.1 hV.1 (wd_D E.2.1) hV.2 o (wd_at e1) h1 k h2 (C.1.2.2.2.2 _ h4) (fun _ h => h) h8 (ty := .long) (v := .long x) (by rw [h5 k h2, h7]) rfl rfl (by simpa using (List.getElem?_eq_some_iff.mp e2).1) hd (fun H1 locs1 hP1 _ hS1 => kk H1 locs1 ls ⟨?_, hS1⟩ hl)
  rw [← wd_setL e1 e2]
  exact hP1
theorem g_putz (C : Cf κ cc nL own ret d) (E : En ε lay (kS κ)) (F : q_Fd own idx ci k .boolean false) (hs : q_lk lay o k = some (ci, 0)) {x : Int32} {α : Type} {A : Option α} {out : α} (hd : decode cc pc = .ok (.putfield idx, 3)) (hf : (if rbz x = true then A else none) = some out) (kk : A = some out → G κ (Vw κ ε lay (wI μ o k x)) nL (pc + 3) L st) : G κ (Vw κ ε lay μ) nL pc L (.int x :: .ref (ea ε o) :: st) := by
  obtain ⟨CC, T, N, ty0, h1, h2, h3, h4, h5, h6, h7, h8⟩ := F
  obtain ⟨ks, e1, e2⟩ := q_lk_of hs
  obtain ⟨hz, hf⟩ := ite_some hf
  intro H locs ls hV hl
  refine va_put (D := eD ε) (cl := vwCl) (ci := ci) (C := CC) (T := T) (N := N) C.1.1 C.1.2.1 C.1.2.2.2.2 h3 ty0 h5 h6 C.1.2.2.2.1 E.1 hV.1 (wd_D E.2.1) hV.2 o (wd_at e1) h1 k h2 (C.1.2.2.2.2 _ h4) (fun _ h => h) h8 (ty := .boolean) (v := .int x) (by rw [h5 k h2, h7]) (rbz_narrow hz) (by rcases rbz_of hz with rfl | rfl <;> rfl) (by simpa using (List.getElem?_eq_some_iff.mp e2).1) hd (fun H1 locs1 hP1 _ hS1 => kk hf H1 locs1 ls ⟨?_, hS1⟩ hl)
  rw [← wd_setI e1 e2]
  exact hP1
theorem g_iald (C : Cf κ cc nL own ret d) (E : En ε lay (kS κ)) {n : Nat} (hs : lay[o]? = some (.inl (0, n))) {i : Int32} {α : Type} {A : Option α} {out : α} (hd : decode cc pc = .ok (.iaload, 1)) (hf : (if inb i n = true then A else none) = some out) (kk : A = some out → G κ (Vw κ ε lay μ) nL (pc + 1) L (.int (μ.1 o i.toNatClampNeg) :: st)) : G κ (Vw κ ε lay μ) nL pc L (.int i :: .ref (ea ε o) :: st) := by
  obtain ⟨hz, hf⟩ := ite_some hf
  intro H locs ls hV hl
  exact va_iald (D := eD ε) (cl := vwCl) C.1.1 C.1.2.1 E.1 hV.1 o 0 (cA := eA ε 0) (n := n) (f := μ.1 o) (wd_at hs) rfl (inb_in hz) hd (kk hf H locs ls hV hl)
theorem g_lald (C : Cf κ cc nL own ret d) (E : En ε lay (kS κ)) {n : Nat} (hs : lay[o]? = some (.inl (1, n))) {i : Int32} {α : Type} {A : Option α} {out : α} (hd : decode cc pc = .ok (.laload, 1)) (hf : (if inb i n = true then A else none) = some out) (kk : A = some out → G κ (Vw κ ε lay μ) nL (pc + 1) L (.long (μ.2 o i.toNatClampNeg) :: st)) : G κ (Vw κ ε lay μ) nL pc L (.int i :: .ref (ea ε o) :: st) := by
  obtain ⟨hz, hf⟩ := ite_some hf
  intro H locs ls hV hl
  exact va_lald (D := eD ε) (cl := vwCl) C.1.1 C.1.2.1 E.1 hV.1 o 1 (cA := eA ε 1) (n := n) (f := μ.2 o) (wd_at hs) rfl (inb_in hz) hd (kk hf H locs ls hV hl)
theorem g_zald (C : Cf κ cc nL own ret d) (E : En ε lay (kS κ)) {n : Nat} (hs : lay[o]? = some (.inl (2, n))) {i : Int32} {α : Type} {A : Option α} {out : α} (hd : decode cc pc = .ok (.baload, 1)) (hf : (if inb i n = true then A else none) = some out) (kk : A = some out → G κ (Vw κ ε lay μ) nL (pc + 1) L (.int (μ.1 o i.toNatClampNeg) :: st)) : G κ (Vw κ ε lay μ) nL pc L (.int i :: .ref (ea ε o) :: st) := by
  obtain ⟨hz, hf⟩ := ite_some hf
  intro H locs ls hV hl
  exact va_zald (D := eD ε) (cl := vwCl) C.1.1 C.1.2.1 E.1 hV.1 o 2 (cA := eA ε 2) (n := n) (f := μ.1 o) (wd_at hs) rfl (inb_in hz) hd (kk hf H locs ls hV hl)
theorem g_iast (C : Cf κ cc nL own ret d) (E : En ε lay (kS κ)) {n : Nat} (hs : lay[o]? = some (.inl (0, n))) {i x : Int32} {α : Type} {A : Option α} {out : α} (hd : decode cc pc = .ok (.iastore, 1)) (hf : (if inb i n = true then A else none) = some out) (kk : A = some out → G κ (Vw κ ε lay (wI μ o i.toNatClampNeg x)) nL (pc + 1) L st) : G κ (Vw κ ε lay μ) nL pc L (.int x :: .int i :: .ref (ea ε o) :: st) := by
  obtain ⟨hz, hf⟩ := ite_some hf
  intro H locs ls hV hl
  refine va_iast (D := eD ε) (cl := vwCl) C.1.1 C.1.2.1 E.1 hV.1 (wd_D E.2.1) hV.2 o 0 (cA := eA ε 0) (n := n) (f := μ.1 o) (wd_at hs) rfl (inb_in hz) hd (fun H1 locs1 hP1 _ hS1 => kk hf H1 locs1 ls ⟨?_, hS1⟩ hl)
  rw [← wd_setA hs (by decide)]
  exact hP1
theorem g_zast (C : Cf κ cc nL own ret d) (E : En ε lay (kS κ)) {n : Nat} (hs : lay[o]? = some (.inl (2, n))) {i x : Int32} {α : Type} {A : Option α} {out : α} (hd : decode cc pc = .ok (.bastore, 1)) (hf : (if inb i n = true then (if rbz x = true then A else none) else none) = some out) (kk : A = some out → G κ (Vw κ ε lay (wI μ o i.toNatClampNeg x)) nL (pc + 1) L st) : G κ (Vw κ ε lay μ) nL pc L (.int x :: .int i :: .ref (ea ε o) :: st) := by
  obtain ⟨hz, hf⟩ := ite_some hf
  obtain ⟨hy, hf⟩ := ite_some hf
  intro H locs ls hV hl
  refine va_zast (D := eD ε) (cl := vwCl) C.1.1 C.1.2.1 E.1 hV.1 (wd_D E.2.1) hV.2 o 2 (cA := eA ε 2) (n := n) (f := μ.1 o) (wd_at hs) rfl (inb_in hz) hd (fun H1 locs1 hP1 _ hS1 => kk hf H1 locs1 ls ⟨?_, hS1⟩ hl)
  rw [rbz_nar hy] at hP1
  rw [← wd_setA hs (by decide)]
  exact hP1
theorem g_last (C : Cf κ cc nL own ret d) (E : En ε lay (kS κ)) {n : Nat} (hs : lay[o]? = some (.inl (1, n))) {i : Int32} {x : Int64} {α : Type} {A : Option α} {out : α} (hd : decode cc pc = .ok (.lastore, 1)) (hf : (if inb i n = true then A else none) = some out) (kk : A = some out → G κ (Vw κ ε lay (wL μ o i.toNatClampNeg x)) nL (pc + 1) L st) : G κ (Vw κ ε lay μ) nL pc L (.long x :: .int i :: .ref (ea ε o) :: st) := by
  obtain ⟨hz, hf⟩ := ite_some hf
  intro H locs ls hV hl
  refine va_last (D := eD ε) (cl := vwCl) C.1.1 C.1.2.1 E.1 hV.1 (wd_D E.2.1) hV.2 o 1 (cA := eA ε 1) (n := n) (f := μ.2 o) (wd_at hs) rfl (inb_in hz) hd (fun H1 locs1 hP1 _ hS1 => kk hf H1 locs1 ls ⟨?_, hS1⟩ hl)
  rw [← wd_setAL hs]
  exact hP1
/-! calls -/
def q_LkV (own : String) (idx : Nat) (y : MethodName) (bytes : ByteArray) (maxL : Nat) (ret : Option FieldType) (n ci : Nat) : Prop :=
  (Cond.code y bytes maxL ret ∈ TT ∧ Cond.methodLink own idx y ∈ TT ∧ Cond.initialized y.cls ∈ TT ∧ (y.cls ≠ "java/lang/invoke/MethodHandle" ∧ y.cls ≠ "java/lang/invoke/VarHandle") ∧ (parseMethodDescriptor y.desc).map (fun d => d.parameters.length) = some n ∧ maxL ≤ 100) ∧ Cond.instanceMethod y ∈ TT ∧ Cond.selects y.cls y y ∈ TT ∧ ∃ T N, vwCl[ci]? = some (y.cls, T, N)
def q_LkS (own : String) (idx : Nat) (y : MethodName) (bytes : ByteArray) (maxL : Nat) (ret : Option FieldType) (n : Nat) : Prop :=
  (Cond.code y bytes maxL ret ∈ TT ∧ Cond.methodLink own idx y ∈ TT ∧ Cond.initialized y.cls ∈ TT ∧ (y.cls ≠ "java/lang/invoke/MethodHandle" ∧ y.cls ≠ "java/lang/invoke/VarHandle") ∧ (parseMethodDescriptor y.desc).map (fun d => d.parameters.length) = some n ∧ maxL ≤ 100) ∧ Cond.static y ∈ TT
def q_LkN (own : String) (idx : Nat) (y : MethodName) (host : String) (bytes : ByteArray) (maxL : Nat) (ret : Option FieldType) (n : Nat) : Prop :=
  (Cond.code y bytes maxL ret ∈ TT ∧ Cond.methodLinkNest own idx y host ∈ nestW ∧ Cond.initialized y.cls ∈ TT ∧ (y.cls ≠ "java/lang/invoke/MethodHandle" ∧ y.cls ≠ "java/lang/invoke/VarHandle") ∧ (parseMethodDescriptor y.desc).map (fun d => d.parameters.length) = some n ∧ maxL ≤ 100) ∧ Cond.static y ∈ TT
theorem q_words {s : State} {args : Array Value} (hts : ∀ w ∈ TT, w.before args s = true) {cw : Cond} (hc : cw ∈ TT) : ∀ w ∈ cw :: TT, ∀ (a' : Array Value) (U : State), s.WarmedH U.vm → w.before a' U = true := by
  intro w hw a' U hW
  have hw' : w ∈ TT := by
    rcases List.mem_cons.mp hw with rfl | h
    · exact hc
    · exact h
  exact word_at hW (TT_good hw') (hts w hw')
theorem q_cb {R : Room} {s : State} {args : Array Value} {y : MethodName} {bytes : ByteArray} {maxL n d d' : Nat} {r' : Option FieldType} (hR : d ≤ R.frames ∧ 120 * d ≤ R.locals) (hdd : d' + 1 ≤ d) (hts : ∀ w ∈ TT, w.before args s = true)
    (K : Cond.code y bytes maxL r' ∈ TT ∧ Cond.methodLink own idx y ∈ TT ∧ Cond.initialized y.cls ∈ TT ∧ (y.cls ≠ "java/lang/invoke/MethodHandle" ∧ y.cls ≠ "java/lang/invoke/VarHandle") ∧ (parseMethodDescriptor y.desc).map (fun d => d.parameters.length) = some n ∧ maxL ≤ 100) :
    CallB R s args own idx y bytes maxL r' (.code y bytes maxL r' :: TT) (rmd d') 0 0 n := by
  obtain ⟨k1, k2, k3, k4, k5, k6⟩ := K
  refine ⟨rfl, rfl, Nat.le_trans hdd hR.1, ?_, q_words hts k1, List.mem_cons_self, hts _ k1, hts _ k3, k4, fun sig h => ?_, hts _ k2⟩
  · have := hR.2
    show 8 + (maxL + 11) + 120 * d' ≤ R.locals
    omega
  · rw [h] at k5
    exact (Option.some.inj k5).symm
theorem Pw_blind {argv : List Value} : FrameBlind (Pw ε lay argv μ) := fun a U g mk h => ⟨h.1, h.2.1.same (u := U) rfl rfl, h.2.2.1.same (u := U) rfl, h.2.2.2⟩
theorem Pp_blind {argv : List Value} : FrameBlind (Pp argv) := fun a U g mk h => ⟨h.1, h.2.same (u := U) rfl⟩
theorem q_after {rv : Option Value} {μ' : Mm} {locs : List Loc} {H : Heap} {g : JFrame} {rest : List Value} {ls : Array Slot} {argv : Array Value} (hS : va_S (Aw lay ε) (kS κ).heap H locs) (hl : lv_has ls nL L)
    (hr : va_Run (kp κ) (kl κ) (ke κ) (kR κ) (kS κ) (km κ) (ka κ) (kb κ) (kt κ) (kc κ) H locs (kn κ) (ko κ) 0 0 (F0 (km κ) pc ls g.stack) rest (Qw ε lay rv μ' argv) (Aw lay ε)) (kk : G κ (Vw κ ε lay μ') nL (pc + 3) L (rv.toList ++ rest)) : Wk κ H locs (F0 (km κ) pc ls g.stack) := by
  intro T hT X
  obtain ⟨v, st₀, t, T', LL, h0, X', hL, e1, e2, ⟨hv, hP1, hz, hk⟩, st⟩ := hr T hT X
  have hv' : v = rv := by injection hv
  subst hv'
  rw [h0] at hz hk
  have hS' : va_S (Aw lay ε) (kS κ).heap T'.heap (locs ++ LL) := ⟨Nat.le_trans hS.1 (by rw [e1]; exact hz), fun q h1 h2 => by rw [e1, hk q (Nat.lt_of_lt_of_le h1 hS.1) h2]; exact hS.2.1 q h1 h2, fun q hq => by
    rcases List.mem_append.mp hq with h | h
    · exact hS.2.2 q h
    · exact hL q h⟩
  obtain ⟨t2, a1, b1⟩ := kk T'.heap (locs ++ LL) ls ⟨by rw [e1]; exact hP1, hS'⟩ hl T' rfl X'
  exact ⟨t2, st t2 a1, b1⟩
theorem g_callV (C : Cf κ cc nL own ret d) (E : En ε lay (kS κ)) {ks : List Nat} (hs : lay[o]? = some (.inr (ci, ks))) {y : MethodName} {bytes : ByteArray} {maxL n d' : Nat} {r' : Option FieldType} (K : q_LkV own idx y bytes maxL r' n ci) {As st0 : List Value} {rv : Option Value} {μ' : Mm} (hn : As.length = n) (hM : Sp (kl κ) ε lay y bytes maxL r' d' (.ref (ea ε o) :: As) rv μ μ') (hdd : d' + 1 ≤ d) (hst : As.reverse ++ .ref (ea ε o) :: st = st0) (hW : (st.map fun v => v.category).sum ≤ 8) (hd : decode cc pc = .ok (.invokevirtual idx, 3)) (kk : G κ (Vw κ ε lay μ') nL (pc + 3) L (rv.toList ++ st)) : G κ (Vw κ ε lay μ) nL pc L st0 := by
  obtain ⟨K1, k2, k3, T, N, k4⟩ := K
  intro H locs ls hV hl
  refine q_after (g := F0 (km κ) pc ls st0) hV.2 hl (va_runV (n := n) (C := y.cls) (As := As) (b := ea ε o) (rest := st) C.1 hM ⟨q_cb ⟨C.2.2.2.2.1, C.2.2.2.2.2.1⟩ hdd C.1.2.2.2.2 K1, C.1.2.2.2.2 _ k2, C.1.2.2.2.2 _ k3⟩ ⟨Pw_blind, va_recv (q := (y.cls, T, N)) E.1 hV.1 k4 (wd_at hs), fun U hU hWU => ⟨rfl, E.go hV.2 hU hWU, C.2.2.2.1.warm hWU, by rw [hU]; exact hV.1⟩⟩ rfl hn hl.1 hst.symm (lv_room hW) hd ⟨?_, ?_⟩) kk
  · exact C.2.2.2.2.2.2.1
  · exact C.2.2.2.2.2.2.2
theorem g_callSw (C : Cf κ cc nL own ret d) (E : En ε lay (kS κ)) {y : MethodName} {bytes : ByteArray} {maxL n d' : Nat} {r' : Option FieldType} (K : q_LkS own idx y bytes maxL r' n) {As st0 : List Value} {rv : Option Value} {μ' : Mm} (hn : As.length = n) (hM : Sp (kl κ) ε lay y bytes maxL r' d' As rv μ μ') (hdd : d' + 1 ≤ d) (hst : As.reverse ++ st = st0) (hW : (st.map fun v => v.category).sum ≤ 8) (hd : decode cc pc = .ok (.invokestatic idx, 3)) (kk : G κ (Vw κ ε lay μ') nL (pc + 3) L (rv.toList ++ st)) : G κ (Vw κ ε lay μ) nL pc L st0 := by
  obtain ⟨K1, k2⟩ := K
  intro H locs ls hV hl
  refine q_after (g := F0 (km κ) pc ls st0) hV.2 hl (va_runS (n := n) (As := As) (rest := st) C.1 hM ⟨q_cb ⟨C.2.2.2.2.1, C.2.2.2.2.2.1⟩ hdd C.1.2.2.2.2 K1, C.1.2.2.2.2 _ k2⟩ ⟨Pw_blind, fun U hU hWU => ⟨rfl, E.go hV.2 hU hWU, C.2.2.2.1.warm hWU, by rw [hU]; exact hV.1⟩⟩ rfl hn hl.1 hst.symm (lv_room hW) hd ⟨?_, ?_⟩) kk
  · exact C.2.2.2.2.2.2.1
  · exact C.2.2.2.2.2.2.2
theorem q_afterP {V : Heap → List Loc → Prop} {rv : Option Value} {locs : List Loc} {H : Heap} {g : JFrame} {rest : List Value} {ls : Array Slot} {argv : Array Value} (hV : V H locs) (hl : lv_has ls nL L)
    (hr : va_Run (kp κ) (kl κ) (ke κ) (kR κ) (kS κ) (km κ) (ka κ) (kb κ) (kt κ) (kc κ) H locs (kn κ) (ko κ) 0 0 (F0 (km κ) pc ls g.stack) rest (Qp rv argv) (fun _ => False)) (kk : G κ V nL (pc + 3) L (rv.toList ++ rest)) : Wk κ H locs (F0 (km κ) pc ls g.stack) := by
  intro T hT X
  obtain ⟨v, st₀, t, T', LL, h0, X', hL, e1, e2, ⟨hv, hh⟩, st⟩ := hr T hT X
  have hv' : v = rv := by injection hv
  subst hv'
  obtain ⟨t2, a1, b1⟩ := kk H locs ls hV hl T' (by rw [e1, hh, h0]) (Stand.forget X' (fun q h => (hL q h).elim))
  exact ⟨t2, st t2 a1, b1⟩
theorem g_callS {V : Heap → List Loc → Prop} (C : Cf κ cc nL own ret d) {y : MethodName} {bytes : ByteArray} {maxL n d' : Nat} {r' : Option FieldType} (K : q_LkS own idx y bytes maxL r' n) {As st0 : List Value} {rv : Option Value} (hn : As.length = n) (hM : Sq (kl κ) y bytes maxL r' d' As rv) (hdd : d' + 1 ≤ d) (hst : As.reverse ++ st = st0) (hW : (st.map fun v => v.category).sum ≤ 8) (hd : decode cc pc = .ok (.invokestatic idx, 3)) (kk : G κ V nL (pc + 3) L (rv.toList ++ st)) : G κ V nL pc L st0 := by
  obtain ⟨K1, k2⟩ := K
  intro H locs ls hV hl
  refine q_afterP (g := F0 (km κ) pc ls st0) hV hl (va_runS (n := n) (As := As) (rest := st) C.1 hM ⟨q_cb ⟨C.2.2.2.2.1, C.2.2.2.2.2.1⟩ hdd C.1.2.2.2.2 K1, C.1.2.2.2.2 _ k2⟩ ⟨Pp_blind, fun U hU hWU => ⟨rfl, C.2.2.2.1.warm hWU⟩⟩ rfl hn hl.1 hst.symm (lv_room hW) hd ⟨?_, ?_⟩) kk
  · exact C.2.2.2.2.2.2.1
  · exact C.2.2.2.2.2.2.2
theorem g_callN {V : Heap → List Loc → Prop} (C : Cf κ cc nL own ret d) {y : MethodName} {host : String} {bytes : ByteArray} {maxL n d' : Nat} {r' : Option FieldType} (K : q_LkN own idx y host bytes maxL r' n) {As st0 : List Value} {rv : Option Value} (hn : As.length = n) (hM : Sq (kl κ) y bytes maxL r' d' As rv) (hdd : d' + 1 ≤ d) (hst : As.reverse ++ st = st0) (hW : (st.map fun v => v.category).sum ≤ 8) (hd : decode cc pc = .ok (.invokestatic idx, 3)) (kk : G κ V nL (pc + 3) L (rv.toList ++ st)) : G κ V nL pc L st0 := by
  obtain ⟨⟨k1, k2, k3, k4, k5, k6⟩, k7⟩ := K
  intro H locs ls hV hl
  refine q_afterP (g := F0 (km κ) pc ls st0) hV hl (va_runSN (n := n) (host := host) (As := As) (rest := st) C.1 hM ⟨⟨⟨rfl, rfl, ?_, ?_, q_words C.1.2.2.2.2 k1, List.mem_cons_self⟩, C.1.2.2.2.2 _ k1, C.1.2.2.2.2 _ k3, k4, fun sig h => ?_, va_Nw.use rfl (C.2.2.2.1 _ k2)⟩, C.1.2.2.2.2 _ k7, trivial⟩ ⟨Pp_blind, fun U hU hWU => ⟨rfl, C.2.2.2.1.warm hWU⟩⟩ rfl hn hl.1 hst.symm (lv_room hW) hd ⟨?_, ?_⟩) kk
  · exact Nat.le_trans hdd C.2.2.2.2.1
  · have := C.2.2.2.2.2.1; show 8 + (maxL + 11) + 120 * d' ≤ (kR κ).locals; omega
  · rw [h] at k5; exact (Option.some.inj k5).symm
  · exact C.2.2.2.2.2.2.1
  · exact C.2.2.2.2.2.2.2
/-! returns -/
theorem g_iretw (C : Cf κ cc nL own (some .int) d) {v : Int32} {out : Int32 × Mm} (hQ : Rw κ ε lay (some (.int out.1)) out.2) (hd : decode cc pc = .ok (.ireturn, 1)) (hf : some (v, μ) = some out) : G κ (Vw κ ε lay μ) nL pc L [.int v] := by
  cases hf
  intro H locs ls hV hl
  show W _ _ _ _ _ _ _ _ _ _ _ _ _ _ (kQ κ) _
  rw [hQ]
  exact W.iret C.1.1 C.1.2.1 C.2.1 (fun t ht hW => ⟨rfl, by rw [ht]; exact hV.1, hV.2.F ht⟩) hV.2.2.2 hd C.2.2.1
theorem g_lretw (C : Cf κ cc nL own (some .long) d) {v : Int64} {out : Int64 × Mm} (hQ : Rw κ ε lay (some (.long out.1)) out.2) (hd : decode cc pc = .ok (.lreturn, 1)) (hf : some (v, μ) = some out) : G κ (Vw κ ε lay μ) nL pc L [.long v] := by
  cases hf
  intro H locs ls hV hl
  show W _ _ _ _ _ _ _ _ _ _ _ _ _ _ (kQ κ) _
  rw [hQ]
  exact W.lret C.1.1 C.1.2.1 C.2.1 (fun t ht hW => ⟨rfl, by rw [ht]; exact hV.1, hV.2.F ht⟩) hV.2.2.2 hd C.2.2.1
theorem g_zretw (C : Cf κ cc nL own (some .boolean) d) {v : Int32} {out : Int32 × Mm} (hQ : Rw κ ε lay (some (.int out.1)) out.2) (hd : decode cc pc = .ok (.ireturn, 1)) (hf : (if rbz v = true then some (v, μ) else none) = some out) : G κ (Vw κ ε lay μ) nL pc L [.int v] := by
  obtain ⟨hz, hf⟩ := ite_some hf
  cases hf
  intro H locs ls hV hl
  show W _ _ _ _ _ _ _ _ _ _ _ _ _ _ (kQ κ) _
  rw [hQ]
  exact W.zret C.1.1 C.1.2.1 C.2.1 (rbz_narrow hz) (fun t ht hW => ⟨rfl, by rw [ht]; exact hV.1, hV.2.F ht⟩) hV.2.2.2 hd C.2.2.1
theorem g_vretw (C : Cf κ cc nL own none d) {out : Mm} (hQ : Rw κ ε lay none out) (hd : decode cc pc = .ok (.return_, 1)) (hf : some μ = some out) : G κ (Vw κ ε lay μ) nL pc L [] := by
  cases hf
  intro H locs ls hV hl
  show W _ _ _ _ _ _ _ _ _ _ _ _ _ _ (kQ κ) _
  rw [hQ]
  exact W.vret C.1.1 C.1.2.1 C.2.1 (fun t ht hW => ⟨rfl, by rw [ht]; exact hV.1, hV.2.F ht⟩) hV.2.2.2 hd C.2.2.1
theorem g_iretr (C : Cf κ cc nL own (some .int) d) {v out : Int32} (hQ : Rw κ ε lay (some (.int out)) μ) (hd : decode cc pc = .ok (.ireturn, 1)) (hf : some v = some out) : G κ (Vw κ ε lay μ) nL pc L [.int v] := g_iretw (out := (out, μ)) C hQ hd (by cases hf; rfl)
theorem g_lretr (C : Cf κ cc nL own (some .long) d) {v out : Int64} (hQ : Rw κ ε lay (some (.long out)) μ) (hd : decode cc pc = .ok (.lreturn, 1)) (hf : some v = some out) : G κ (Vw κ ε lay μ) nL pc L [.long v] := g_lretw (out := (out, μ)) C hQ hd (by cases hf; rfl)
theorem g_zretr (C : Cf κ cc nL own (some .boolean) d) {v out : Int32} (hQ : Rw κ ε lay (some (.int out)) μ) (hd : decode cc pc = .ok (.ireturn, 1)) (hf : (if rbz v = true then some v else none) = some out) : G κ (Vw κ ε lay μ) nL pc L [.int v] := g_zretw (out := (out, μ)) C hQ hd (by obtain ⟨hz, hf⟩ := ite_some hf; cases hf; rw [if_pos hz])
theorem g_iretp (C : Cf κ cc nL own (some .int) d) {v out : Int32} (hQ : Rp κ (some (.int out))) (hd : decode cc pc = .ok (.ireturn, 1)) (hf : some v = some out) : G κ (Vp κ) nL pc L [.int v] := by
  cases hf
  intro H locs ls hV hl
  obtain ⟨h1, rfl⟩ := hV
  show W _ _ _ _ _ _ _ _ _ _ _ _ _ _ (kQ κ) _
  rw [hQ]
  exact W.iret C.1.1 C.1.2.1 C.2.1 (fun t ht hW => ⟨rfl, ht.trans h1⟩) (fun q h => by cases h) hd C.2.2.1
theorem g_lretp (C : Cf κ cc nL own (some .long) d) {v out : Int64} (hQ : Rp κ (some (.long out))) (hd : decode cc pc = .ok (.lreturn, 1)) (hf : some v = some out) : G κ (Vp κ) nL pc L [.long v] := by
  cases hf
  intro H locs ls hV hl
  obtain ⟨h1, rfl⟩ := hV
  show W _ _ _ _ _ _ _ _ _ _ _ _ _ _ (kQ κ) _
  rw [hQ]
  exact W.lret C.1.1 C.1.2.1 C.2.1 (fun t ht hW => ⟨rfl, ht.trans h1⟩) (fun q h => by cases h) hd C.2.2.1
theorem g_zretp (C : Cf κ cc nL own (some .boolean) d) {v out : Int32} (hQ : Rp κ (some (.int out))) (hd : decode cc pc = .ok (.ireturn, 1)) (hf : (if rbz v = true then some v else none) = some out) : G κ (Vp κ) nL pc L [.int v] := by
  obtain ⟨hz, hf⟩ := ite_some hf
  cases hf
  intro H locs ls hV hl
  obtain ⟨h1, rfl⟩ := hV
  show W _ _ _ _ _ _ _ _ _ _ _ _ _ _ (kQ κ) _
  rw [hQ]
  exact W.zret C.1.1 C.1.2.1 C.2.1 (rbz_narrow hz) (fun t ht hW => ⟨rfl, ht.trans h1⟩) (fun q h => by cases h) hd C.2.2.1
/-! calls with the function's own bind -/
theorem g_cwi (C : Cf κ cc nL own ret d) (E : En ε lay (kS κ)) {ks : List Nat} (hs : lay[o]? = some (.inr (ci, ks))) {y : MethodName} {bytes : ByteArray} {maxL n d' : Nat} {r' : Option FieldType} (K : q_LkV own idx y bytes maxL r' n ci) {As st0 : List Value} (hn : As.length = n) {f : Option (Int32 × Mm)} (hM : ∀ out, f = some out → Sp (kl κ) ε lay y bytes maxL r' d' (.ref (ea ε o) :: As) (some (.int out.1)) μ out.2) (hdd : d' + 1 ≤ d) (hst : As.reverse ++ .ref (ea ε o) :: st = st0) (hW : (st.map fun v => v.category).sum ≤ 8) (hd : decode cc pc = .ok (.invokevirtual idx, 3)) {α : Type} {g : Int32 → Mm → Option α} {out : α} (hf : bnd f g = some out) (kk : ∀ r μ', f = some (r, μ') → g r μ' = some out → G κ (Vw κ ε lay μ') nL (pc + 3) L (.int r :: st)) : G κ (Vw κ ε lay μ) nL pc L st0 := by
  obtain ⟨r, μ', h1, h2⟩ := bnd_of hf
  exact g_callV C E hs K hn (hM _ h1) hdd hst hW hd (kk r μ' h1 h2)
theorem g_cwl (C : Cf κ cc nL own ret d) (E : En ε lay (kS κ)) {ks : List Nat} (hs : lay[o]? = some (.inr (ci, ks))) {y : MethodName} {bytes : ByteArray} {maxL n d' : Nat} {r' : Option FieldType} (K : q_LkV own idx y bytes maxL r' n ci) {As st0 : List Value} (hn : As.length = n) {f : Option (Int64 × Mm)} (hM : ∀ out, f = some out → Sp (kl κ) ε lay y bytes maxL r' d' (.ref (ea ε o) :: As) (some (.long out.1)) μ out.2) (hdd : d' + 1 ≤ d) (hst : As.reverse ++ .ref (ea ε o) :: st = st0) (hW : (st.map fun v => v.category).sum ≤ 8) (hd : decode cc pc = .ok (.invokevirtual idx, 3)) {α : Type} {g : Int64 → Mm → Option α} {out : α} (hf : bnd f g = some out) (kk : ∀ r μ', f = some (r, μ') → g r μ' = some out → G κ (Vw κ ε lay μ') nL (pc + 3) L (.long r :: st)) : G κ (Vw κ ε lay μ) nL pc L st0 := by
  obtain ⟨r, μ', h1, h2⟩ := bnd_of hf
  exact g_callV C E hs K hn (hM _ h1) hdd hst hW hd (kk r μ' h1 h2)
theorem g_cwv (C : Cf κ cc nL own ret d) (E : En ε lay (kS κ)) {ks : List Nat} (hs : lay[o]? = some (.inr (ci, ks))) {y : MethodName} {bytes : ByteArray} {maxL n d' : Nat} {r' : Option FieldType} (K : q_LkV own idx y bytes maxL r' n ci) {As st0 : List Value} (hn : As.length = n) {f : Option Mm} (hM : ∀ out, f = some out → Sp (kl κ) ε lay y bytes maxL r' d' (.ref (ea ε o) :: As) none μ out) (hdd : d' + 1 ≤ d) (hst : As.reverse ++ .ref (ea ε o) :: st = st0) (hW : (st.map fun v => v.category).sum ≤ 8) (hd : decode cc pc = .ok (.invokevirtual idx, 3)) {α : Type} {g : Mm → Option α} {out : α} (hf : f.bind g = some out) (kk : ∀ μ', f = some μ' → g μ' = some out → G κ (Vw κ ε lay μ') nL (pc + 3) L st) : G κ (Vw κ ε lay μ) nL pc L st0 := by
  obtain ⟨μ', h1, h2⟩ := bind_some hf
  exact g_callV C E hs K hn (hM _ h1) hdd hst hW hd (kk μ' h1 h2)
theorem g_cri (C : Cf κ cc nL own ret d) (E : En ε lay (kS κ)) {ks : List Nat} (hs : lay[o]? = some (.inr (ci, ks))) {y : MethodName} {bytes : ByteArray} {maxL n d' : Nat} {r' : Option FieldType} (K : q_LkV own idx y bytes maxL r' n ci) {As st0 : List Value} (hn : As.length = n) {f : Option Int32} (hM : ∀ out, f = some out → Sp (kl κ) ε lay y bytes maxL r' d' (.ref (ea ε o) :: As) (some (.int out)) μ μ) (hdd : d' + 1 ≤ d) (hst : As.reverse ++ .ref (ea ε o) :: st = st0) (hW : (st.map fun v => v.category).sum ≤ 8) (hd : decode cc pc = .ok (.invokevirtual idx, 3)) {α : Type} {g : Int32 → Option α} {out : α} (hf : f.bind g = some out) (kk : ∀ r, f = some r → g r = some out → G κ (Vw κ ε lay μ) nL (pc + 3) L (.int r :: st)) : G κ (Vw κ ε lay μ) nL pc L st0 := by
  obtain ⟨r, h1, h2⟩ := bind_some hf
  exact g_callV C E hs K hn (hM _ h1) hdd hst hW hd (kk r h1 h2)
theorem g_crl (C : Cf κ cc nL own ret d) (E : En ε lay (kS κ)) {ks : List Nat} (hs : lay[o]? = some (.inr (ci, ks))) {y : MethodName} {bytes : ByteArray} {maxL n d' : Nat} {r' : Option FieldType} (K : q_LkV own idx y bytes maxL r' n ci) {As st0 : List Value} (hn : As.length = n) {f : Option Int64} (hM : ∀ out, f = some out → Sp (kl κ) ε lay y bytes maxL r' d' (.ref (ea ε o) :: As) (some (.long out)) μ μ) (hdd : d' + 1 ≤ d) (hst : As.reverse ++ .ref (ea ε o) :: st = st0) (hW : (st.map fun v => v.category).sum ≤ 8) (hd : decode cc pc = .ok (.invokevirtual idx, 3)) {α : Type} {g : Int64 → Option α} {out : α} (hf : f.bind g = some out) (kk : ∀ r, f = some r → g r = some out → G κ (Vw κ ε lay μ) nL (pc + 3) L (.long r :: st)) : G κ (Vw κ ε lay μ) nL pc L st0 := by
  obtain ⟨r, h1, h2⟩ := bind_some hf
  exact g_callV C E hs K hn (hM _ h1) hdd hst hW hd (kk r h1 h2)
theorem g_cswi (C : Cf κ cc nL own ret d) (E : En ε lay (kS κ)) {y : MethodName} {bytes : ByteArray} {maxL n d' : Nat} {r' : Option FieldType} (K : q_LkS own idx y bytes maxL r' n) {As st0 : List Value} (hn : As.length = n) {f : Option Int32} (hM : ∀ out, f = some out → Sp (kl κ) ε lay y bytes maxL r' d' As (some (.int out)) μ μ) (hdd : d' + 1 ≤ d) (hst : As.reverse ++ st = st0) (hW : (st.map fun v => v.category).sum ≤ 8) (hd : decode cc pc = .ok (.invokestatic idx, 3)) {α : Type} {g : Int32 → Option α} {out : α} (hf : f.bind g = some out) (kk : ∀ r, f = some r → g r = some out → G κ (Vw κ ε lay μ) nL (pc + 3) L (.int r :: st)) : G κ (Vw κ ε lay μ) nL pc L st0 := by
  obtain ⟨r, h1, h2⟩ := bind_some hf
  exact g_callSw C E K hn (hM _ h1) hdd hst hW hd (kk r h1 h2)
theorem g_cpi {V : Heap → List Loc → Prop} (C : Cf κ cc nL own ret d) {y : MethodName} {bytes : ByteArray} {maxL n d' : Nat} {r' : Option FieldType} (K : q_LkS own idx y bytes maxL r' n) {As st0 : List Value} (hn : As.length = n) {f : Option Int32} (hM : ∀ out, f = some out → Sq (kl κ) y bytes maxL r' d' As (some (.int out))) (hdd : d' + 1 ≤ d) (hst : As.reverse ++ st = st0) (hW : (st.map fun v => v.category).sum ≤ 8) (hd : decode cc pc = .ok (.invokestatic idx, 3)) {α : Type} {g : Int32 → Option α} {out : α} (hf : f.bind g = some out) (kk : ∀ r, f = some r → g r = some out → G κ V nL (pc + 3) L (.int r :: st)) : G κ V nL pc L st0 := by
  obtain ⟨r, h1, h2⟩ := bind_some hf
  exact g_callS C K hn (hM _ h1) hdd hst hW hd (kk r h1 h2)
theorem g_cpl {V : Heap → List Loc → Prop} (C : Cf κ cc nL own ret d) {y : MethodName} {bytes : ByteArray} {maxL n d' : Nat} {r' : Option FieldType} (K : q_LkS own idx y bytes maxL r' n) {As st0 : List Value} (hn : As.length = n) {f : Option Int64} (hM : ∀ out, f = some out → Sq (kl κ) y bytes maxL r' d' As (some (.long out))) (hdd : d' + 1 ≤ d) (hst : As.reverse ++ st = st0) (hW : (st.map fun v => v.category).sum ≤ 8) (hd : decode cc pc = .ok (.invokestatic idx, 3)) {α : Type} {g : Int64 → Option α} {out : α} (hf : f.bind g = some out) (kk : ∀ r, f = some r → g r = some out → G κ V nL (pc + 3) L (.long r :: st)) : G κ V nL pc L st0 := by
  obtain ⟨r, h1, h2⟩ := bind_some hf
  exact g_callS C K hn (hM _ h1) hdd hst hW hd (kk r h1 h2)
theorem g_cni {V : Heap → List Loc → Prop} (C : Cf κ cc nL own ret d) {y : MethodName} {host : String} {bytes : ByteArray} {maxL n d' : Nat} {r' : Option FieldType} (K : q_LkN own idx y host bytes maxL r' n) {As st0 : List Value} (hn : As.length = n) {f : Option Int32} (hM : ∀ out, f = some out → Sq (kl κ) y bytes maxL r' d' As (some (.int out))) (hdd : d' + 1 ≤ d) (hst : As.reverse ++ st = st0) (hW : (st.map fun v => v.category).sum ≤ 8) (hd : decode cc pc = .ok (.invokestatic idx, 3)) {α : Type} {g : Int32 → Option α} {out : α} (hf : f.bind g = some out) (kk : ∀ r, f = some r → g r = some out → G κ V nL (pc + 3) L (.int r :: st)) : G κ V nL pc L st0 := by
  obtain ⟨r, h1, h2⟩ := bind_some hf
  exact g_callN C K hn (hM _ h1) hdd hst hW hd (kk r h1 h2)
end R
