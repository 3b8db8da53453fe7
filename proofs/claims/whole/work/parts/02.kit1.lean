/-! MY KIT, 1: the words, the world as a memory, the judgement G -/
/-- the tables' good words: what every contract here asks for, beside its own code -/
def TT : List Cond := lw_tbl.filter goodWord
theorem TT_in {w : Cond} (i : Nat) (h : lw_tbl[i]? = some w) (hg : goodWord w = true) : w ∈ TT := List.mem_filter.mpr ⟨List.mem_of_getElem? h, hg⟩
theorem TT_good {w : Cond} (h : w ∈ TT) : (w.onTables && w.keeps) = true ∨ ∃ ty, w = .arrayClass ty := good_of_word (List.mem_filter.mp h).2
/-- a memory: ints and longs, by object and slot (or index) -/
abbrev Mm : Type := (Nat → Nat → Int32) × (Nat → Nat → Int64)
def wI (μ : Mm) (o k : Nat) (v : Int32) : Mm := (fun a b => if a = o ∧ b = k then v else μ.1 a b, μ.2)
def wL (μ : Mm) (o k : Nat) (v : Int64) : Mm := (μ.1, fun a b => if a = o ∧ b = k then v else μ.2 a b)
/-- a shape: an array (kind 0 int, 1 long, 2 boolean; its length), or an object (its class, its slots: 0 int, 1 long, j+2 the object j) -/
abbrev Sh : Type := (Nat × Nat) ⊕ (Nat × List Nat)
/-- an environment: class numbers and slots, array classes, the objects' addresses, the text constant's two addresses -/
abbrev Ev : Type := va_G × (Nat → ClassId) × (Nat → Nat) × (Nat → Nat) × (Nat → Nat)
abbrev eD (ε : Ev) : va_G := ε.1
abbrev eA (ε : Ev) : Nat → ClassId := ε.2.1
abbrev ea (ε : Ev) : Nat → Nat := ε.2.2.1
def shv (ad : Nat → Nat) (μ : Mm) (o k : Nat) : Nat → Value
  | 0 => .int (μ.1 o k)
  | 1 => .long (μ.2 o k)
  | j + 2 => .ref (ad j)
def mkE (ε : Ev) (μ : Mm) (o : Nat) : Sh → va_E
  | .inl q => .inl (eA ε q.1, q.2, if q.1 = 1 then .inr (.inl (μ.2 o)) else .inl (μ.1 o))
  | .inr q => .inr (q.1, q.2.mapIdx (fun k kd => shv (ea ε) μ o k kd))
def wd (lay : List Sh) (ε : Ev) (μ : Mm) : va_W := lay.mapIdx (fun o sh => (ea ε o, mkE ε μ o sh))
def Aw (lay : List Sh) (ε : Ev) : Nat → Prop := fun q => ∃ o, o < lay.length ∧ q = ea ε o
def tysOf (ε : Ev) : List (ClassId × FieldType) := [(eA ε 0, .int), (eA ε 1, .long), (eA ε 2, .boolean)]
theorem wd_at {lay : List Sh} {ε : Ev} {μ : Mm} {o : Nat} {sh : Sh} (h : lay[o]? = some sh) : (wd lay ε μ)[o]? = some (ea ε o, mkE ε μ o sh) := by
  simp [wd, List.getElem?_mapIdx, h]
theorem wd_of {lay : List Sh} {ε : Ev} {μ : Mm} {o : Nat} {q : Nat × va_E} (h : (wd lay ε μ)[o]? = some q) : o < lay.length ∧ q.1 = ea ε o := by
  have hl : o < (wd lay ε μ).length := (List.getElem?_eq_some_iff.mp h).1
  have hl' : o < lay.length := by simpa [wd] using hl
  rw [wd_at (List.getElem?_eq_getElem hl')] at h
  cases h
  exact ⟨hl', rfl⟩
def Apart (lay : List Sh) (ε : Ev) : Prop := ∀ i j, i < lay.length → j < lay.length → ea ε i = ea ε j → i = j
theorem wd_D {lay : List Sh} {ε : Ev} {μ : Mm} (h : Apart lay ε) : va_D (Aw lay ε) (wd lay ε μ) := by
  refine ⟨fun i j p q hi hj e => ?_, fun k q hk => ?_⟩
  · obtain ⟨a1, a2⟩ := wd_of hi
    obtain ⟨b1, b2⟩ := wd_of hj
    exact h i j a1 b1 (by rw [← a2, ← b2]; exact e)
  · obtain ⟨a1, a2⟩ := wd_of hk
    exact ⟨k, a1, a2⟩
theorem shv_wI_ne {ad : Nat → Nat} {μ : Mm} {o k v o' k' : Nat} {x : Int32} (h : ¬ (o' = o ∧ k' = k)) : shv ad (wI μ o k x) o' k' v = shv ad μ o' k' v := by
  match v with
  | 0 => simp [shv, wI, h]
  | 1 => rfl
  | j + 2 => rfl
theorem shv_wL_ne {ad : Nat → Nat} {μ : Mm} {o k v o' k' : Nat} {x : Int64} (h : ¬ (o' = o ∧ k' = k)) : shv ad (wL μ o k x) o' k' v = shv ad μ o' k' v := by
  match v with
  | 0 => rfl
  | 1 => simp [shv, wL, h]
  | j + 2 => rfl
theorem mkE_wI_ne {ε : Ev} {μ : Mm} {o k o' : Nat} {x : Int32} (h : o' ≠ o) (sh : Sh) : mkE ε (wI μ o k x) o' sh = mkE ε μ o' sh := by
  rcases sh with q | q
  · have e : (wI μ o k x).1 o' = μ.1 o' := by funext b; simp [wI, h]
    simp only [mkE, e]
    rfl
  · simp only [mkE]
    congr 2
    congr 1
    funext a b
    exact shv_wI_ne (fun z => h z.1)
theorem mkE_wL_ne {ε : Ev} {μ : Mm} {o k o' : Nat} {x : Int64} (h : o' ≠ o) (sh : Sh) : mkE ε (wL μ o k x) o' sh = mkE ε μ o' sh := by
  rcases sh with q | q
  · have e : (wL μ o k x).2 o' = μ.2 o' := by funext b; simp [wL, h]
    simp only [mkE, e]
    rfl
  · simp only [mkE]
    congr 2
    congr 1
    funext a b
    exact shv_wL_ne (fun z => h z.1)
theorem wd_set {lay : List Sh} {ε : Ev} {μ μ' : Mm} {o : Nat} {sh : Sh} {en : va_E} (h : lay[o]? = some sh) (he : mkE ε μ' o sh = en) (hn : ∀ o' sh', o' ≠ o → mkE ε μ' o' sh' = mkE ε μ o' sh') : (wd lay ε μ).set o (ea ε o, en) = wd lay ε μ' := by
  apply List.ext_getElem?
  intro i
  by_cases hi : i = o
  · subst hi
    have hl : i < (wd lay ε μ).length := by simpa [wd] using (List.getElem?_eq_some_iff.mp h).1
    rw [List.getElem?_set_self hl, wd_at h, he]
  · rw [List.getElem?_set_ne (Ne.symm hi)]
    simp only [wd, List.getElem?_mapIdx]
    cases lay[i]? with
    | none => rfl
    | some sh' => simp only [Option.map]; rw [hn i sh' hi]
theorem wd_setI {lay : List Sh} {ε : Ev} {μ : Mm} {o k ci : Nat} {ks : List Nat} {x : Int32} (h : lay[o]? = some (.inr (ci, ks))) (hk : ks[k]? = some 0) : (wd lay ε μ).set o (ea ε o, .inr (ci, (ks.mapIdx (fun k kd => shv (ea ε) μ o k kd)).set k (.int x))) = wd lay ε (wI μ o k x) := by
  refine wd_set h ?_ (fun o' sh' ho => mkE_wI_ne ho sh')
  simp only [mkE]
  congr 2
  apply List.ext_getElem?
  intro i
  by_cases hi : i = k
  · subst hi
    have hl : i < (ks.mapIdx (fun k kd => shv (ea ε) μ o k kd)).length := by simpa using (List.getElem?_eq_some_iff.mp hk).1
    rw [List.getElem?_set_self hl, List.getElem?_mapIdx, hk]
    simp [shv, wI]
  · rw [List.getElem?_set_ne (Ne.symm hi), List.getElem?_mapIdx, List.getElem?_mapIdx]
    cases ks[i]? with
    | none => rfl
    | some z => simp only [Option.map]; rw [shv_wI_ne (fun q => hi q.2)]
theorem wd_setL {lay : List Sh} {ε : Ev} {μ : Mm} {o k ci : Nat} {ks : List Nat} {x : Int64} (h : lay[o]? = some (.inr (ci, ks))) (hk : ks[k]? = some 1) : (wd lay ε μ).set o (ea ε o, .inr (ci, (ks.mapIdx (fun k kd => shv (ea ε) μ o k kd)).set k (.long x))) = wd lay ε (wL μ o k x) := by
  refine wd_set h ?_ (fun o' sh' ho => mkE_wL_ne ho sh')
  simp only [mkE]
  congr 2
  apply List.ext_getElem?
  intro i
  by_cases hi : i = k
  · subst hi
    have hl : i < (ks.mapIdx (fun k kd => shv (ea ε) μ o k kd)).length := by simpa using (List.getElem?_eq_some_iff.mp hk).1
    rw [List.getElem?_set_self hl, List.getElem?_mapIdx, hk]
    simp [shv, wL]
  · rw [List.getElem?_set_ne (Ne.symm hi), List.getElem?_mapIdx, List.getElem?_mapIdx]
    cases ks[i]? with
    | none => rfl
    | some z => simp only [Option.map]; rw [shv_wL_ne (fun q => hi q.2)]
theorem wd_setA {lay : List Sh} {ε : Ev} {μ : Mm} {o t n i : Nat} {x : Int32} (h : lay[o]? = some (.inl (t, n))) (ht : t ≠ 1) : (wd lay ε μ).set o (ea ε o, .inl (eA ε t, n, .inl (upd (μ.1 o) i x))) = wd lay ε (wI μ o i x) := by
  refine wd_set h ?_ (fun o' sh' ho => mkE_wI_ne ho sh')
  have e : (wI μ o i x).1 o = upd (μ.1 o) i x := by funext b; simp [wI, upd]
  simp [mkE, ht, e]
theorem wd_setAL {lay : List Sh} {ε : Ev} {μ : Mm} {o n i : Nat} {x : Int64} (h : lay[o]? = some (.inl (1, n))) : (wd lay ε μ).set o (ea ε o, .inl (eA ε 1, n, .inr (.inl (vp_updL (μ.2 o) i x)))) = wd lay ε (wL μ o i x) := by
  refine wd_set h ?_ (fun o' sh' ho => mkE_wL_ne ho sh')
  have e : (wL μ o i x).2 o = vp_updL (μ.2 o) i x := by funext b; simp [wL, vp_updL]
  simp [mkE, e]
def inb (i : Int32) (n : Nat) : Bool := !(decide (i < 0) || decide (n ≤ i.toNatClampNeg))
theorem inb_in {i : Int32} {n : Nat} (h : inb i n = true) : vp_in i n := by
  simp only [inb, Bool.not_eq_true', Bool.or_eq_false_iff, decide_eq_false_iff_not] at h
  exact fun z => z.elim h.1 h.2
theorem ite_some {α : Type} {c : Prop} [Decidable c] {a : Option α} {r : α} (h : (if c then a else none) = some r) : c ∧ a = some r := by
  split at h
  · exact ⟨by assumption, h⟩
  · cases h
theorem bind_some {α β : Type} {a : Option α} {f : α → Option β} {r : β} (h : a.bind f = some r) : ∃ q, a = some q ∧ f q = some r := by
  cases a with
  | none => cases h
  | some q => exact ⟨q, rfl, h⟩
/-! the judgement -/
abbrev Kx : Type := Program × Launch × Env × Room × State × MethodId × Array Value × List Frame × Method × Code × (State → Prop) × Nat × Nat
abbrev kp (κ : Kx) : Program := κ.1
abbrev kl (κ : Kx) : Launch := κ.2.1
abbrev ke (κ : Kx) : Env := κ.2.2.1
abbrev kR (κ : Kx) : Room := κ.2.2.2.1
abbrev kS (κ : Kx) : State := κ.2.2.2.2.1
abbrev km (κ : Kx) : MethodId := κ.2.2.2.2.2.1
abbrev ka (κ : Kx) : Array Value := κ.2.2.2.2.2.2.1
abbrev kb (κ : Kx) : List Frame := κ.2.2.2.2.2.2.2.1
abbrev kt (κ : Kx) : Method := κ.2.2.2.2.2.2.2.2.1
abbrev kc (κ : Kx) : Code := κ.2.2.2.2.2.2.2.2.2.1
abbrev kQ (κ : Kx) : State → Prop := κ.2.2.2.2.2.2.2.2.2.2.1
abbrev kn (κ : Kx) : Nat := κ.2.2.2.2.2.2.2.2.2.2.2.1
abbrev ko (κ : Kx) : Nat := κ.2.2.2.2.2.2.2.2.2.2.2.2
abbrev Wk (κ : Kx) (H : Heap) (locs : List Loc) (g : JFrame) : Prop := W (kp κ) (kl κ) (ke κ) (kR κ) (kS κ) (km κ) (ka κ) (kb κ) (kt κ) (kc κ) H locs (kn κ) (ko κ) (kQ κ) g
/-- from every heap with V and locals with L, the machine at pc with stack st comes to the end -/
def G (κ : Kx) (V : Heap → List Loc → Prop) (nL pc : Nat) (L : List (Nat × Value)) (st : List Value) : Prop :=
  ∀ (H : Heap) (locs : List Loc) (ls : Array Slot), V H locs → lv_has ls nL L → Wk κ H locs (F0 (km κ) pc ls st)
def rmd (d : Nat) : Room := { frames := d, cells := 0, slots := 0, locals := 120 * d }
def nestW : List Cond := [.methodLinkNest "WidenDesk$Reader" 61 ⟨"WidenDesk", "isPrimitive", "(I)Z"⟩ "WidenDesk", .methodLinkNest "WidenDesk$Reader" 83 ⟨"WidenDesk$Numbers", "isBetween", "(JI)Z"⟩ "WidenDesk", .methodLinkNest "WidenDesk$Shelf" 27 ⟨"WidenDesk", "isPrimitive", "(I)Z"⟩ "WidenDesk", .methodLinkNest "WidenDesk$Rules" 9 ⟨"WidenDesk", "isPrimitive", "(I)Z"⟩ "WidenDesk", .methodLinkNest "WidenDesk" 234 ⟨"WidenDesk$Numbers", "countChains", "(III)I"⟩ "WidenDesk"]
def Nst (U : State) : Prop := ∀ w ∈ nestW, va_Nw w U
theorem Nst.warm {s U : State} (hW : s.WarmedH U.vm) (h : Nst s) : Nst U := by
  intro w hw
  have h1 := h w hw
  simp only [nestW, List.mem_cons, List.not_mem_nil, or_false] at hw
  rcases hw with rfl | rfl | rfl | rfl | rfl <;> exact va_Nw.warmM hW h1
theorem Nst.same {u U : State} (hv : u.vm = U.vm) (h : Nst u) : Nst U := by
  intro w hw
  have h1 := h w hw
  simp only [nestW, List.mem_cons, List.not_mem_nil, or_false] at hw
  rcases hw with rfl | rfl | rfl | rfl | rfl <;> exact va_Nw.same rfl hv h1
/-- what a walk stands on: the machine, the code, the class, the words, the room, the return type -/
def Cf (κ : Kx) (cc : ByteArray) (nL : Nat) (own : String) (ret : Option FieldType) (d : Nat) : Prop :=
  CallFix (kp κ) (km κ) (kc κ) cc nL (kS κ) (ka κ) TT own ∧ (kt κ).sig.returnType = ret ∧ (kt κ).locks = false ∧ Nst (kS κ) ∧ (d ≤ (kR κ).frames ∧ 120 * d ≤ (kR κ).locals ∧ kn κ ≤ (kR κ).cells ∧ ko κ ≤ (kR κ).slots)
/-- the text constant of the reader, and String's COMPACT_STRINGS -/
def Sx (ε : Ev) (A : Nat → Prop) (U : State) (H : Heap) : Prop :=
  vk_R "WidenDesk$Reader" 54 "zbcsijfd" (ε.2.2.2.1 0) U ∧ vk_S 1 [8] [[122, 98, 99, 115, 105, 106, 102, 100]] ε.2.2.2.1 ε.2.2.2.2 A U H ∧ va_Z "java/lang/String" "COMPACT_STRINGS" "Z" (.int 1) A U H
theorem Sx.same {ε : Ev} {A : Nat → Prop} {u U : State} {H : Heap} (hv : u.vm = U.vm) (h : Sx ε A u H) : Sx ε A U H :=
  ⟨vk_R.same hv.symm h.1, vk_S.moved (by rw [hv]; exact Vm.Alike.refl _) h.2.1, va_Z.moved (by rw [hv]; exact Vm.Alike.refl _) h.2.2⟩
theorem Sx.warm {ε : Ev} {A : Nat → Prop} {s U : State} {H : Heap} (hW : s.WarmedH U.vm) (h : Sx ε A s H) : Sx ε A U H :=
  ⟨vk_R.warm hW h.1, vk_S.moved hW.alike h.2.1, va_Z.moved hW.alike h.2.2⟩
theorem Sx.kept {ε : Ev} {A : Nat → Prop} {U : State} {H H1 : Heap} (h : Sx ε A U H) (hq : ∀ a : Nat, a < H.size → ¬ A a → H1[a]? = H[a]?) : Sx ε A U H1 :=
  ⟨h.1, vk_S.kept h.2.1 hq, va_Z.kept h.2.2 hq⟩
/-- the fixed part of a world at a state -/
def En (ε : Ev) (lay : List Sh) (U : State) : Prop := va_K (eD ε) vwCl (tysOf ε) U ∧ Apart lay ε ∧ Sx ε (Aw lay ε) U U.heap
theorem En.same {ε : Ev} {lay : List Sh} {u U : State} (hv : u.vm = U.vm) (hh : u.heap = U.heap) (h : En ε lay u) : En ε lay U :=
  ⟨va_K.moved (by rw [hv]; exact Vm.Alike.refl _) h.1, h.2.1, by rw [← hh]; exact h.2.2.same hv⟩
theorem En.go {ε : Ev} {lay : List Sh} {s U : State} {H : Heap} {locs : List Loc} (h : En ε lay s) (hS : va_S (Aw lay ε) s.heap H locs) (hU : U.heap = H) (hW : s.WarmedH U.vm) : En ε lay U :=
  ⟨va_K.moved hW.alike h.1, h.2.1, by rw [hU]; exact (h.2.2.warm hW).kept hS.2.1⟩
def Vw (κ : Kx) (ε : Ev) (lay : List Sh) (μ : Mm) : Heap → List Loc → Prop := fun H locs => va_P (eD ε) vwCl (wd lay ε μ) H ∧ va_S (Aw lay ε) (kS κ).heap H locs
def Vp (κ : Kx) : Heap → List Loc → Prop := fun H locs => H = (kS κ).heap ∧ locs = []
/-- a contract over a world: its start, its end -/
def Pw (ε : Ev) (lay : List Sh) (argv : List Value) (μ : Mm) : Array Value → State → Prop := fun a U => a = argv.toArray ∧ En ε lay U ∧ Nst U ∧ va_P (eD ε) vwCl (wd lay ε μ) U.heap
def Qw (ε : Ev) (lay : List Sh) (rv : Option Value) (μ : Mm) : Array Value → State → Outcome → State → Prop := fun _ st o t => o = .returned rv ∧ va_P (eD ε) vwCl (wd lay ε μ) t.heap ∧ va_F (Aw lay ε) st t
def Pp (argv : List Value) : Array Value → State → Prop := fun a U => a = argv.toArray ∧ Nst U
def Qp (rv : Option Value) : Array Value → State → Outcome → State → Prop := fun _ st o t => o = .returned rv ∧ t.heap = st.heap
def Sp (l : Launch) (ε : Ev) (lay : List Sh) (y : MethodName) (cc : ByteArray) (nL : Nat) (ret : Option FieldType) (d : Nat) (argv : List Value) (rv : Option Value) (μ μ' : Mm) : Prop :=
  Met l y (.code y cc nL ret :: TT) (rmd d) (Pw ε lay argv μ) (Qw ε lay rv μ') 0 0 (Aw lay ε)
def Sq (l : Launch) (y : MethodName) (cc : ByteArray) (nL : Nat) (ret : Option FieldType) (d : Nat) (argv : List Value) (rv : Option Value) : Prop :=
  Met l y (.code y cc nL ret :: TT) (rmd d) (Pp argv) (Qp rv) 0 0 (fun _ => False)
def Rw (κ : Kx) (ε : Ev) (lay : List Sh) (rv : Option Value) (μ : Mm) : Prop := kQ κ = MQ (kb κ) (Qw ε lay rv μ) (ka κ) (kS κ) (kn κ) (ko κ) (Aw lay ε)
def Rp (κ : Kx) (rv : Option Value) : Prop := kQ κ = MQ (kb κ) (Qp rv) (ka κ) (kS κ) (kn κ) (ko κ) (fun _ => False)
/-- Met.ofW, for a method of any class that no native row runs instead of -/
theorem Met.ofWF {l : Launch} {y : MethodName} {ws ws' : List Cond} {rm : Room} {Pc : Array Value → State → Prop} {Qc : Array Value → State → Outcome → State → Prop} {mc ms : Nat} {free : Addr → Prop} {cc : ByteArray} {maxL : Nat} {ret : Option FieldType}
    (hy : plainFor y = true) (hw : ws = Cond.code y cc maxL ret :: ws')
    (body : ∀ p e s m args below meth c s₁, BodyLoose p l y (headSpec ws rm) cc maxL ret e s m args below meth c s₁ → c.maxLocals = maxL → Pc args s →
      W p l e (headSpec ws rm).room s m args below meth c s.heap [] 0 0 (MQ below Qc args s mc ms free) (entryFrame m args maxL)) : Met l y ws rm Pc Qc mc ms free := by
  refine MetFree.of_bodySF (code := cc) (maxLocals := maxL) (ret := ret) hy ?_ ?_
  · intro args s m h hn
    obtain ⟨meth, c, h1, h2, h3, h4, h5, h6, -, -⟩ := Cond.code_spec hn (atoms_spec (ws := ws) h _ (by rw [hw]; exact List.mem_cons_self))
    exact ⟨meth, c, h1, h2, h3, h4, h5, h6⟩
  · intro p e s m args below meth c s₁ B hml hP _
    have hh0 : s₁.heap = s.heap := by rw [B.state]; rfl
    obtain ⟨t, a1, o, b1, b2, b3⟩ := body p e s m args below meth c s₁ B hml hP s₁ hh0 (Stand.of_body B)
    exact ⟨t, o, a1, b1, b2, ⟨b3.1, b3.2⟩⟩
theorem Sp.of {l : Launch} {ε : Ev} {lay : List Sh} {y : MethodName} {cc : ByteArray} {nL : Nat} {ret : Option FieldType} {d : Nat} {argv : List Value} {rv : Option Value} {μ μ' : Mm} (L : List (Nat × Value)) (hL : lv_args 0 argv = L) (hy : plainFor y = true) (hn : (lg_sl argv).length ≤ nL)
    (body : ∀ κ : Kx, kl κ = l → Cf κ cc nL y.cls ret d → En ε lay (kS κ) → Rw κ ε lay rv μ' → G κ (Vw κ ε lay μ) nL 0 L []) : Sp l ε lay y cc nL ret d argv rv μ μ' := by
  refine Met.ofWF (cc := cc) (maxL := nL) (ret := ret) hy rfl ?_
  intro p e s m args below meth c s₁ B hml hv
  obtain ⟨rfl, hE, hN, hP⟩ := hv
  have hts := atoms_spec (ws := .code y cc nL ret :: TT) B.pre
  have hl := lv_entry argv (n := nL) hn
  rw [lg_entry_eq]
  rw [hL] at hl
  exact body (p, l, e, rmd d, s, m, argv.toArray, below, meth, c, MQ below (Qw ε lay rv μ') argv.toArray s 0 0 (Aw lay ε), 0, 0) rfl ⟨⟨B.exec, B.bytes, hml, findClass_of_methodNamed B.named, fun w h => hts w (List.mem_cons_of_mem _ h)⟩, B.returns, B.notSynchronized, hN, Nat.le_refl _, Nat.le_refl _, Nat.zero_le _, Nat.zero_le _⟩ hE rfl s.heap [] _ ⟨hP, va_S.rf⟩ hl
theorem Sq.of {l : Launch} {y : MethodName} {cc : ByteArray} {nL : Nat} {ret : Option FieldType} {d : Nat} {argv : List Value} {rv : Option Value} (L : List (Nat × Value)) (hL : lv_args 0 argv = L) (hy : plainFor y = true) (hn : (lg_sl argv).length ≤ nL)
    (body : ∀ κ : Kx, kl κ = l → Cf κ cc nL y.cls ret d → Rp κ rv → G κ (Vp κ) nL 0 L []) : Sq l y cc nL ret d argv rv := by
  refine Met.ofWF (cc := cc) (maxL := nL) (ret := ret) hy rfl ?_
  intro p e s m args below meth c s₁ B hml hv
  obtain ⟨rfl, hN⟩ := hv
  have hts := atoms_spec (ws := .code y cc nL ret :: TT) B.pre
  have hl := lv_entry argv (n := nL) hn
  rw [lg_entry_eq]
  rw [hL] at hl
  exact body (p, l, e, rmd d, s, m, argv.toArray, below, meth, c, MQ below (Qp rv) argv.toArray s 0 0 (fun _ => False), 0, 0) rfl ⟨⟨B.exec, B.bytes, hml, findClass_of_methodNamed B.named, fun w h => hts w (List.mem_cons_of_mem _ h)⟩, B.returns, B.notSynchronized, hN, Nat.le_refl _, Nat.le_refl _, Nat.zero_le _, Nat.zero_le _⟩ rfl s.heap [] _ ⟨rfl, rfl⟩ hl
