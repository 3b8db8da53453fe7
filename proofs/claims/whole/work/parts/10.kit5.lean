/-! MY KIT, 5: makers -/
abbrev upK (κ : Kx) (a b : Nat) : Kx := (kp κ, kl κ, ke κ, kR κ, kS κ, km κ, ka κ, kb κ, kt κ, kc κ, kQ κ, kn κ + a, ko κ + b)
theorem Cf.up {κ : Kx} {cc : ByteArray} {nL : Nat} {own : String} {ret : Option FieldType} {d a b : Nat} (C : Cf κ cc nL own ret d) (h1 : kn κ + a ≤ (kR κ).cells) (h2 : ko κ + b ≤ (kR κ).slots) : Cf (upK κ a b) cc nL own ret d :=
  ⟨C.1, C.2.1, C.2.2.1, C.2.2.2.1, C.2.2.2.2.1, C.2.2.2.2.2.1, h1, h2⟩
def KK (ε : Ev) (U : State) : Prop := va_K (eD ε) vwCl (tysOf ε) U
def Vc (s : State) (ε : Ev) (ws : va_W) (A : Nat → Prop) : Heap → List Loc → Prop := fun H locs => va_P (eD ε) vwCl ws H ∧ va_D A ws ∧ va_S A s.heap H locs
def Ag (κ : Kx) (A : Nat → Prop) : Prop := ∀ q, (kS κ).heap.size ≤ q → A q
section R
variable {κ : Kx} {nL pc : Nat} {L : List (Nat × Value)} {st : List Value} {cc : ByteArray} {own : String} {ret : Option FieldType} {d : Nat} {ε : Ev} {ws : va_W} {A : Nat → Prop} {idx ci k o : Nat} {ty : FieldType} {fin : Bool}
theorem c_obj {V : Heap → List Loc → Prop} (C : Cf κ cc nL own ret d) (hd1 : 1 ≤ d) {a : Nat} (h1 : Cond.methodLink own idx Lib.objectInit ∈ TT) (h2 : Cond.instanceMethod Lib.objectInit ∈ TT) (h3 : Cond.code Lib.objectInit ⟨#[0xb1]⟩ 1 none ∈ TT) (hW : (st.map fun v => v.category).sum ≤ 8) (hd : decode cc pc = .ok (.invokespecial idx, 3)) (kk : G κ V nL (pc + 3) L st) : G κ V nL pc L (.ref a :: st) := by
  intro H locs ls hV hl
  have g1 := C.2.2.2.2.1
  have g2 := C.2.2.2.2.2.1
  refine W.objInit C.1.1 C.1.2.1 C.1.2.2.2.1 (C.1.2.2.2.2 _ h1) (C.1.2.2.2.2 _ h2) (C.1.2.2.2.2 _ h3) (g := F0 (km κ) pc ls (.ref a :: st)) rfl (by rw [C.1.2.2.1]; exact hl.1) rfl hd (by omega) (by show 2 * 0 + _ + 12 ≤ _; omega) (kk H locs ls hV hl)
theorem c_newa (C : Cf κ cc nL own ret d) (K : KK ε (kS κ)) (hA : Ag κ A) {atype : ArrayType} (hw : Cond.arrayClass (newarray.typeOf atype) ∈ TT) {t N : Nat} (ht : (tysOf ε)[t]? = some (eA ε t, newarray.typeOf atype)) {a0 : vp_A} (ha : ∀ cA : ClassId, vp_cell cA a0 = arrV cA N (fun _ => defaultValue (newarray.typeOf atype))) {n : Int32} (hn : ¬ n < 0) (hN : n.toNatClampNeg = N) (hby : N * componentBytes (newarray.typeOf atype) ≤ 536870912) (hc : kn κ + 1 ≤ (kR κ).cells) (hs : ko κ + N ≤ (kR κ).slots) (hd : decode cc pc = .ok (.newarray atype, 2)) (kk : ∀ q, G (upK κ 1 N) (Vc (kS κ) ε (ws ++ [(q, .inl (eA ε t, a0))]) A) nL (pc + 2) L (.ref q :: st)) : G κ (Vc (kS κ) ε ws A) nL pc L (.int n :: st) := by
  intro H locs ls hV hl
  refine va_newa (D := eD ε) (cl := vwCl) C.1.1 C.1.2.1 (C.1.2.2.2.2 _ hw) rfl K hV.1 hV.2.1 hV.2.2 hA ha hn hN hby hc hs hd (fun q cA H1 hK1 hP1 hD1 hS1 => ?_)
  have e1 := (K.2 t _ ht).2
  have e2 := (hK1.2 (tysOf ε).length (cA, newarray.typeOf atype) (by rw [List.getElem?_append_right (Nat.le_refl _)]; simp)).2
  have he : cA = eA ε t := by
    cases atype <;> exact Option.some.inj (e2.symm.trans e1)
  subst he
  exact kk q H1 locs ls ⟨hP1, hD1, hS1⟩ hl
theorem c_putF (C : Cf κ cc nL own ret d) (K : KK ε (kS κ)) (hin : (kt κ).name = "<init>") (F : q_Fd own idx ci k ty true) {q0 a : Nat} {fs : List Value} (he : ws[q0]? = some (a, .inr (ci, fs))) (hl : k < fs.length) {v : Value} (hn : narrow ty v = v) (hfit : fits ty v = true) (hdecl : ∀ T N, vwCl[ci]? = some (own, T, N) → (T k).1 = own) (hcl : ∃ T N, vwCl[ci]? = some (own, T, N)) {ws' : va_W} (hws : ws.set q0 (a, .inr (ci, fs.set k v)) = ws') (hd : decode cc pc = .ok (.putfield idx, 3)) (kk : G κ (Vc (kS κ) ε ws' A) nL (pc + 3) L st) : G κ (Vc (kS κ) ε ws A) nL pc L (v :: .ref a :: st) := by
  obtain ⟨CC, T, N, ty0, h1, h2, h3, h4, h5, h6, h7, h8⟩ := F
  obtain ⟨T', N', hc'⟩ := hcl
  have e := Option.some.inj (h1.symm.trans hc')
  have e1 : CC = own := congrArg Prod.fst e
  subst e1
  subst hws
  intro H locs ls hV hl'
  exact va_putF (D := eD ε) (cl := vwCl) (ci := ci) (C := CC) (T := T) (N := N) C.1.1 C.1.2.1 C.1.2.2.2.2 h3 ty0 h5 h6 C.1.2.2.2.1 K hV.1 hV.2.1 hV.2.2 q0 he h1 k h2 (C.1.2.2.2.2 _ h4) (fun _ h => h) h8 hin (hdecl T N h1) (ty := ty) (v := v) (by rw [h5 k h2, h7]) hn hfit hl hd (fun H1 locs1 hP1 hD1 hS1 => kk H1 locs1 ls ⟨hP1, hD1, hS1⟩ hl')
theorem c_put (C : Cf κ cc nL own ret d) (K : KK ε (kS κ)) (F : q_Fd own idx ci k ty false) {q0 a : Nat} {fs : List Value} (he : ws[q0]? = some (a, .inr (ci, fs))) (hl : k < fs.length) {v : Value} (hn : narrow ty v = v) (hfit : fits ty v = true) {ws' : va_W} (hws : ws.set q0 (a, .inr (ci, fs.set k v)) = ws') (hd : decode cc pc = .ok (.putfield idx, 3)) (kk : G κ (Vc (kS κ) ε ws' A) nL (pc + 3) L st) : G κ (Vc (kS κ) ε ws A) nL pc L (v :: .ref a :: st) := by
  obtain ⟨CC, T, N, ty0, h1, h2, h3, h4, h5, h6, h7, h8⟩ := F
  subst hws
  intro H locs ls hV hl'
  exact va_put (D := eD ε) (cl := vwCl) (ci := ci) (C := CC) (T := T) (N := N) C.1.1 C.1.2.1 C.1.2.2.2.2 h3 ty0 h5 h6 C.1.2.2.2.1 K hV.1 hV.2.1 hV.2.2 q0 he h1 k h2 (C.1.2.2.2.2 _ h4) (fun _ h => h) h8 (ty := ty) (v := v) (by rw [h5 k h2, h7]) hn hfit hl hd (fun H1 locs1 hP1 hD1 hS1 => kk H1 locs1 ls ⟨hP1, hD1, hS1⟩ hl')
theorem c_getr (C : Cf κ cc nL own ret d) (K : KK ε (kS κ)) (F : q_Fd own idx ci k ty fin) {q0 a : Nat} {fs : List Value} (he : ws[q0]? = some (a, .inr (ci, fs))) {v : Value} (hv : fs[k]? = some v) (hd : decode cc pc = .ok (.getfield idx, 3)) (kk : G κ (Vc (kS κ) ε ws A) nL (pc + 3) L (v :: st)) : G κ (Vc (kS κ) ε ws A) nL pc L (.ref a :: st) := by
  obtain ⟨CC, T, N, ty0, h1, h2, h3, h4, h5, h6, h7, h8⟩ := F
  intro H locs ls hV hl
  exact va_get (D := eD ε) (cl := vwCl) (ci := ci) (C := CC) (T := T) (N := N) C.1.1 C.1.2.1 C.1.2.2.2.2 h3 C.1.2.2.2.1 K hV.1 q0 he h1 k h2 (C.1.2.2.2.2 _ h4) (fun _ h => h) (v := v) hv hd (kk H locs ls hV hl)
theorem c_iast (C : Cf κ cc nL own ret d) (K : KK ε (kS κ)) {q0 a n : Nat} {f : Nat → Int32} (he : ws[q0]? = some (a, .inl (eA ε 0, n, .inl f))) {i x : Int32} (hi : inb i n = true) {ws' : va_W} (hws : ws.set q0 (a, .inl (eA ε 0, n, .inl (upd f i.toNatClampNeg x))) = ws') (hd : decode cc pc = .ok (.iastore, 1)) (kk : G κ (Vc (kS κ) ε ws' A) nL (pc + 1) L st) : G κ (Vc (kS κ) ε ws A) nL pc L (.int x :: .int i :: .ref a :: st) := by
  subst hws
  intro H locs ls hV hl
  exact va_iast (D := eD ε) (cl := vwCl) C.1.1 C.1.2.1 K hV.1 hV.2.1 hV.2.2 q0 0 (cA := eA ε 0) (n := n) (f := f) he rfl (inb_in hi) hd (fun H1 locs1 hP1 hD1 hS1 => kk H1 locs1 ls ⟨hP1, hD1, hS1⟩ hl)
/-- a class that can be made: its number, its slots, their types -/
def q_Cl (own : String) (idx ci : Nat) (tys : List FieldType) : Prop := ∃ (C : String) (T : u_T) (N : Nat) (ty0 : Nat → FieldType), vwCl[ci]? = some (C, T, N) ∧ (∀ w ∈ u_ws C T N, w ∈ TT) ∧ (∀ k, k < N → parseFieldDescriptor (T k).2.2.1 = some (ty0 k)) ∧ Cond.classLink own idx C ∈ TT ∧ Cond.instantiable C N ∈ TT ∧ Cond.initialized C ∈ TT ∧ N = tys.length ∧ ∀ k, k < N → tys[k]? = some (ty0 k)
theorem c_new (C : Cf κ cc nL own ret d) (K : KK ε (kS κ)) (hA : Ag κ A) {tys : List FieldType} (Q : q_Cl own idx ci tys) (hc : kn κ + 1 ≤ (kR κ).cells) (hs : ko κ + tys.length ≤ (kR κ).slots) (hd : decode cc pc = .ok (.new idx, 3)) (kk : ∀ q, G (upK κ 1 tys.length) (Vc (kS κ) ε (ws ++ [(q, .inr (ci, tys.map defaultValue))]) A) nL (pc + 3) L (.ref q :: st)) : G κ (Vc (kS κ) ε ws A) nL pc L st := by
  obtain ⟨CC, T, N, ty0, h1, h2, h3, h4, h5, h6, h7, h8⟩ := Q
  subst h7
  intro H locs ls hV hl
  refine va_new (D := eD ε) (cl := vwCl) (ci := ci) (C := CC) (T := T) (N := tys.length) C.1.1 C.1.2.1 C.1.2.2.2.2 h2 ty0 h3 C.1.2.2.2.1 (C.1.2.2.2.2 _ h4) (C.1.2.2.2.2 _ h5) (C.1.2.2.2.2 _ h6) K hV.1 hV.2.1 hV.2.2 hA h1 (fs := tys.map defaultValue) (fun j hj => ?_) hc hs hd (fun q H1 hP1 hD1 hS1 => kk q H1 locs ls ⟨hP1, hD1, hS1⟩ hl)
  have := h8 j hj
  simp [vp_V, this]
end R
/-- a maker's contract: over the blank object at h0, it ends with the cells W u, for some addresses u that are new -/
def Pc0 (ε : Ev) (argv : List Value) (ws : va_W) : Array Value → State → Prop := fun a U => a = argv.toArray ∧ KK ε U ∧ Nst U ∧ va_P (eD ε) vwCl ws U.heap
def Ac (h0 : Nat) (sz : Nat) : Nat → Prop := fun q => q = h0 ∨ sz ≤ q
def Qc0 (ε : Ev) (h0 : Nat) (Wu : List Nat → va_W) (n : Nat) : Array Value → State → Outcome → State → Prop := fun _ st o t => o = .returned none ∧ (∃ u : List Nat, u.length = n ∧ va_P (eD ε) vwCl (Wu u) t.heap ∧ va_D (Ac h0 st.heap.size) (Wu u)) ∧ va_F (Ac h0 st.heap.size) st t
def rmc (d mc ms : Nat) : Room := { frames := d, cells := mc, slots := ms, locals := 120 * d }
def Sc (l : Launch) (ε : Ev) (y : MethodName) (cc : ByteArray) (nL d mc ms h0 : Nat) (ws : va_W) (Wu : List Nat → va_W) (n : Nat) : Prop :=
  ∀ sz : Nat, Met l y (.code y cc nL none :: TT) (rmc d mc ms) (fun a U => Pc0 ε [.ref h0] ws a U ∧ U.heap.size = sz ∧ h0 < sz) (Qc0 ε h0 Wu n) mc ms (Ac h0 sz)
def Rc (κ : Kx) (ε : Ev) (h0 mc ms : Nat) (Wu : List Nat → va_W) (n : Nat) : Prop := kQ κ = MQ (kb κ) (Qc0 ε h0 Wu n) (ka κ) (kS κ) mc ms (Ac h0 (kS κ).heap.size)
theorem Sc.of {l : Launch} {ε : Ev} {y : MethodName} {cc : ByteArray} {nL d mc ms h0 : Nat} {en : va_E} {Wu : List Nat → va_W} {n : Nat} (hy : plainFor y = true) (hn : 1 ≤ nL) (hin : y.name = "<init>")
    (body : ∀ κ : Kx, kl κ = l → kn κ = 0 → ko κ = 0 → kR κ = rmc d mc ms → (kt κ).name = "<init>" → Cf κ cc nL y.cls none d → KK ε (kS κ) → h0 < (kS κ).heap.size → Rc κ ε h0 mc ms Wu n → G κ (Vc (kS κ) ε [(h0, en)] (Ac h0 (kS κ).heap.size)) nL 0 [(0, .ref h0)] []) : Sc l ε y cc nL d mc ms h0 [(h0, en)] Wu n := by
  intro sz
  refine Met.ofWF (cc := cc) (maxL := nL) (ret := none) hy rfl ?_
  intro p e s m args below meth c s₁ B hml hv
  obtain ⟨⟨rfl, hK, hN, hP⟩, rfl, hlt⟩ := hv
  have hts := atoms_spec (ws := .code y cc nL none :: TT) B.pre
  have hl := lv_entry [.ref h0] (n := nL) (show (lg_sl [.ref h0]).length ≤ nL from hn)
  rw [lg_entry_eq]
  have hD : va_D (Ac h0 s.heap.size) [(h0, en)] := by
    refine ⟨fun i j x y hi hj _ => ?_, fun k q hk => ?_⟩
    · have h1 := (List.getElem?_eq_some_iff.mp hi).1
      have h2 := (List.getElem?_eq_some_iff.mp hj).1
      simp only [List.length_singleton] at h1 h2
      omega
    · have h1 := (List.getElem?_eq_some_iff.mp hk).1
      simp only [List.length_singleton] at h1
      have h0' : k = 0 := by omega
      subst h0'
      cases hk
      exact Or.inl rfl
  exact body (p, l, e, rmc d mc ms, s, m, [Value.ref h0].toArray, below, meth, c, MQ below (Qc0 ε h0 Wu n) [Value.ref h0].toArray s mc ms (Ac h0 s.heap.size), 0, 0) rfl rfl rfl rfl ((name_of_methodNamed B.named B.method).1.trans hin) ⟨⟨B.exec, B.bytes, hml, findClass_of_methodNamed B.named, fun w h => hts w (List.mem_cons_of_mem _ h)⟩, B.returns, B.notSynchronized, hN, Nat.le_refl _, Nat.le_refl _, Nat.zero_le _, Nat.zero_le _⟩ hK hlt rfl s.heap [] _ ⟨hP, hD, va_S.rf⟩ hl
theorem c_ret {κ : Kx} {nL pc : Nat} {L : List (Nat × Value)} {cc : ByteArray} {own : String} {d : Nat} {ε : Ev} {ws : va_W} {h0 mc ms n : Nat} {Wu : List Nat → va_W} {A : Nat → Prop} (C : Cf κ cc nL own none d) (hQ : Rc κ ε h0 mc ms Wu n) (hA : A = Ac h0 (kS κ).heap.size) (h1 : kn κ = mc) (h2 : ko κ = ms) (u : List Nat) (hu : u.length = n) (hw : Wu u = ws) (hd : decode cc pc = .ok (.return_, 1)) : G κ (Vc (kS κ) ε ws A) nL pc L [] := by
  intro H locs ls hV hl
  subst hA
  show W _ _ _ _ _ _ _ _ _ _ _ _ _ _ (kQ κ) _
  rw [hQ, ← h1, ← h2]
  subst hw
  exact W.vret C.1.1 C.1.2.1 C.2.1 (fun t ht hW => ⟨rfl, ⟨u, hu, by rw [ht]; exact hV.1, hV.2.1⟩, hV.2.2.F ht⟩) hV.2.2.2.2 hd C.2.2.1
/-- a maker's link -/
def q_LkI (own : String) (idx : Nat) (y : MethodName) (bytes : ByteArray) (maxL : Nat) : Prop :=
  (Cond.code y bytes maxL none ∈ TT ∧ Cond.methodLink own idx y ∈ TT ∧ Cond.initialized y.cls ∈ TT ∧ (y.cls ≠ "java/lang/invoke/MethodHandle" ∧ y.cls ≠ "java/lang/invoke/VarHandle") ∧ (parseMethodDescriptor y.desc).map (fun d => d.parameters.length) = some 0 ∧ maxL ≤ 100) ∧ y.name = "<init>" ∧ Cond.instanceMethod y ∈ TT
theorem c_init {κ : Kx} {nL pc : Nat} {L : List (Nat × Value)} {st : List Value} {cc : ByteArray} {own : String} {ret : Option FieldType} {d : Nat} {ε : Ev} {wr : va_W} {A : Nat → Prop} {idx : Nat} {en : va_E}
    (C : Cf κ cc nL own ret d) (K : KK ε (kS κ)) (hA : Ag κ A) {y : MethodName} {bytes : ByteArray} {maxL d' mc ms n q : Nat} {Wu : List Nat → va_W} (Lk : q_LkI own idx y bytes maxL) (hM : Sc (kl κ) ε y bytes maxL d' mc ms q [(q, en)] Wu n) (hdd : d' + 1 ≤ d) (hc : kn κ + mc ≤ (kR κ).cells) (hs : ko κ + ms ≤ (kR κ).slots) (hW : (st.map fun v => v.category).sum ≤ 8) (hd : decode cc pc = .ok (.invokespecial idx, 3))
    (kk : ∀ u : List Nat, u.length = n → G (upK κ mc ms) (Vc (kS κ) ε (wr ++ Wu u) A) nL (pc + 3) L st) : G κ (Vc (kS κ) ε (wr ++ [(q, en)]) A) nL pc L (.ref q :: st) := by
  obtain ⟨⟨k1, k2, k3, k4, k5, k6⟩, k7, k8⟩ := Lk
  intro H locs ls hV hl
  obtain ⟨hP, hD, hS⟩ := hV
  have hlast : (wr ++ [(q, en)])[wr.length]? = some (q, en) := by simp
  have hPr : va_P (eD ε) vwCl wr H := fun k x hk => hP k x (by rw [List.getElem?_append_left (List.getElem?_eq_some_iff.mp hk).1]; exact hk)
  have hPq : va_P (eD ε) vwCl [(q, en)] H := fun k x hk => by
    have h1 := (List.getElem?_eq_some_iff.mp hk).1
    simp only [List.length_singleton] at h1
    have h0 : k = 0 := by omega
    subst h0
    cases hk
    exact hP _ _ hlast
  have hqlt : q < H.size := (hP _ _ hlast).lt
  have hqA : A q := hD.2 _ _ hlast
  have apart : ∀ (k : Nat) (x : Nat × va_E), wr[k]? = some x → x.1 < H.size ∧ x.1 ≠ q := by
    intro k x hk
    have hkl := (List.getElem?_eq_some_iff.mp hk).1
    refine ⟨(hPr k x hk).lt, fun e => ?_⟩
    have := hD.1 k wr.length x (q, en) (by rw [List.getElem?_append_left hkl]; exact hk) hlast e
    omega
  have hAc : ∀ x, Ac q H.size x → A x := fun x hx => hx.elim (fun e => e ▸ hqA) (fun h => hA x (Nat.le_trans hS.1 h))
  have hrun : va_Run (kp κ) (kl κ) (ke κ) (kR κ) (kS κ) (km κ) (ka κ) (kb κ) (kt κ) (kc κ) H locs (kn κ) (ko κ) mc ms (F0 (km κ) pc ls (.ref q :: st)) st (Qc0 ε q Wu n [Value.ref q].toArray) (Ac q H.size) := by
    refine va_runI (n := 0) (As := []) (rest := st) (maxL := maxL) (bytes := bytes) (ws := .code y bytes maxL none :: TT) (rm := rmc d' mc ms) C.1 (hM H.size) ⟨⟨rfl, rfl, Nat.le_trans hdd C.2.2.2.2.1, ?_, q_words C.1.2.2.2.2 k1, List.mem_cons_self, C.1.2.2.2.2 _ k1, C.1.2.2.2.2 _ k3, k4, fun sig h => ?_, C.1.2.2.2.2 _ k2⟩, k7, C.1.2.2.2.2 _ k8⟩ ⟨fun a U g mk h => ⟨⟨h.1.1, va_K.moved (u := U) (Vm.Alike.refl _) h.1.2.1, h.1.2.2.1.same (u := U) rfl, h.1.2.2.2⟩, h.2⟩, fun U hU hWU => ⟨⟨rfl, va_K.moved hWU.alike K, C.2.2.2.1.warm hWU, by rw [hU]; exact hPq⟩, by rw [hU], hqlt⟩⟩ rfl rfl hl.1 rfl (lv_room hW) hd ⟨hc, hs⟩
    · have := C.2.2.2.2.2.1
      show 8 + (maxL + 11) + 120 * d' ≤ (kR κ).locals
      omega
    · rw [h] at k5; exact (Option.some.inj k5).symm
  intro T hT X
  obtain ⟨v, st₀, t, T', LL, h0, X', hL, e1, e2, ⟨hv, ⟨u, hu, hP1, hD1⟩, hz, hk⟩, stp⟩ := hrun T hT X
  have hv' : v = none := by injection hv
  subst hv'
  rw [h0] at hz hk hD1
  have hS' : va_S A (kS κ).heap T'.heap (locs ++ LL) := ⟨Nat.le_trans hS.1 (by rw [e1]; exact hz), fun x h1 h2 => by rw [e1, hk x (Nat.lt_of_lt_of_le h1 hS.1) (fun z => h2 (hAc x z))]; exact hS.2.1 x h1 h2, fun x hx => by
    rcases List.mem_append.mp hx with h | h
    · exact hS.2.2 x h
    · exact hAc _ (hL x h)⟩
  have hP' : va_P (eD ε) vwCl (wr ++ Wu u) T'.heap := by
    rw [e1]
    refine va_P.app (hPr.kept (fun k x hx => ?_)) hP1
    obtain ⟨g1, g2⟩ := apart k x hx
    exact hk x.1 g1 (fun z => z.elim g2 (fun h => absurd g1 (Nat.not_lt.mpr h)))
  have hDr : va_D A wr := ⟨fun i j x y hi hj e => hD.1 i j x y (by rw [List.getElem?_append_left (List.getElem?_eq_some_iff.mp hi).1]; exact hi) (by rw [List.getElem?_append_left (List.getElem?_eq_some_iff.mp hj).1]; exact hj) e, fun k x hx => hD.2 k x (by rw [List.getElem?_append_left (List.getElem?_eq_some_iff.mp hx).1]; exact hx)⟩
  have hD' : va_D A (wr ++ Wu u) := va_D.app hDr (hD1.weaken (fun k x _ h => hAc _ h)) (fun i j x y hx hy hxy => by
    obtain ⟨g1, g2⟩ := apart i x hx
    have := hD1.2 j y hy
    rw [← hxy] at this
    exact this.elim g2 (fun h => absurd g1 (Nat.not_lt.mpr h)))
  obtain ⟨t2, a1, b1⟩ := kk u hu T'.heap (locs ++ LL) ls ⟨hP', hD', hS'⟩ hl T' rfl X'
  exact ⟨t2, stp t2 a1, b1⟩
def fT (v : Int32) (k : Nat) : Nat → Int32 := fun j => if j < k then v else 0
theorem fT_upd (v : Int32) (k : Nat) : upd (fT v k) k v = fT v (k + 1) := by
  funext j
  simp only [upd, fT]
  by_cases h : j = k
  · subst h; simp
  · rw [if_neg h]
    by_cases h2 : j < k
    · rw [if_pos h2, if_pos (by omega)]
    · rw [if_neg h2, if_neg (by omega)]
theorem inb_nI {k n : Nat} (h : k < n) (hn : n < 2 ^ 31) : inb (nI k) n = true := by
  have := nI_in h hn
  simp only [not_or] at this
  simp only [inb, Bool.not_eq_true', Bool.or_eq_false_iff, decide_eq_false_iff_not]
  exact this
theorem cb_26 : (Int8.ofInt 26).toInt32 = 26 := by decide
theorem cb_84 : (Int8.ofInt 84).toInt32 = 84 := by decide
theorem cs_140 : (Int16.ofInt 140).toInt32 = 140 := by decide
theorem cs_154 : (Int16.ofInt 154).toInt32 = 154 := by decide
theorem cs_156 : (Int16.ofInt 156).toInt32 = 156 := by decide
theorem cs_280 : (Int16.ofInt 280).toInt32 = 280 := by decide
theorem cs_924 : (Int16.ofInt 924).toInt32 = 924 := by decide
theorem lst1 {u : List Nat} (h : u.length = 1) : ∃ a0 : Nat, u = [a0] := by
  match u, h with
  | [a0], _ => exact ⟨a0, rfl⟩
theorem lst3 {u : List Nat} (h : u.length = 3) : ∃ a0 a1 a2 : Nat, u = [a0, a1, a2] := by
  match u, h with
  | [a0, a1, a2], _ => exact ⟨a0, a1, a2, rfl⟩
theorem lst4 {u : List Nat} (h : u.length = 4) : ∃ a0 a1 a2 a3 : Nat, u = [a0, a1, a2, a3] := by
  match u, h with
  | [a0, a1, a2, a3], _ => exact ⟨a0, a1, a2, a3, rfl⟩
theorem lst6 {u : List Nat} (h : u.length = 6) : ∃ a0 a1 a2 a3 a4 a5 : Nat, u = [a0, a1, a2, a3, a4, a5] := by
  match u, h with
  | [a0, a1, a2, a3, a4, a5], _ => exact ⟨a0, a1, a2, a3, a4, a5, rfl⟩
theorem ob_i : Cond.instanceMethod Lib.objectInit ∈ TT := TT_in 80 (by decide +kernel) rfl
theorem ob_c : Cond.code Lib.objectInit ⟨#[0xb1]⟩ 1 none ∈ TT := TT_in 81 (by decide +kernel) rfl
theorem ac_int : Cond.arrayClass (newarray.typeOf .int) ∈ TT := TT_in 115 (by decide +kernel) rfl
theorem ac_long : Cond.arrayClass (newarray.typeOf .long) ∈ TT := TT_in 116 (by decide +kernel) rfl
theorem ac_boolean : Cond.arrayClass (newarray.typeOf .boolean) ∈ TT := TT_in 994 (by decide +kernel) rfl
theorem obX7_3 : Cond.methodLink RX7 3 Lib.objectInit ∈ TT := TT_in 79 (by decide +kernel) rfl
theorem liX7_11 : q_LkI RX7 11 yX3_init cX3_init 1 := ⟨⟨TT_in 86 (by decide +kernel) rfl, TT_in 84 (by decide +kernel) rfl, TT_in 58 (by decide +kernel) rfl, ⟨by decide, by decide⟩, by decide +kernel, by decide⟩, rfl, TT_in 85 (by decide +kernel) rfl⟩
theorem liX7_18 : q_LkI RX7 18 yX5_init cX5_init 1 := ⟨⟨TT_in 121 (by decide +kernel) rfl, TT_in 119 (by decide +kernel) rfl, TT_in 59 (by decide +kernel) rfl, ⟨by decide, by decide⟩, by decide +kernel, by decide⟩, rfl, TT_in 120 (by decide +kernel) rfl⟩
theorem liX7_25 : q_LkI RX7 25 yX0_init cX0_init 1 := ⟨⟨TT_in 142 (by decide +kernel) rfl, TT_in 140 (by decide +kernel) rfl, TT_in 60 (by decide +kernel) rfl, ⟨by decide, by decide⟩, by decide +kernel, by decide⟩, rfl, TT_in 141 (by decide +kernel) rfl⟩
theorem liX7_32 : q_LkI RX7 32 yX1_init cX1_init 1 := ⟨⟨TT_in 178 (by decide +kernel) rfl, TT_in 176 (by decide +kernel) rfl, TT_in 61 (by decide +kernel) rfl, ⟨by decide, by decide⟩, by decide +kernel, by decide⟩, rfl, TT_in 177 (by decide +kernel) rfl⟩
theorem liX7_39 : q_LkI RX7 39 yX6_init cX6_init 1 := ⟨⟨TT_in 192 (by decide +kernel) rfl, TT_in 190 (by decide +kernel) rfl, TT_in 62 (by decide +kernel) rfl, ⟨by decide, by decide⟩, by decide +kernel, by decide⟩, rfl, TT_in 191 (by decide +kernel) rfl⟩
theorem obX0_3 : Cond.methodLink RX0 3 Lib.objectInit ∈ TT := TT_in 143 (by decide +kernel) rfl
theorem obX1_1 : Cond.methodLink RX1 1 Lib.objectInit ∈ TT := TT_in 179 (by decide +kernel) rfl
theorem obX3_3 : Cond.methodLink RX3 3 Lib.objectInit ∈ TT := TT_in 87 (by decide +kernel) rfl
theorem obX5_5 : Cond.methodLink RX5 5 Lib.objectInit ∈ TT := TT_in 122 (by decide +kernel) rfl
theorem obX6_3 : Cond.methodLink RX6 3 Lib.objectInit ∈ TT := TT_in 193 (by decide +kernel) rfl
theorem obX8_1 : Cond.methodLink RX8 1 Lib.objectInit ∈ TT := TT_in 851 (by decide +kernel) rfl
theorem nwX7_9 : q_Cl RX7 9 2 [(.array .int), .int, .int, .int, (.array .int), (.array .long), .int] := ⟨RX3, TX3, 7, tyX3, rfl, inTT_X3, tyX3_ok, TT_in 82 (by decide +kernel) rfl, TT_in 83 (by decide +kernel) rfl, TT_in 58 (by decide +kernel) rfl, rfl, by decide +kernel⟩
theorem nwX7_16 : q_Cl RX7 16 3 [(.array .int), (.array .int), (.array .int), (.array .long)] := ⟨RX5, TX5, 4, tyX5, rfl, inTT_X5, tyX5_ok, TT_in 117 (by decide +kernel) rfl, TT_in 118 (by decide +kernel) rfl, TT_in 59 (by decide +kernel) rfl, rfl, by decide +kernel⟩
theorem nwX7_23 : q_Cl RX7 23 0 [(.array .int), (.array .int), (.array .int), (.array .int), (.array .int), (.array .long), .int, .int] := ⟨RX0, TX0, 8, tyX0, rfl, inTT_X0, tyX0_ok, TT_in 138 (by decide +kernel) rfl, TT_in 139 (by decide +kernel) rfl, TT_in 60 (by decide +kernel) rfl, rfl, by decide +kernel⟩
theorem nwX7_30 : q_Cl RX7 30 1 [(.array .int), .int] := ⟨RX1, TX1, 2, tyX1, rfl, inTT_X1, tyX1_ok, TT_in 174 (by decide +kernel) rfl, TT_in 175 (by decide +kernel) rfl, TT_in 61 (by decide +kernel) rfl, rfl, by decide +kernel⟩
theorem nwX7_37 : q_Cl RX7 37 4 [(.array .int), (.array .int), (.array .int), .int] := ⟨RX6, TX6, 4, tyX6, rfl, inTT_X6, tyX6_ok, TT_in 188 (by decide +kernel) rfl, TT_in 189 (by decide +kernel) rfl, TT_in 62 (by decide +kernel) rfl, rfl, by decide +kernel⟩
