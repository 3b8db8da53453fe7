/-! MY KIT, 5: makers -/
abbrev upK (κ : Kx) (a b : Nat) : Kx := (kp κ, kl κ, ke κ, kR κ, kS κ, km κ, ka κ, kb κ, kt κ, kc κ, kQ κ, kn κ + a, ko κ + b)
theorem Cf.up {κ : Kx} {cc : ByteArray} {nL : Nat} {own : String} {ret : Option FieldType} {d a b : Nat} (C : Cf κ cc nL own ret d) (h1 : kn κ + a ≤ (kR κ).cells) (h2 : ko κ + b ≤ (kR κ).slots) : Cf (upK κ a b) cc nL own ret d :=
  ⟨C.1, C.2.1, C.2.2.1, C.2.2.2.1, C.2.2.2.2.1, C.2.2.2.2.2.1, h1, h2⟩
def KK (ε : Ev) (U : State) : Prop := va_K (eD ε) vwCl (tysOf ε) U
def Vc (κ : Kx) (ε : Ev) (ws : va_W) (A : Nat → Prop) : Heap → List Loc → Prop := fun H locs => va_P (eD ε) vwCl ws H ∧ va_D A ws ∧ va_S A (kS κ).heap H locs
def Ag (κ : Kx) (A : Nat → Prop) : Prop := ∀ q, (kS κ).heap.size ≤ q → A q
section R
variable {κ : Kx} {nL pc : Nat} {L : List (Nat × Value)} {st : List Value} {cc : ByteArray} {own : String} {ret : Option FieldType} {d : Nat} {ε : Ev} {ws : va_W} {A : Nat → Prop} {idx ci k o : Nat} {ty : FieldType} {fin : Bool}
theorem c_obj {V : Heap → List Loc → Prop} (C : Cf κ cc nL own ret d) (hd1 : 1 ≤ d) {a : Nat} (h1 : Cond.methodLink own idx Lib.objectInit ∈ TT) (h2 : Cond.instanceMethod Lib.objectInit ∈ TT) (h3 : Cond.code Lib.objectInit ⟨#[0xb1]⟩ 1 none ∈ TT) (hW : (st.map fun v => v.category).sum ≤ 8) (hd : decode cc pc = .ok (.invokespecial idx, 3)) (kk : G κ V nL (pc + 3) L st) : G κ V nL pc L (.ref a :: st) := by
  intro H locs ls hV hl
  have g1 := C.2.2.2.2.1
  have g2 := C.2.2.2.2.2.1
  refine W.objInit C.1.1 C.1.2.1 C.1.2.2.2.1 (C.1.2.2.2.2 _ h1) (C.1.2.2.2.2 _ h2) (C.1.2.2.2.2 _ h3) (g := F0 (km κ) pc ls (.ref a :: st)) rfl (by rw [C.1.2.2.1]; exact hl.1) rfl hd (by omega) (by show 2 * 0 + _ + 12 ≤ _; omega) (kk H locs ls hV hl)
theorem c_newa (C : Cf κ cc nL own ret d) (K : KK ε (kS κ)) (hA : Ag κ A) {atype : ArrayType} (hw : Cond.arrayClass (newarray.typeOf atype) ∈ TT) {t N : Nat} (ht : (tysOf ε)[t]? = some (eA ε t, newarray.typeOf atype)) {a0 : vp_A} (ha : ∀ cA : ClassId, vp_cell cA a0 = arrV cA N (fun _ => defaultValue (newarray.typeOf atype))) {n : Int32} (hn : ¬ n < 0) (hN : n.toNatClampNeg = N) (hby : N * componentBytes (newarray.typeOf atype) ≤ 536870912) (hc : kn κ + 1 ≤ (kR κ).cells) (hs : ko κ + N ≤ (kR κ).slots) (hd : decode cc pc = .ok (.newarray atype, 2)) (kk : ∀ q, G (upK κ 1 N) (Vc κ ε (ws ++ [(q, .inl (eA ε t, a0))]) A) nL (pc + 2) L (.ref q :: st)) : G κ (Vc κ ε ws A) nL pc L (.int n :: st) := by
  intro H locs ls hV hl
  refine va_newa (D := eD ε) (cl := vwCl) C.1.1 C.1.2.1 (C.1.2.2.2.2 _ hw) rfl K hV.1 hV.2.1 hV.2.2 hA ha hn hN hby hc hs hd (fun q cA H1 hK1 hP1 hD1 hS1 => ?_)
  have e1 := (K.2 t _ ht).2
  have e2 := (hK1.2 (tysOf ε).length (cA, newarray.typeOf atype) (by rw [List.getElem?_append_right (Nat.le_refl _)]; simp)).2
  have he : cA = eA ε t := by
    cases atype <;> exact Option.some.inj (e2.symm.trans e1)
  subst he
  exact kk q H1 locs ls ⟨hP1, hD1, hS1⟩ hl
theorem c_putF (C : Cf κ cc nL own ret d) (K : KK ε (kS κ)) (hin : (kt κ).name = "<init>") (F : q_Fd own idx ci k ty true) {q0 a : Nat} {fs : List Value} (he : ws[q0]? = some (a, .inr (ci, fs))) (hl : k < fs.length) {v : Value} (hn : narrow ty v = v) (hfit : fits ty v = true) (hdecl : ∀ T N, vwCl[ci]? = some (own, T, N) → (T k).1 = own) (hcl : ∃ T N, vwCl[ci]? = some (own, T, N)) {ws' : va_W} (hws : ws.set q0 (a, .inr (ci, fs.set k v)) = ws') (hd : decode cc pc = .ok (.putfield idx, 3)) (kk : G κ (Vc κ ε ws' A) nL (pc + 3) L st) : G κ (Vc κ ε ws A) nL pc L (v :: .ref a :: st) := by
  obtain ⟨CC, T, N, ty0, h1, h2, h3, h4, h5, h6, h7, h8⟩ := F
  obtain ⟨T', N', hc'⟩ := hcl
  have e := Option.some.inj (h1.symm.trans hc')
  have e1 : CC = own := congrArg Prod.fst e
  subst e1
  subst hws
  intro H locs ls hV hl'
  exact va_putF (D := eD ε) (cl := vwCl) (ci := ci) (C := CC) (T := T) (N := N) C.1.1 C.1.2.1 C.1.2.2.2.2 h3 ty0 h5 h6 C.1.2.2.2.1 K hV.1 hV.2.1 hV.2.2 q0 he h1 k h2 (C.1.2.2.2.2 _ h4) (fun _ h => h) h8 hin (hdecl T N h1) (ty := ty) (v := v) (by rw [h5 k h2, h7]) hn hfit hl hd (fun H1 locs1 hP1 hD1 hS1 => kk H1 locs1 ls ⟨hP1, hD1, hS1⟩ hl')
theorem c_put (C : Cf κ cc nL own ret d) (K : KK ε (kS κ)) (F : q_Fd own idx ci k ty false) {q0 a : Nat} {fs : List Value} (he : ws[q0]? = some (a, .inr (ci, fs))) (hl : k < fs.length) {v : Value} (hn : narrow ty v = v) (hfit : fits ty v = true) {ws' : va_W} (hws : ws.set q0 (a, .inr (ci, fs.set k v)) = ws') (hd : decode cc pc = .ok (.putfield idx, 3)) (kk : G κ (Vc κ ε ws' A) nL (pc + 3) L st) : G κ (Vc κ ε ws A) nL pc L (v :: .ref a :: st) := by
  obtain ⟨CC, T, N, ty0, h1, h2, h3, h4, h5, h6, h7, h8⟩ := F
  subst hws
  intro H locs ls hV hl'
  exact va_put (D := eD ε) (cl := vwCl) (ci := ci) (C := CC) (T := T) (N := N) C.1.1 C.1.2.1 C.1.2.2.2.2 h3 ty0 h5 h6 C.1.2.2.2.1 K hV.1 hV.2.1 hV.2.2 q0 he h1 k h2 (C.1.2.2.2.2 _ h4) (fun _ h => h) h8 (ty := ty) (v := v) (by rw [h5 k h2, h7]) hn hfit hl hd (fun H1 locs1 hP1 hD1 hS1 => kk H1 locs1 ls ⟨hP1, hD1, hS1⟩ hl')
theorem c_getr (C : Cf κ cc nL own ret d) (K : KK ε (kS κ)) (F : q_Fd own idx ci k ty fin) {q0 a : Nat} {fs : List Value} (he : ws[q0]? = some (a, .inr (ci, fs))) {v : Value} (hv : fs[k]? = some v) (hd : decode cc pc = .ok (.getfield idx, 3)) (kk : G κ (Vc κ ε ws A) nL (pc + 3) L (v :: st)) : G κ (Vc κ ε ws A) nL pc L (.ref a :: st) := by
  obtain ⟨CC, T, N, ty0, h1, h2, h3, h4, h5, h6, h7, h8⟩ := F
  intro H locs ls hV hl
  exact va_get (D := eD ε) (cl := vwCl) (ci := ci) (C := CC) (T := T) (N := N) C.1.1 C.1.2.1 C.1.2.2.2.2 h3 C.1.2.2.2.1 K hV.1 q0 he h1 k h2 (C.1.2.2.2.2 _ h4) (fun _ h => h) (v := v) hv hd (kk H locs ls hV hl)
theorem c_iast (C : Cf κ cc nL own ret d) (K : KK ε (kS κ)) {q0 a n : Nat} {f : Nat → Int32} (he : ws[q0]? = some (a, .inl (eA ε 0, n, .inl f))) {i x : Int32} (hi : inb i n = true) {ws' : va_W} (hws : ws.set q0 (a, .inl (eA ε 0, n, .inl (upd f i.toNatClampNeg x))) = ws') (hd : decode cc pc = .ok (.iastore, 1)) (kk : G κ (Vc κ ε ws' A) nL (pc + 1) L st) : G κ (Vc κ ε ws A) nL pc L (.int x :: .int i :: .ref a :: st) := by
  subst hws
  intro H locs ls hV hl
  exact va_iast (D := eD ε) (cl := vwCl) C.1.1 C.1.2.1 K hV.1 hV.2.1 hV.2.2 q0 0 (cA := eA ε 0) (n := n) (f := f) he rfl (inb_in hi) hd (fun H1 locs1 hP1 hD1 hS1 => kk H1 locs1 ls ⟨hP1, hD1, hS1⟩ hl)
/-- a class that can be made: its number, its slots, their types -/
def q_Cl (own : String) (idx ci : Nat) (tys : List FieldType) : Prop := ∃ (C : String) (T : u_T) (N : Nat) (ty0 : Nat → FieldType), vwCl[ci]? = some (C, T, N) ∧ (∀ w ∈ u_ws C T N, w ∈ TT) ∧ (∀ k, k < N → parseFieldDescriptor (T k).2.2.1 = some (ty0 k)) ∧ Cond.classLink own idx C ∈ TT ∧ Cond.instantiable C N ∈ TT ∧ Cond.initialized C ∈ TT ∧ N = tys.length ∧ ∀ k, k < N → tys[k]? = some (ty0 k)
theorem c_new (C : Cf κ cc nL own ret d) (K : KK ε (kS κ)) (hA : Ag κ A) {tys : List FieldType} (Q : q_Cl own idx ci tys) (hc : kn κ + 1 ≤ (kR κ).cells) (hs : ko κ + tys.length ≤ (kR κ).slots) (hd : decode cc pc = .ok (.new idx, 3)) (kk : ∀ q, G (upK κ 1 tys.length) (Vc κ ε (ws ++ [(q, .inr (ci, tys.map defaultValue))]) A) nL (pc + 3) L (.ref q :: st)) : G κ (Vc κ ε ws A) nL pc L st := by
  obtain ⟨CC, T, N, ty0, h1, h2, h3, h4, h5, h6, h7, h8⟩ := Q
  subst h7
  intro H locs ls hV hl
  refine va_new (D := eD ε) (cl := vwCl) (ci := ci) (C := CC) (T := T) (N := tys.length) C.1.1 C.1.2.1 C.1.2.2.2.2 h2 ty0 h3 C.1.2.2.2.1 (C.1.2.2.2.2 _ h4) (C.1.2.2.2.2 _ h5) (C.1.2.2.2.2 _ h6) K hV.1 hV.2.1 hV.2.2 hA h1 (fs := tys.map defaultValue) (fun j hj => ?_) hc hs hd (fun q H1 hP1 hD1 hS1 => kk q H1 locs ls ⟨hP1, hD1, hS1⟩ hl)
  have := h8 j hj
  simp [vp_V, this]
end R
/-- a maker's contract: over the blank object at h0, it ends with the cells W u, for some addresses u that are new -/
def Pc0 (ε : Ev) (argv : List Value) (ws : va_W) : Array Value → State → Prop := fun a U => a = argv.toArray ∧ KK ε U ∧ Nst U ∧ va_P (eD ε) vwCl ws U.heap
def Ac (h0 : Nat) (sz : Nat) : Nat → Prop := fun q => q = h0 ∨ sz ≤ q
def Qc0 (ε : Ev) (h0 : Nat) (Wu : List Nat → va_W) (n : Nat) : Array Value → State → Outcome → State → Prop := fun _ st o t => o = .returned none ∧ (∃ u : List Nat, u.length = n ∧ va_P (eD ε) vwCl (Wu u) t.heap ∧ va_D (Ac h0 st.heap.size) (Wu u)) ∧ va_F (Ac h0 st.heap.size) st t
def rmc (d mc ms : Nat) : Room := { frames := d, cells := mc, slots := ms, locals := 120 * d }
def Sc (l : Launch) (ε : Ev) (y : MethodName) (cc : ByteArray) (nL d mc ms h0 : Nat) (ws : va_W) (Wu : List Nat → va_W) (n : Nat) : Prop :=
  ∀ sz : Nat, Met l y (.code y cc nL none :: TT) (rmc d mc ms) (fun a U => Pc0 ε [.ref h0] ws a U ∧ U.heap.size = sz ∧ h0 < sz) (Qc0 ε h0 Wu n) mc ms (Ac h0 sz)
def Rc (κ : Kx) (ε : Ev) (h0 mc ms : Nat) (Wu : List Nat → va_W) (n : Nat) : Prop := kQ κ = MQ (kb κ) (Qc0 ε h0 Wu n) (ka κ) (kS κ) mc ms (Ac h0 (kS κ).heap.size)
theorem Sc.of {l : Launch} {ε : Ev} {y : MethodName} {cc : ByteArray} {nL d mc ms h0 : Nat} {en : va_E} {Wu : List Nat → va_W} {n : Nat} (hy : plainFor y = true) (hn : 1 ≤ nL) (hin : y.name = "<init>")
    (body : ∀ κ : Kx, kl κ = l → kn κ = 0 → ko κ = 0 → kR κ = rmc d mc ms → (kt κ).name = "<init>" → Cf κ cc nL y.cls none d → KK ε (kS κ) → h0 < (kS κ).heap.size → Rc κ ε h0 mc ms Wu n → G κ (Vc κ ε [(h0, en)] (Ac h0 (kS κ).heap.size)) nL 0 [(0, .ref h0)] []) : Sc l ε y cc nL d mc ms h0 [(h0, en)] Wu n := by
  intro sz
  refine Met.ofWF (cc := cc) (maxL := nL) (ret := none) hy rfl ?_
  intro p e s m args below meth c s₁ B hml hv
  obtain ⟨⟨rfl, hK, hN, hP⟩, rfl, hlt⟩ := hv
  have hts := atoms_spec (ws := .code y cc nL none :: TT) B.pre
  have hl := lv_entry [.ref h0] (n := nL) (show (lg_sl [.ref h0]).length ≤ nL from hn)
  rw [lg_entry_eq]
  have hD : va_D (Ac h0 s.heap.size) [(h0, en)] := by
    refine ⟨fun i j x y hi hj _ => ?_, fun k q hk => ?_⟩
    · have h1 := (List.getElem?_eq_some_iff.mp hi).1
      have h2 := (List.getElem?_eq_some_iff.mp hj).1
      simp only [List.length_singleton] at h1 h2
      omega
    · have h1 := (List.getElem?_eq_some_iff.mp hk).1
      simp only [List.length_singleton] at h1
      have h0' : k = 0 := by omega
      subst h0'
      cases hk
      exact Or.inl rfl
  exact body (p, l, e, rmc d mc ms, s, m, [Value.ref h0].toArray, below, meth, c, MQ below (Qc0 ε h0 Wu n) [Value.ref h0].toArray s mc ms (Ac h0 s.heap.size), 0, 0) rfl rfl rfl rfl ((name_of_methodNamed B.named B.method).1.trans hin) ⟨⟨B.exec, B.bytes, hml, findClass_of_methodNamed B.named, fun w h => hts w (List.mem_cons_of_mem _ h)⟩, B.returns, B.notSynchronized, hN, Nat.le_refl _, Nat.le_refl _, Nat.zero_le _, Nat.zero_le _⟩ hK hlt rfl s.heap [] _ ⟨hP, hD, va_S.rf⟩ hl
theorem c_ret {κ : Kx} {nL pc : Nat} {L : List (Nat × Value)} {cc : ByteArray} {own : String} {d : Nat} {ε : Ev} {ws : va_W} {h0 mc ms n : Nat} {Wu : List Nat → va_W} {A : Nat → Prop} (C : Cf κ cc nL own none d) (hQ : Rc κ ε h0 mc ms Wu n) (hA : A = Ac h0 (kS κ).heap.size) (h1 : kn κ = mc) (h2 : ko κ = ms) (u : List Nat) (hu : u.length = n) (hw : Wu u = ws) (hd : decode cc pc = .ok (.return_, 1)) : G κ (Vc κ ε ws A) nL pc L [] := by
  intro H locs ls hV hl
  subst hA
  show W _ _ _ _ _ _ _ _ _ _ _ _ _ _ (kQ κ) _
  rw [hQ, ← h1, ← h2]
  subst hw
  exact W.vret C.1.1 C.1.2.1 C.2.1 (fun t ht hW => ⟨rfl, ⟨u, hu, by rw [ht]; exact hV.1, hV.2.1⟩, hV.2.2.F ht⟩) hV.2.2.2.2 hd C.2.2.1
/-- a maker's link -/
def q_LkI (own : String) (idx : Nat) (y : MethodName) (bytes : ByteArray) (maxL : Nat) : Prop :=
  (Cond.code y bytes maxL none ∈ TT ∧ Cond.methodLink own idx y ∈ TT ∧ Cond.initialized y.cls ∈ TT ∧ (y.cls ≠ "java/lang/invoke/MethodHandle" ∧ y.cls ≠ "java/lang/invoke/VarHandle") ∧ (parseMethodDescriptor y.desc).map (fun d => d.parameters.length) = some 0 ∧ maxL ≤ 100) ∧ y.name = "<init>" ∧ Cond.instanceMethod y ∈ TT
theorem c_init {κ : Kx} {nL pc : Nat} {L : List (Nat × Value)} {st : List Value} {cc : ByteArray} {own : String} {ret : Option FieldType} {d : Nat} {ε : Ev} {wr : va_W} {A : Nat → Prop} {idx : Nat} {en : va_E}
    (C : Cf κ cc nL own ret d) (K : KK ε (kS κ)) (hA : Ag κ A) {y : MethodName} {bytes : ByteArray} {maxL d' mc ms n q : Nat} {Wu : List Nat → va_W} (Lk : q_LkI own idx y bytes maxL) (hM : Sc (kl κ) ε y bytes maxL d' mc ms q [(q, en)] Wu n) (hdd : d' + 1 ≤ d) (hc : kn κ + mc ≤ (kR κ).cells) (hs : ko κ + ms ≤ (kR κ).slots) (hW : (st.map fun v => v.category).sum ≤ 8) (hd : decode cc pc = .ok (.invokespecial idx, 3))
    (kk : ∀ u : List Nat, u.length = n → G (upK κ mc ms) (Vc κ ε (wr ++ Wu u) A) nL (pc + 3) L st) : G κ (Vc κ ε (wr ++ [(q, en)]) A) nL pc L (.ref q :: st) := by
  obtain ⟨⟨k1, k2, k3, k4, k5, k6⟩, k7, k8⟩ := Lk
  intro H locs ls hV hl
  obtain ⟨hP, hD, hS⟩ := hV
  have hlast : (wr ++ [(q, en)])[wr.length]? = some (q, en) := by simp
  have hPr : va_P (eD ε) vwCl wr H := fun k x hk => hP k x (by rw [List.getElem?_append_left (List.getElem?_eq_some_iff.mp hk).1]; exact hk)
  have hPq : va_P (eD ε) vwCl [(q, en)] H := fun k x hk => by
    have h1 := (List.getElem?_eq_some_iff.mp hk).1
    simp only [List.length_singleton] at h1
    have h0 : k = 0 := by omega
    subst h0
    cases hk
    exact hP _ _ hlast
  have hqlt : q < H.size := (hP _ _ hlast).lt
  have hqA : A q := hD.2 _ _ hlast
  have apart : ∀ k x, wr[k]? = some x → x.1 < H.size ∧ x.1 ≠ q := by
    intro k x hk
    have hkl := (List.getElem?_eq_some_iff.mp hk).1
    refine ⟨(hPr k x hk).lt, fun e => ?_⟩
    have := hD.1 k wr.length x (q, en) (by rw [List.getElem?_append_left hkl]; exact hk) hlast e
    omega
  have hAc : ∀ x, Ac q H.size x → A x := fun x hx => hx.elim (fun e => e ▸ hqA) (fun h => hA x (Nat.le_trans hS.1 h))
  have hrun : va_Run (kp κ) (kl κ) (ke κ) (kR κ) (kS κ) (km κ) (ka κ) (kb κ) (kt κ) (kc κ) H locs (kn κ) (ko κ) mc ms (F0 (km κ) pc ls (.ref q :: st)) st (Qc0 ε q Wu n [Value.ref q].toArray) (Ac q H.size) := by
    refine va_runI (n := 0) (As := []) (rest := st) (maxL := maxL) (bytes := bytes) (ws := .code y bytes maxL none :: TT) (rm := rmc d' mc ms) C.1 (hM H.size) ⟨⟨rfl, rfl, Nat.le_trans hdd C.2.2.2.2.1, ?_, q_words C.1.2.2.2.2 k1, List.mem_cons_self, C.1.2.2.2.2 _ k1, C.1.2.2.2.2 _ k3, k4, fun sig h => ?_, C.1.2.2.2.2 _ k2⟩, k7, C.1.2.2.2.2 _ k8⟩ ⟨fun a U g mk h => ⟨⟨h.1.1, va_K.moved (u := U) (Vm.Alike.refl _) h.1.2.1, h.1.2.2.1.same (u := U) rfl, h.1.2.2.2⟩, h.2⟩, fun U hU hWU => ⟨⟨rfl, va_K.moved hWU.alike K, C.2.2.2.1.warm hWU, by rw [hU]; exact hPq⟩, by rw [hU], hqlt⟩⟩ rfl rfl hl.1 rfl (lv_room hW) hd ⟨hc, hs⟩
    · have := C.2.2.2.2.2.1
      show 8 + (maxL + 11) + 120 * d' ≤ (kR κ).locals
      omega
    · rw [h] at k5; exact (Option.some.inj k5).symm
  intro T hT X
  obtain ⟨v, st₀, t, T', LL, h0, X', hL, e1, e2, ⟨hv, ⟨u, hu, hP1, hD1⟩, hz, hk⟩, stp⟩ := hrun T hT X
  have hv' : v = none := by injection hv
  subst hv'
  rw [h0] at hz hk hD1
  have hS' : va_S A (kS κ).heap T'.heap (locs ++ LL) := ⟨Nat.le_trans hS.1 (by rw [e1]; exact hz), fun x h1 h2 => by rw [e1, hk x (Nat.lt_of_lt_of_le h1 hS.1) (fun z => h2 (hAc x z))]; exact hS.2.1 x h1 h2, fun x hx => by
    rcases List.mem_append.mp hx with h | h
    · exact hS.2.2 x h
    · exact hAc _ (hL x h)⟩
  have hP' : va_P (eD ε) vwCl (wr ++ Wu u) T'.heap := by
    rw [e1]
    refine va_P.app (hPr.kept (fun k x hx => ?_)) hP1
    obtain ⟨g1, g2⟩ := apart k x hx
    exact hk x.1 g1 (fun z => z.elim g2 (fun h => absurd g1 (Nat.not_lt.mpr h)))
  have hDr : va_D A wr := ⟨fun i j x y hi hj e => hD.1 i j x y (by rw [List.getElem?_append_left (List.getElem?_eq_some_iff.mp hi).1]; exact hi) (by rw [List.getElem?_append_left (List.getElem?_eq_some_iff.mp hj).1]; exact hj) e, fun k x hx => hD.2 k x (by rw [List.getElem?_append_left (List.getElem?_eq_some_iff.mp hx).1]; exact hx)⟩
  have hD' : va_D A (wr ++ Wu u) := va_D.app hDr (hD1.weaken (fun k x _ h => hAc _ h)) (fun i j x y hx hy hxy => by
    obtain ⟨g1, g2⟩ := apart i x hx
    have := hD1.2 j y hy
    rw [← hxy] at this
    exact this.elim g2 (fun h => absurd g1 (Nat.not_lt.mpr h)))
  obtain ⟨t2, a1, b1⟩ := kk u hu T'.heap (locs ++ LL) ls ⟨hP', hD', hS'⟩ hl T' rfl X'
  exact ⟨t2, stp t2 a1, b1⟩
theorem cb_26 : (Int8.ofInt 26).toInt32 = 26 := by decide
theorem cb_84 : (Int8.ofInt 84).toInt32 = 84 := by decide
theorem cs_140 : (Int16.ofInt 140).toInt32 = 140 := by decide
theorem cs_154 : (Int16.ofInt 154).toInt32 = 154 := by decide
theorem cs_156 : (Int16.ofInt 156).toInt32 = 156 := by decide
theorem cs_280 : (Int16.ofInt 280).toInt32 = 280 := by decide
theorem cs_924 : (Int16.ofInt 924).toInt32 = 924 := by decide
theorem lst1 {u : List Nat} (h : u.length = 1) : ∃ a0 : Nat, u = [a0] := by
  match u, h with
  | [a0], _ => exact ⟨a0, rfl⟩
theorem lst3 {u : List Nat} (h : u.length = 3) : ∃ a0 a1 a2 : Nat, u = [a0, a1, a2] := by
  match u, h with
  | [a0, a1, a2], _ => exact ⟨a0, a1, a2, rfl⟩
theorem lst4 {u : List Nat} (h : u.length = 4) : ∃ a0 a1 a2 a3 : Nat, u = [a0, a1, a2, a3] := by
  match u, h with
  | [a0, a1, a2, a3], _ => exact ⟨a0, a1, a2, a3, rfl⟩
theorem lst6 {u : List Nat} (h : u.length = 6) : ∃ a0 a1 a2 a3 a4 a5 : Nat, u = [a0, a1, a2, a3, a4, a5] := by
  match u, h with
  | [a0, a1, a2, a3, a4, a5], _ => exact ⟨a0, a1, a2, a3, a4, a5, rfl⟩
theorem ob_i : Cond.instanceMethod Lib.objectInit ∈ TT := TT_in 80 (by decide +kernel) rfl
theorem ob_c : Cond.code Lib.objectInit ⟨#[0xb1]⟩ 1 none ∈ TT := TT_in 81 (by decide +kernel) rfl
theorem ac_int : Cond.arrayClass (newarray.typeOf .int) ∈ TT := TT_in 115 (by decide +kernel) rfl
theorem ac_long : Cond.arrayClass (newarray.typeOf .long) ∈ TT := TT_in 116 (by decide +kernel) rfl
theorem ac_boolean : Cond.arrayClass (newarray.typeOf .boolean) ∈ TT := TT_in 994 (by decide +kernel) rfl
theorem obX7_3 : Cond.methodLink RX7 3 Lib.objectInit ∈ TT := TT_in 79 (by decide +kernel) rfl
theorem liX7_11 : q_LkI RX7 11 yX3_init cX3_init 1 := ⟨⟨TT_in 86 (by decide +kernel) rfl, TT_in 84 (by decide +kernel) rfl, TT_in 58 (by decide +kernel) rfl, ⟨by decide, by decide⟩, by decide +kernel, by decide⟩, rfl, TT_in 85 (by decide +kernel) rfl⟩
theorem liX7_18 : q_LkI RX7 18 yX5_init cX5_init 1 := ⟨⟨TT_in 121 (by decide +kernel) rfl, TT_in 119 (by decide +kernel) rfl, TT_in 59 (by decide +kernel) rfl, ⟨by decide, by decide⟩, by decide +kernel, by decide⟩, rfl, TT_in 120 (by decide +kernel) rfl⟩
theorem liX7_25 : q_LkI RX7 25 yX0_init cX0_init 1 := ⟨⟨TT_in 142 (by decide +kernel) rfl, TT_in 140 (by decide +kernel) rfl, TT_in 60 (by decide +kernel) rfl, ⟨by decide, by decide⟩, by decide +kernel, by decide⟩, rfl, TT_in 141 (by decide +kernel) rfl⟩
theorem liX7_32 : q_LkI RX7 32 yX1_init cX1_init 1 := ⟨⟨TT_in 178 (by decide +kernel) rfl, TT_in 176 (by decide +kernel) rfl, TT_in 61 (by decide +kernel) rfl, ⟨by decide, by decide⟩, by decide +kernel, by decide⟩, rfl, TT_in 177 (by decide +kernel) rfl⟩
theorem liX7_39 : q_LkI RX7 39 yX6_init cX6_init 1 := ⟨⟨TT_in 192 (by decide +kernel) rfl, TT_in 190 (by decide +kernel) rfl, TT_in 62 (by decide +kernel) rfl, ⟨by decide, by decide⟩, by decide +kernel, by decide⟩, rfl, TT_in 191 (by decide +kernel) rfl⟩
theorem obX0_3 : Cond.methodLink RX0 3 Lib.objectInit ∈ TT := TT_in 143 (by decide +kernel) rfl
theorem obX1_1 : Cond.methodLink RX1 1 Lib.objectInit ∈ TT := TT_in 179 (by decide +kernel) rfl
theorem obX3_3 : Cond.methodLink RX3 3 Lib.objectInit ∈ TT := TT_in 87 (by decide +kernel) rfl
theorem obX5_5 : Cond.methodLink RX5 5 Lib.objectInit ∈ TT := TT_in 122 (by decide +kernel) rfl
theorem obX6_3 : Cond.methodLink RX6 3 Lib.objectInit ∈ TT := TT_in 193 (by decide +kernel) rfl
theorem obX8_1 : Cond.methodLink RX8 1 Lib.objectInit ∈ TT := TT_in 851 (by decide +kernel) rfl
theorem nwX7_9 : q_Cl RX7 9 2 [(.array .int), .int, .int, .int, (.array .int), (.array .long), .int] := ⟨RX3, TX3, 7, tyX3, rfl, inTT_X3, tyX3_ok, TT_in 82 (by decide +kernel) rfl, TT_in 83 (by decide +kernel) rfl, TT_in 58 (by decide +kernel) rfl, rfl, by decide +kernel⟩
theorem nwX7_16 : q_Cl RX7 16 3 [(.array .int), (.array .int), (.array .int), (.array .long)] := ⟨RX5, TX5, 4, tyX5, rfl, inTT_X5, tyX5_ok, TT_in 117 (by decide +kernel) rfl, TT_in 118 (by decide +kernel) rfl, TT_in 59 (by decide +kernel) rfl, rfl, by decide +kernel⟩
theorem nwX7_23 : q_Cl RX7 23 0 [(.array .int), (.array .int), (.array .int), (.array .int), (.array .int), (.array .long), .int, .int] := ⟨RX0, TX0, 8, tyX0, rfl, inTT_X0, tyX0_ok, TT_in 138 (by decide +kernel) rfl, TT_in 139 (by decide +kernel) rfl, TT_in 60 (by decide +kernel) rfl, rfl, by decide +kernel⟩
theorem nwX7_30 : q_Cl RX7 30 1 [(.array .int), .int] := ⟨RX1, TX1, 2, tyX1, rfl, inTT_X1, tyX1_ok, TT_in 174 (by decide +kernel) rfl, TT_in 175 (by decide +kernel) rfl, TT_in 61 (by decide +kernel) rfl, rfl, by decide +kernel⟩
theorem nwX7_37 : q_Cl RX7 37 4 [(.array .int), (.array .int), (.array .int), .int] := ⟨RX6, TX6, 4, tyX6, rfl, inTT_X6, tyX6_ok, TT_in 188 (by decide +kernel) rfl, TT_in 189 (by decide +kernel) rfl, TT_in 62 (by decide +kernel) rfl, rfl, by decide +kernel⟩
theorem dX1_init_0 : decode cX1_init 0 = .ok (.aload_n 0, 1) := by decide +kernel
theorem dX1_init_1 : decode cX1_init 1 = .ok (.invokespecial 1, 3) := by decide +kernel
theorem dX1_init_4 : decode cX1_init 4 = .ok (.aload_n 0, 1) := by decide +kernel
theorem dX1_init_5 : decode cX1_init 5 = .ok (.bipush 20, 2) := by decide +kernel
theorem dX1_init_7 : decode cX1_init 7 = .ok (.newarray .int, 2) := by decide +kernel
theorem dX1_init_9 : decode cX1_init 9 = .ok (.putfield 9, 3) := by decide +kernel
theorem dX1_init_12 : decode cX1_init 12 = .ok (.aload_n 0, 1) := by decide +kernel
theorem dX1_init_13 : decode cX1_init 13 = .ok (.iconst 0, 1) := by decide +kernel
theorem dX1_init_14 : decode cX1_init 14 = .ok (.putfield 13, 3) := by decide +kernel
theorem dX1_init_17 : decode cX1_init 17 = .ok (.return_, 1) := by decide +kernel
def wuX1 (ε : Ev) (h0 : Nat) (u : List Nat) : va_W := [(h0, .inr (1, [.ref u.getD 0 0, .int 0])), (u.getD 0 0, .inl (eA ε 0, 20, .inl (fun _ => 0)))]
theorem dcX1 (k : Nat) (T : u_T) (N : Nat) (h : vwCl[1]? = some (RX1, T, N)) : (T k).1 = RX1 := by
  cases h
  unfold TX1
  split <;> rfl
set_option maxRecDepth 100000 in
set_option maxHeartbeats 4000000 in
theorem kX1_init (l : Launch) (ε : Ev) (h0 : Nat) : Sc l ε yX1_init cX1_init 1 1 1 20 h0 [(h0, .inr (1, [.null, .int 0]))] (wuX1 ε h0) 1 := by
  refine Sc.of (by decide +kernel) (by decide) rfl ?_
  rintro ⟨p, l1, e, RR, s, m, args, below, meth, c, Q, n0, o0⟩ hl0 hn0 ho0 hR0 hin C K hlt hQ
  dsimp only [kl, kn, ko, kR] at hl0 hn0 ho0 hR0
  subst hl0; subst hn0; subst ho0; subst hR0
  have hA : ∀ κ : Kx, kS κ = s → Ag κ (Ac h0 s.heap.size) := fun κ h q hq => Or.inr (by rw [← h]; exact hq)
  replace hA := hA (p, l1, e, rmc 1 1 20, s, m, args, below, meth, c, Q, 0, 0) rfl
  replace C : Cf _ cX1_init 1 RX1 none 1 := C
  refine g_aload_n (pc := 0) (i := 0) (j := 0) C dX1_init_0 rfl rfl ?_
  refine c_obj (pc := 1) C (by decide) obX1_1 ob_i ob_c (Nat.le_of_ble_eq_true rfl) dX1_init_1 ?_
  refine g_aload_n (pc := 4) (i := 0) (j := 0) C dX1_init_4 rfl rfl ?_
  refine g_bipush (pc := 5) C dX1_init_5 cb_20 ?_
  refine c_newa (pc := 7) (atype := .int) (t := 0) (N := 20) (a0 := (20, .inl (fun _ => 0))) C K hA ac_int rfl (fun _ => rfl) (by decide) rfl (Nat.le_of_ble_eq_true rfl) (Nat.le_of_ble_eq_true rfl) (Nat.le_of_ble_eq_true rfl) dX1_init_7 (fun q7 => ?_)
  replace C := C.up (a := 1) (b := 20) (Nat.le_of_ble_eq_true rfl) (Nat.le_of_ble_eq_true rfl)
  show G _ (Vc _ ε [(h0, .inr (1, [.null, .int 0])), (q7, .inl (eA ε 0, 20, .inl (fun _ => 0)))] _) 1 9 [(0, .ref h0)] [.ref q7, .ref h0]
  refine c_putF (pc := 9) (q0 := 0) (v := .ref q7) (ws' := [(h0, .inr (1, [.ref q7, .int 0])), (q7, .inl (eA ε 0, 20, .inl (fun _ => 0)))]) C K hin fdX1_9 rfl (by decide) rfl rfl (dcX1 0) ⟨_, _, rfl⟩ rfl dX1_init_9 ?_
  refine g_aload_n (pc := 12) (i := 0) (j := 0) C dX1_init_12 rfl rfl ?_
  refine g_iconst (pc := 13) C dX1_init_13 ci_0 ?_
  refine c_put (pc := 14) (q0 := 0) (v := .int 0) (ws' := [(h0, .inr (1, [.ref q7, .int 0])), (q7, .inl (eA ε 0, 20, .inl (fun _ => 0)))]) C K fdX1_13 rfl (by decide) rfl rfl rfl dX1_init_14 ?_
  exact c_ret (pc := 17) C hQ rfl rfl rfl [q7] rfl rfl dX1_init_17
theorem dX3_init_0 : decode cX3_init 0 = .ok (.aload_n 0, 1) := by decide +kernel
theorem dX3_init_1 : decode cX3_init 1 = .ok (.invokespecial 3, 3) := by decide +kernel
theorem dX3_init_4 : decode cX3_init 4 = .ok (.aload_n 0, 1) := by decide +kernel
theorem dX3_init_5 : decode cX3_init 5 = .ok (.bipush 60, 2) := by decide +kernel
theorem dX3_init_7 : decode cX3_init 7 = .ok (.newarray .int, 2) := by decide +kernel
theorem dX3_init_9 : decode cX3_init 9 = .ok (.putfield 11, 3) := by decide +kernel
theorem dX3_init_12 : decode cX3_init 12 = .ok (.aload_n 0, 1) := by decide +kernel
theorem dX3_init_13 : decode cX3_init 13 = .ok (.iconst 0, 1) := by decide +kernel
theorem dX3_init_14 : decode cX3_init 14 = .ok (.putfield 15, 3) := by decide +kernel
theorem dX3_init_17 : decode cX3_init 17 = .ok (.aload_n 0, 1) := by decide +kernel
theorem dX3_init_18 : decode cX3_init 18 = .ok (.bipush (-9), 2) := by decide +kernel
theorem dX3_init_20 : decode cX3_init 20 = .ok (.putfield 19, 3) := by decide +kernel
theorem dX3_init_23 : decode cX3_init 23 = .ok (.aload_n 0, 1) := by decide +kernel
theorem dX3_init_24 : decode cX3_init 24 = .ok (.iconst 0, 1) := by decide +kernel
theorem dX3_init_25 : decode cX3_init 25 = .ok (.putfield 22, 3) := by decide +kernel
theorem dX3_init_28 : decode cX3_init 28 = .ok (.aload_n 0, 1) := by decide +kernel
theorem dX3_init_29 : decode cX3_init 29 = .ok (.bipush 6, 2) := by decide +kernel
theorem dX3_init_31 : decode cX3_init 31 = .ok (.newarray .int, 2) := by decide +kernel
theorem dX3_init_33 : decode cX3_init 33 = .ok (.putfield 25, 3) := by decide +kernel
theorem dX3_init_36 : decode cX3_init 36 = .ok (.aload_n 0, 1) := by decide +kernel
theorem dX3_init_37 : decode cX3_init 37 = .ok (.bipush 6, 2) := by decide +kernel
theorem dX3_init_39 : decode cX3_init 39 = .ok (.newarray .long, 2) := by decide +kernel
theorem dX3_init_41 : decode cX3_init 41 = .ok (.putfield 28, 3) := by decide +kernel
theorem dX3_init_44 : decode cX3_init 44 = .ok (.aload_n 0, 1) := by decide +kernel
theorem dX3_init_45 : decode cX3_init 45 = .ok (.iconst 0, 1) := by decide +kernel
theorem dX3_init_46 : decode cX3_init 46 = .ok (.putfield 32, 3) := by decide +kernel
theorem dX3_init_49 : decode cX3_init 49 = .ok (.return_, 1) := by decide +kernel
def wuX3 (ε : Ev) (h0 : Nat) (u : List Nat) : va_W := [(h0, .inr (2, [.ref u.getD 0 0, .int 0, .int (-9), .int 0, .ref u.getD 1 0, .ref u.getD 2 0, .int 0])), (u.getD 0 0, .inl (eA ε 0, 60, .inl (fun _ => 0))), (u.getD 1 0, .inl (eA ε 0, 6, .inl (fun _ => 0))), (u.getD 2 0, .inl (eA ε 1, 6, .inr (.inl (fun _ => 0))))]
theorem dcX3 (k : Nat) (T : u_T) (N : Nat) (h : vwCl[2]? = some (RX3, T, N)) : (T k).1 = RX3 := by
  cases h
  unfold TX3
  split <;> rfl
set_option maxRecDepth 100000 in
set_option maxHeartbeats 4000000 in
theorem kX3_init (l : Launch) (ε : Ev) (h0 : Nat) : Sc l ε yX3_init cX3_init 1 1 3 72 h0 [(h0, .inr (2, [.null, .int 0, .int 0, .int 0, .null, .null, .int 0]))] (wuX3 ε h0) 3 := by
  refine Sc.of (by decide +kernel) (by decide) rfl ?_
  rintro ⟨p, l1, e, RR, s, m, args, below, meth, c, Q, n0, o0⟩ hl0 hn0 ho0 hR0 hin C K hlt hQ
  dsimp only [kl, kn, ko, kR] at hl0 hn0 ho0 hR0
  subst hl0; subst hn0; subst ho0; subst hR0
  have hA : ∀ κ : Kx, kS κ = s → Ag κ (Ac h0 s.heap.size) := fun κ h q hq => Or.inr (by rw [← h]; exact hq)
  replace hA := hA (p, l1, e, rmc 1 3 72, s, m, args, below, meth, c, Q, 0, 0) rfl
  replace C : Cf _ cX3_init 1 RX3 none 1 := C
  refine g_aload_n (pc := 0) (i := 0) (j := 0) C dX3_init_0 rfl rfl ?_
  refine c_obj (pc := 1) C (by decide) obX3_3 ob_i ob_c (Nat.le_of_ble_eq_true rfl) dX3_init_1 ?_
  refine g_aload_n (pc := 4) (i := 0) (j := 0) C dX3_init_4 rfl rfl ?_
  refine g_bipush (pc := 5) C dX3_init_5 cb_60 ?_
  refine c_newa (pc := 7) (atype := .int) (t := 0) (N := 60) (a0 := (60, .inl (fun _ => 0))) C K hA ac_int rfl (fun _ => rfl) (by decide) rfl (Nat.le_of_ble_eq_true rfl) (Nat.le_of_ble_eq_true rfl) (Nat.le_of_ble_eq_true rfl) dX3_init_7 (fun q7 => ?_)
  replace C := C.up (a := 1) (b := 60) (Nat.le_of_ble_eq_true rfl) (Nat.le_of_ble_eq_true rfl)
  show G _ (Vc _ ε [(h0, .inr (2, [.null, .int 0, .int 0, .int 0, .null, .null, .int 0])), (q7, .inl (eA ε 0, 60, .inl (fun _ => 0)))] _) 1 9 [(0, .ref h0)] [.ref q7, .ref h0]
  refine c_putF (pc := 9) (q0 := 0) (v := .ref q7) (ws' := [(h0, .inr (2, [.ref q7, .int 0, .int 0, .int 0, .null, .null, .int 0])), (q7, .inl (eA ε 0, 60, .inl (fun _ => 0)))]) C K hin fdX3_11 rfl (by decide) rfl rfl (dcX3 0) ⟨_, _, rfl⟩ rfl dX3_init_9 ?_
  refine g_aload_n (pc := 12) (i := 0) (j := 0) C dX3_init_12 rfl rfl ?_
  refine g_iconst (pc := 13) C dX3_init_13 ci_0 ?_
  refine c_put (pc := 14) (q0 := 0) (v := .int 0) (ws' := [(h0, .inr (2, [.ref q7, .int 0, .int 0, .int 0, .null, .null, .int 0])), (q7, .inl (eA ε 0, 60, .inl (fun _ => 0)))]) C K fdX3_15 rfl (by decide) rfl rfl rfl dX3_init_14 ?_
  refine g_aload_n (pc := 17) (i := 0) (j := 0) C dX3_init_17 rfl rfl ?_
  refine g_bipush (pc := 18) C dX3_init_18 cb_m9 ?_
  refine c_put (pc := 20) (q0 := 0) (v := .int (-9)) (ws' := [(h0, .inr (2, [.ref q7, .int 0, .int (-9), .int 0, .null, .null, .int 0])), (q7, .inl (eA ε 0, 60, .inl (fun _ => 0)))]) C K fdX3_19 rfl (by decide) rfl rfl rfl dX3_init_20 ?_
  refine g_aload_n (pc := 23) (i := 0) (j := 0) C dX3_init_23 rfl rfl ?_
  refine g_iconst (pc := 24) C dX3_init_24 ci_0 ?_
  refine c_put (pc := 25) (q0 := 0) (v := .int 0) (ws' := [(h0, .inr (2, [.ref q7, .int 0, .int (-9), .int 0, .null, .null, .int 0])), (q7, .inl (eA ε 0, 60, .inl (fun _ => 0)))]) C K fdX3_22 rfl (by decide) rfl rfl rfl dX3_init_25 ?_
  refine g_aload_n (pc := 28) (i := 0) (j := 0) C dX3_init_28 rfl rfl ?_
  refine g_bipush (pc := 29) C dX3_init_29 cb_6 ?_
  refine c_newa (pc := 31) (atype := .int) (t := 0) (N := 6) (a0 := (6, .inl (fun _ => 0))) C K hA ac_int rfl (fun _ => rfl) (by decide) rfl (Nat.le_of_ble_eq_true rfl) (Nat.le_of_ble_eq_true rfl) (Nat.le_of_ble_eq_true rfl) dX3_init_31 (fun q31 => ?_)
  replace C := C.up (a := 1) (b := 6) (Nat.le_of_ble_eq_true rfl) (Nat.le_of_ble_eq_true rfl)
  show G _ (Vc _ ε [(h0, .inr (2, [.ref q7, .int 0, .int (-9), .int 0, .null, .null, .int 0])), (q7, .inl (eA ε 0, 60, .inl (fun _ => 0))), (q31, .inl (eA ε 0, 6, .inl (fun _ => 0)))] _) 1 33 [(0, .ref h0)] [.ref q31, .ref h0]
  refine c_putF (pc := 33) (q0 := 0) (v := .ref q31) (ws' := [(h0, .inr (2, [.ref q7, .int 0, .int (-9), .int 0, .ref q31, .null, .int 0])), (q7, .inl (eA ε 0, 60, .inl (fun _ => 0))), (q31, .inl (eA ε 0, 6, .inl (fun _ => 0)))]) C K hin fdX3_25 rfl (by decide) rfl rfl (dcX3 4) ⟨_, _, rfl⟩ rfl dX3_init_33 ?_
  refine g_aload_n (pc := 36) (i := 0) (j := 0) C dX3_init_36 rfl rfl ?_
  refine g_bipush (pc := 37) C dX3_init_37 cb_6 ?_
  refine c_newa (pc := 39) (atype := .long) (t := 1) (N := 6) (a0 := (6, .inr (.inl (fun _ => 0)))) C K hA ac_long rfl (fun _ => rfl) (by decide) rfl (Nat.le_of_ble_eq_true rfl) (Nat.le_of_ble_eq_true rfl) (Nat.le_of_ble_eq_true rfl) dX3_init_39 (fun q39 => ?_)
  replace C := C.up (a := 1) (b := 6) (Nat.le_of_ble_eq_true rfl) (Nat.le_of_ble_eq_true rfl)
  show G _ (Vc _ ε [(h0, .inr (2, [.ref q7, .int 0, .int (-9), .int 0, .ref q31, .null, .int 0])), (q7, .inl (eA ε 0, 60, .inl (fun _ => 0))), (q31, .inl (eA ε 0, 6, .inl (fun _ => 0))), (q39, .inl (eA ε 1, 6, .inr (.inl (fun _ => 0))))] _) 1 41 [(0, .ref h0)] [.ref q39, .ref h0]
  refine c_putF (pc := 41) (q0 := 0) (v := .ref q39) (ws' := [(h0, .inr (2, [.ref q7, .int 0, .int (-9), .int 0, .ref q31, .ref q39, .int 0])), (q7, .inl (eA ε 0, 60, .inl (fun _ => 0))), (q31, .inl (eA ε 0, 6, .inl (fun _ => 0))), (q39, .inl (eA ε 1, 6, .inr (.inl (fun _ => 0))))]) C K hin fdX3_28 rfl (by decide) rfl rfl (dcX3 5) ⟨_, _, rfl⟩ rfl dX3_init_41 ?_
  refine g_aload_n (pc := 44) (i := 0) (j := 0) C dX3_init_44 rfl rfl ?_
  refine g_iconst (pc := 45) C dX3_init_45 ci_0 ?_
  refine c_put (pc := 46) (q0 := 0) (v := .int 0) (ws' := [(h0, .inr (2, [.ref q7, .int 0, .int (-9), .int 0, .ref q31, .ref q39, .int 0])), (q7, .inl (eA ε 0, 60, .inl (fun _ => 0))), (q31, .inl (eA ε 0, 6, .inl (fun _ => 0))), (q39, .inl (eA ε 1, 6, .inr (.inl (fun _ => 0))))]) C K fdX3_32 rfl (by decide) rfl rfl rfl dX3_init_46 ?_
  exact c_ret (pc := 49) C hQ rfl rfl rfl [q7, q31, q39] rfl rfl dX3_init_49
theorem dX5_init_0 : decode cX5_init 0 = .ok (.aload_n 0, 1) := by decide +kernel
theorem dX5_init_1 : decode cX5_init 1 = .ok (.invokespecial 5, 3) := by decide +kernel
theorem dX5_init_4 : decode cX5_init 4 = .ok (.aload_n 0, 1) := by decide +kernel
theorem dX5_init_5 : decode cX5_init 5 = .ok (.bipush 26, 2) := by decide +kernel
theorem dX5_init_7 : decode cX5_init 7 = .ok (.newarray .int, 2) := by decide +kernel
theorem dX5_init_9 : decode cX5_init 9 = .ok (.putfield 13, 3) := by decide +kernel
theorem dX5_init_12 : decode cX5_init 12 = .ok (.aload_n 0, 1) := by decide +kernel
theorem dX5_init_13 : decode cX5_init 13 = .ok (.bipush 26, 2) := by decide +kernel
theorem dX5_init_15 : decode cX5_init 15 = .ok (.newarray .int, 2) := by decide +kernel
theorem dX5_init_17 : decode cX5_init 17 = .ok (.putfield 17, 3) := by decide +kernel
theorem dX5_init_20 : decode cX5_init 20 = .ok (.aload_n 0, 1) := by decide +kernel
theorem dX5_init_21 : decode cX5_init 21 = .ok (.sipush 156, 3) := by decide +kernel
theorem dX5_init_24 : decode cX5_init 24 = .ok (.newarray .int, 2) := by decide +kernel
theorem dX5_init_26 : decode cX5_init 26 = .ok (.putfield 20, 3) := by decide +kernel
theorem dX5_init_29 : decode cX5_init 29 = .ok (.aload_n 0, 1) := by decide +kernel
theorem dX5_init_30 : decode cX5_init 30 = .ok (.sipush 156, 3) := by decide +kernel
theorem dX5_init_33 : decode cX5_init 33 = .ok (.newarray .long, 2) := by decide +kernel
theorem dX5_init_35 : decode cX5_init 35 = .ok (.putfield 23, 3) := by decide +kernel
theorem dX5_init_38 : decode cX5_init 38 = .ok (.aload_n 0, 1) := by decide +kernel
theorem dX5_init_39 : decode cX5_init 39 = .ok (.getfield 13, 3) := by decide +kernel
theorem dX5_init_42 : decode cX5_init 42 = .ok (.iconst 0, 1) := by decide +kernel
theorem dX5_init_43 : decode cX5_init 43 = .ok (.bipush 15, 2) := by decide +kernel
theorem dX5_init_45 : decode cX5_init 45 = .ok (.iastore, 1) := by decide +kernel
theorem dX5_init_46 : decode cX5_init 46 = .ok (.return_, 1) := by decide +kernel
def wuX5 (ε : Ev) (h0 : Nat) (u : List Nat) : va_W := [(h0, .inr (3, [.ref u.getD 0 0, .ref u.getD 1 0, .ref u.getD 2 0, .ref u.getD 3 0])), (u.getD 0 0, .inl (eA ε 0, 26, .inl (upd (fun _ => 0) 0 15))), (u.getD 1 0, .inl (eA ε 0, 26, .inl (fun _ => 0))), (u.getD 2 0, .inl (eA ε 0, 156, .inl (fun _ => 0))), (u.getD 3 0, .inl (eA ε 1, 156, .inr (.inl (fun _ => 0))))]
theorem dcX5 (k : Nat) (T : u_T) (N : Nat) (h : vwCl[3]? = some (RX5, T, N)) : (T k).1 = RX5 := by
  cases h
  unfold TX5
  split <;> rfl
set_option maxRecDepth 100000 in
set_option maxHeartbeats 4000000 in
theorem kX5_init (l : Launch) (ε : Ev) (h0 : Nat) : Sc l ε yX5_init cX5_init 1 1 4 364 h0 [(h0, .inr (3, [.null, .null, .null, .null]))] (wuX5 ε h0) 4 := by
  refine Sc.of (by decide +kernel) (by decide) rfl ?_
  rintro ⟨p, l1, e, RR, s, m, args, below, meth, c, Q, n0, o0⟩ hl0 hn0 ho0 hR0 hin C K hlt hQ
  dsimp only [kl, kn, ko, kR] at hl0 hn0 ho0 hR0
  subst hl0; subst hn0; subst ho0; subst hR0
  have hA : ∀ κ : Kx, kS κ = s → Ag κ (Ac h0 s.heap.size) := fun κ h q hq => Or.inr (by rw [← h]; exact hq)
  replace hA := hA (p, l1, e, rmc 1 4 364, s, m, args, below, meth, c, Q, 0, 0) rfl
  replace C : Cf _ cX5_init 1 RX5 none 1 := C
  refine g_aload_n (pc := 0) (i := 0) (j := 0) C dX5_init_0 rfl rfl ?_
  refine c_obj (pc := 1) C (by decide) obX5_5 ob_i ob_c (Nat.le_of_ble_eq_true rfl) dX5_init_1 ?_
  refine g_aload_n (pc := 4) (i := 0) (j := 0) C dX5_init_4 rfl rfl ?_
  refine g_bipush (pc := 5) C dX5_init_5 cb_26 ?_
  refine c_newa (pc := 7) (atype := .int) (t := 0) (N := 26) (a0 := (26, .inl (fun _ => 0))) C K hA ac_int rfl (fun _ => rfl) (by decide) rfl (Nat.le_of_ble_eq_true rfl) (Nat.le_of_ble_eq_true rfl) (Nat.le_of_ble_eq_true rfl) dX5_init_7 (fun q7 => ?_)
  replace C := C.up (a := 1) (b := 26) (Nat.le_of_ble_eq_true rfl) (Nat.le_of_ble_eq_true rfl)
  show G _ (Vc _ ε [(h0, .inr (3, [.null, .null, .null, .null])), (q7, .inl (eA ε 0, 26, .inl (fun _ => 0)))] _) 1 9 [(0, .ref h0)] [.ref q7, .ref h0]
  refine c_putF (pc := 9) (q0 := 0) (v := .ref q7) (ws' := [(h0, .inr (3, [.ref q7, .null, .null, .null])), (q7, .inl (eA ε 0, 26, .inl (fun _ => 0)))]) C K hin fdX5_13 rfl (by decide) rfl rfl (dcX5 0) ⟨_, _, rfl⟩ rfl dX5_init_9 ?_
  refine g_aload_n (pc := 12) (i := 0) (j := 0) C dX5_init_12 rfl rfl ?_
  refine g_bipush (pc := 13) C dX5_init_13 cb_26 ?_
  refine c_newa (pc := 15) (atype := .int) (t := 0) (N := 26) (a0 := (26, .inl (fun _ => 0))) C K hA ac_int rfl (fun _ => rfl) (by decide) rfl (Nat.le_of_ble_eq_true rfl) (Nat.le_of_ble_eq_true rfl) (Nat.le_of_ble_eq_true rfl) dX5_init_15 (fun q15 => ?_)
  replace C := C.up (a := 1) (b := 26) (Nat.le_of_ble_eq_true rfl) (Nat.le_of_ble_eq_true rfl)
  show G _ (Vc _ ε [(h0, .inr (3, [.ref q7, .null, .null, .null])), (q7, .inl (eA ε 0, 26, .inl (fun _ => 0))), (q15, .inl (eA ε 0, 26, .inl (fun _ => 0)))] _) 1 17 [(0, .ref h0)] [.ref q15, .ref h0]
  refine c_putF (pc := 17) (q0 := 0) (v := .ref q15) (ws' := [(h0, .inr (3, [.ref q7, .ref q15, .null, .null])), (q7, .inl (eA ε 0, 26, .inl (fun _ => 0))), (q15, .inl (eA ε 0, 26, .inl (fun _ => 0)))]) C K hin fdX5_17 rfl (by decide) rfl rfl (dcX5 1) ⟨_, _, rfl⟩ rfl dX5_init_17 ?_
  refine g_aload_n (pc := 20) (i := 0) (j := 0) C dX5_init_20 rfl rfl ?_
  refine g_sipush (pc := 21) C dX5_init_21 cs_156 ?_
  refine c_newa (pc := 24) (atype := .int) (t := 0) (N := 156) (a0 := (156, .inl (fun _ => 0))) C K hA ac_int rfl (fun _ => rfl) (by decide) rfl (Nat.le_of_ble_eq_true rfl) (Nat.le_of_ble_eq_true rfl) (Nat.le_of_ble_eq_true rfl) dX5_init_24 (fun q24 => ?_)
  replace C := C.up (a := 1) (b := 156) (Nat.le_of_ble_eq_true rfl) (Nat.le_of_ble_eq_true rfl)
  show G _ (Vc _ ε [(h0, .inr (3, [.ref q7, .ref q15, .null, .null])), (q7, .inl (eA ε 0, 26, .inl (fun _ => 0))), (q15, .inl (eA ε 0, 26, .inl (fun _ => 0))), (q24, .inl (eA ε 0, 156, .inl (fun _ => 0)))] _) 1 26 [(0, .ref h0)] [.ref q24, .ref h0]
  refine c_putF (pc := 26) (q0 := 0) (v := .ref q24) (ws' := [(h0, .inr (3, [.ref q7, .ref q15, .ref q24, .null])), (q7, .inl (eA ε 0, 26, .inl (fun _ => 0))), (q15, .inl (eA ε 0, 26, .inl (fun _ => 0))), (q24, .inl (eA ε 0, 156, .inl (fun _ => 0)))]) C K hin fdX5_20 rfl (by decide) rfl rfl (dcX5 2) ⟨_, _, rfl⟩ rfl dX5_init_26 ?_
  refine g_aload_n (pc := 29) (i := 0) (j := 0) C dX5_init_29 rfl rfl ?_
  refine g_sipush (pc := 30) C dX5_init_30 cs_156 ?_
  refine c_newa (pc := 33) (atype := .long) (t := 1) (N := 156) (a0 := (156, .inr (.inl (fun _ => 0)))) C K hA ac_long rfl (fun _ => rfl) (by decide) rfl (Nat.le_of_ble_eq_true rfl) (Nat.le_of_ble_eq_true rfl) (Nat.le_of_ble_eq_true rfl) dX5_init_33 (fun q33 => ?_)
  replace C := C.up (a := 1) (b := 156) (Nat.le_of_ble_eq_true rfl) (Nat.le_of_ble_eq_true rfl)
  show G _ (Vc _ ε [(h0, .inr (3, [.ref q7, .ref q15, .ref q24, .null])), (q7, .inl (eA ε 0, 26, .inl (fun _ => 0))), (q15, .inl (eA ε 0, 26, .inl (fun _ => 0))), (q24, .inl (eA ε 0, 156, .inl (fun _ => 0))), (q33, .inl (eA ε 1, 156, .inr (.inl (fun _ => 0))))] _) 1 35 [(0, .ref h0)] [.ref q33, .ref h0]
  refine c_putF (pc := 35) (q0 := 0) (v := .ref q33) (ws' := [(h0, .inr (3, [.ref q7, .ref q15, .ref q24, .ref q33])), (q7, .inl (eA ε 0, 26, .inl (fun _ => 0))), (q15, .inl (eA ε 0, 26, .inl (fun _ => 0))), (q24, .inl (eA ε 0, 156, .inl (fun _ => 0))), (q33, .inl (eA ε 1, 156, .inr (.inl (fun _ => 0))))]) C K hin fdX5_23 rfl (by decide) rfl rfl (dcX5 3) ⟨_, _, rfl⟩ rfl dX5_init_35 ?_
  refine g_aload_n (pc := 38) (i := 0) (j := 0) C dX5_init_38 rfl rfl ?_
  refine c_getr (pc := 39) (q0 := 0) C K fdX5_13 rfl (v := .ref q7) rfl dX5_init_39 ?_
  refine g_iconst (pc := 42) C dX5_init_42 ci_0 ?_
  refine g_bipush (pc := 43) C dX5_init_43 cb_15 ?_
  refine c_iast (pc := 45) (q0 := 1) (ws' := [(h0, .inr (3, [.ref q7, .ref q15, .ref q24, .ref q33])), (q7, .inl (eA ε 0, 26, .inl (upd (fun _ => 0) 0 15))), (q15, .inl (eA ε 0, 26, .inl (fun _ => 0))), (q24, .inl (eA ε 0, 156, .inl (fun _ => 0))), (q33, .inl (eA ε 1, 156, .inr (.inl (fun _ => 0))))]) C K rfl (by decide) rfl dX5_init_45 ?_
  exact c_ret (pc := 46) C hQ rfl rfl rfl [q7, q15, q24, q33] rfl rfl dX5_init_46
theorem dX0_init_0 : decode cX0_init 0 = .ok (.aload_n 0, 1) := by decide +kernel
theorem dX0_init_1 : decode cX0_init 1 = .ok (.invokespecial 3, 3) := by decide +kernel
theorem dX0_init_4 : decode cX0_init 4 = .ok (.aload_n 0, 1) := by decide +kernel
theorem dX0_init_5 : decode cX0_init 5 = .ok (.bipush 14, 2) := by decide +kernel
theorem dX0_init_7 : decode cX0_init 7 = .ok (.newarray .int, 2) := by decide +kernel
theorem dX0_init_9 : decode cX0_init 9 = .ok (.putfield 11, 3) := by decide +kernel
theorem dX0_init_12 : decode cX0_init 12 = .ok (.aload_n 0, 1) := by decide +kernel
theorem dX0_init_13 : decode cX0_init 13 = .ok (.bipush 14, 2) := by decide +kernel
theorem dX0_init_15 : decode cX0_init 15 = .ok (.newarray .int, 2) := by decide +kernel
theorem dX0_init_17 : decode cX0_init 17 = .ok (.putfield 15, 3) := by decide +kernel
theorem dX0_init_20 : decode cX0_init 20 = .ok (.aload_n 0, 1) := by decide +kernel
theorem dX0_init_21 : decode cX0_init 21 = .ok (.bipush 14, 2) := by decide +kernel
theorem dX0_init_23 : decode cX0_init 23 = .ok (.newarray .int, 2) := by decide +kernel
theorem dX0_init_25 : decode cX0_init 25 = .ok (.putfield 18, 3) := by decide +kernel
theorem dX0_init_28 : decode cX0_init 28 = .ok (.aload_n 0, 1) := by decide +kernel
theorem dX0_init_29 : decode cX0_init 29 = .ok (.bipush 14, 2) := by decide +kernel
theorem dX0_init_31 : decode cX0_init 31 = .ok (.newarray .int, 2) := by decide +kernel
theorem dX0_init_33 : decode cX0_init 33 = .ok (.putfield 21, 3) := by decide +kernel
theorem dX0_init_36 : decode cX0_init 36 = .ok (.aload_n 0, 1) := by decide +kernel
theorem dX0_init_37 : decode cX0_init 37 = .ok (.bipush 84, 2) := by decide +kernel
theorem dX0_init_39 : decode cX0_init 39 = .ok (.newarray .int, 2) := by decide +kernel
theorem dX0_init_41 : decode cX0_init 41 = .ok (.putfield 24, 3) := by decide +kernel
theorem dX0_init_44 : decode cX0_init 44 = .ok (.aload_n 0, 1) := by decide +kernel
theorem dX0_init_45 : decode cX0_init 45 = .ok (.bipush 84, 2) := by decide +kernel
theorem dX0_init_47 : decode cX0_init 47 = .ok (.newarray .long, 2) := by decide +kernel
theorem dX0_init_49 : decode cX0_init 49 = .ok (.putfield 27, 3) := by decide +kernel
theorem dX0_init_52 : decode cX0_init 52 = .ok (.aload_n 0, 1) := by decide +kernel
theorem dX0_init_53 : decode cX0_init 53 = .ok (.iconst 0, 1) := by decide +kernel
theorem dX0_init_54 : decode cX0_init 54 = .ok (.putfield 31, 3) := by decide +kernel
theorem dX0_init_57 : decode cX0_init 57 = .ok (.aload_n 0, 1) := by decide +kernel
theorem dX0_init_58 : decode cX0_init 58 = .ok (.iconst 0, 1) := by decide +kernel
theorem dX0_init_59 : decode cX0_init 59 = .ok (.putfield 35, 3) := by decide +kernel
theorem dX0_init_62 : decode cX0_init 62 = .ok (.return_, 1) := by decide +kernel
def wuX0 (ε : Ev) (h0 : Nat) (u : List Nat) : va_W := [(h0, .inr (0, [.ref u.getD 0 0, .ref u.getD 1 0, .ref u.getD 2 0, .ref u.getD 3 0, .ref u.getD 4 0, .ref u.getD 5 0, .int 0, .int 0])), (u.getD 0 0, .inl (eA ε 0, 14, .inl (fun _ => 0))), (u.getD 1 0, .inl (eA ε 0, 14, .inl (fun _ => 0))), (u.getD 2 0, .inl (eA ε 0, 14, .inl (fun _ => 0))), (u.getD 3 0, .inl (eA ε 0, 14, .inl (fun _ => 0))), (u.getD 4 0, .inl (eA ε 0, 84, .inl (fun _ => 0))), (u.getD 5 0, .inl (eA ε 1, 84, .inr (.inl (fun _ => 0))))]
theorem dcX0 (k : Nat) (T : u_T) (N : Nat) (h : vwCl[0]? = some (RX0, T, N)) : (T k).1 = RX0 := by
  cases h
  unfold TX0
  split <;> rfl
set_option maxRecDepth 100000 in
set_option maxHeartbeats 4000000 in
theorem kX0_init (l : Launch) (ε : Ev) (h0 : Nat) : Sc l ε yX0_init cX0_init 1 1 6 224 h0 [(h0, .inr (0, [.null, .null, .null, .null, .null, .null, .int 0, .int 0]))] (wuX0 ε h0) 6 := by
  refine Sc.of (by decide +kernel) (by decide) rfl ?_
  rintro ⟨p, l1, e, RR, s, m, args, below, meth, c, Q, n0, o0⟩ hl0 hn0 ho0 hR0 hin C K hlt hQ
  dsimp only [kl, kn, ko, kR] at hl0 hn0 ho0 hR0
  subst hl0; subst hn0; subst ho0; subst hR0
  have hA : ∀ κ : Kx, kS κ = s → Ag κ (Ac h0 s.heap.size) := fun κ h q hq => Or.inr (by rw [← h]; exact hq)
  replace hA := hA (p, l1, e, rmc 1 6 224, s, m, args, below, meth, c, Q, 0, 0) rfl
  replace C : Cf _ cX0_init 1 RX0 none 1 := C
  refine g_aload_n (pc := 0) (i := 0) (j := 0) C dX0_init_0 rfl rfl ?_
  refine c_obj (pc := 1) C (by decide) obX0_3 ob_i ob_c (Nat.le_of_ble_eq_true rfl) dX0_init_1 ?_
  refine g_aload_n (pc := 4) (i := 0) (j := 0) C dX0_init_4 rfl rfl ?_
  refine g_bipush (pc := 5) C dX0_init_5 cb_14 ?_
  refine c_newa (pc := 7) (atype := .int) (t := 0) (N := 14) (a0 := (14, .inl (fun _ => 0))) C K hA ac_int rfl (fun _ => rfl) (by decide) rfl (Nat.le_of_ble_eq_true rfl) (Nat.le_of_ble_eq_true rfl) (Nat.le_of_ble_eq_true rfl) dX0_init_7 (fun q7 => ?_)
  replace C := C.up (a := 1) (b := 14) (Nat.le_of_ble_eq_true rfl) (Nat.le_of_ble_eq_true rfl)
  show G _ (Vc _ ε [(h0, .inr (0, [.null, .null, .null, .null, .null, .null, .int 0, .int 0])), (q7, .inl (eA ε 0, 14, .inl (fun _ => 0)))] _) 1 9 [(0, .ref h0)] [.ref q7, .ref h0]
  refine c_putF (pc := 9) (q0 := 0) (v := .ref q7) (ws' := [(h0, .inr (0, [.ref q7, .null, .null, .null, .null, .null, .int 0, .int 0])), (q7, .inl (eA ε 0, 14, .inl (fun _ => 0)))]) C K hin fdX0_11 rfl (by decide) rfl rfl (dcX0 0) ⟨_, _, rfl⟩ rfl dX0_init_9 ?_
  refine g_aload_n (pc := 12) (i := 0) (j := 0) C dX0_init_12 rfl rfl ?_
  refine g_bipush (pc := 13) C dX0_init_13 cb_14 ?_
  refine c_newa (pc := 15) (atype := .int) (t := 0) (N := 14) (a0 := (14, .inl (fun _ => 0))) C K hA ac_int rfl (fun _ => rfl) (by decide) rfl (Nat.le_of_ble_eq_true rfl) (Nat.le_of_ble_eq_true rfl) (Nat.le_of_ble_eq_true rfl) dX0_init_15 (fun q15 => ?_)
  replace C := C.up (a := 1) (b := 14) (Nat.le_of_ble_eq_true rfl) (Nat.le_of_ble_eq_true rfl)
  show G _ (Vc _ ε [(h0, .inr (0, [.ref q7, .null, .null, .null, .null, .null, .int 0, .int 0])), (q7, .inl (eA ε 0, 14, .inl (fun _ => 0))), (q15, .inl (eA ε 0, 14, .inl (fun _ => 0)))] _) 1 17 [(0, .ref h0)] [.ref q15, .ref h0]
  refine c_putF (pc := 17) (q0 := 0) (v := .ref q15) (ws' := [(h0, .inr (0, [.ref q7, .ref q15, .null, .null, .null, .null, .int 0, .int 0])), (q7, .inl (eA ε 0, 14, .inl (fun _ => 0))), (q15, .inl (eA ε 0, 14, .inl (fun _ => 0)))]) C K hin fdX0_15 rfl (by decide) rfl rfl (dcX0 1) ⟨_, _, rfl⟩ rfl dX0_init_17 ?_
  refine g_aload_n (pc := 20) (i := 0) (j := 0) C dX0_init_20 rfl rfl ?_
  refine g_bipush (pc := 21) C dX0_init_21 cb_14 ?_
  refine c_newa (pc := 23) (atype := .int) (t := 0) (N := 14) (a0 := (14, .inl (fun _ => 0))) C K hA ac_int rfl (fun _ => rfl) (by decide) rfl (Nat.le_of_ble_eq_true rfl) (Nat.le_of_ble_eq_true rfl) (Nat.le_of_ble_eq_true rfl) dX0_init_23 (fun q23 => ?_)
  replace C := C.up (a := 1) (b := 14) (Nat.le_of_ble_eq_true rfl) (Nat.le_of_ble_eq_true rfl)
  show G _ (Vc _ ε [(h0, .inr (0, [.ref q7, .ref q15, .null, .null, .null, .null, .int 0, .int 0])), (q7, .inl (eA ε 0, 14, .inl (fun _ => 0))), (q15, .inl (eA ε 0, 14, .inl (fun _ => 0))), (q23, .inl (eA ε 0, 14, .inl (fun _ => 0)))] _) 1 25 [(0, .ref h0)] [.ref q23, .ref h0]
  refine c_putF (pc := 25) (q0 := 0) (v := .ref q23) (ws' := [(h0, .inr (0, [.ref q7, .ref q15, .ref q23, .null, .null, .null, .int 0, .int 0])), (q7, .inl (eA ε 0, 14, .inl (fun _ => 0))), (q15, .inl (eA ε 0, 14, .inl (fun _ => 0))), (q23, .inl (eA ε 0, 14, .inl (fun _ => 0)))]) C K hin fdX0_18 rfl (by decide) rfl rfl (dcX0 2) ⟨_, _, rfl⟩ rfl dX0_init_25 ?_
  refine g_aload_n (pc := 28) (i := 0) (j := 0) C dX0_init_28 rfl rfl ?_
  refine g_bipush (pc := 29) C dX0_init_29 cb_14 ?_
  refine c_newa (pc := 31) (atype := .int) (t := 0) (N := 14) (a0 := (14, .inl (fun _ => 0))) C K hA ac_int rfl (fun _ => rfl) (by decide) rfl (Nat.le_of_ble_eq_true rfl) (Nat.le_of_ble_eq_true rfl) (Nat.le_of_ble_eq_true rfl) dX0_init_31 (fun q31 => ?_)
  replace C := C.up (a := 1) (b := 14) (Nat.le_of_ble_eq_true rfl) (Nat.le_of_ble_eq_true rfl)
  show G _ (Vc _ ε [(h0, .inr (0, [.ref q7, .ref q15, .ref q23, .null, .null, .null, .int 0, .int 0])), (q7, .inl (eA ε 0, 14, .inl (fun _ => 0))), (q15, .inl (eA ε 0, 14, .inl (fun _ => 0))), (q23, .inl (eA ε 0, 14, .inl (fun _ => 0))), (q31, .inl (eA ε 0, 14, .inl (fun _ => 0)))] _) 1 33 [(0, .ref h0)] [.ref q31, .ref h0]
  refine c_putF (pc := 33) (q0 := 0) (v := .ref q31) (ws' := [(h0, .inr (0, [.ref q7, .ref q15, .ref q23, .ref q31, .null, .null, .int 0, .int 0])), (q7, .inl (eA ε 0, 14, .inl (fun _ => 0))), (q15, .inl (eA ε 0, 14, .inl (fun _ => 0))), (q23, .inl (eA ε 0, 14, .inl (fun _ => 0))), (q31, .inl (eA ε 0, 14, .inl (fun _ => 0)))]) C K hin fdX0_21 rfl (by decide) rfl rfl (dcX0 3) ⟨_, _, rfl⟩ rfl dX0_init_33 ?_
  refine g_aload_n (pc := 36) (i := 0) (j := 0) C dX0_init_36 rfl rfl ?_
  refine g_bipush (pc := 37) C dX0_init_37 cb_84 ?_
  refine c_newa (pc := 39) (atype := .int) (t := 0) (N := 84) (a0 := (84, .inl (fun _ => 0))) C K hA ac_int rfl (fun _ => rfl) (by decide) rfl (Nat.le_of_ble_eq_true rfl) (Nat.le_of_ble_eq_true rfl) (Nat.le_of_ble_eq_true rfl) dX0_init_39 (fun q39 => ?_)
  replace C := C.up (a := 1) (b := 84) (Nat.le_of_ble_eq_true rfl) (Nat.le_of_ble_eq_true rfl)
  show G _ (Vc _ ε [(h0, .inr (0, [.ref q7, .ref q15, .ref q23, .ref q31, .null, .null, .int 0, .int 0])), (q7, .inl (eA ε 0, 14, .inl (fun _ => 0))), (q15, .inl (eA ε 0, 14, .inl (fun _ => 0))), (q23, .inl (eA ε 0, 14, .inl (fun _ => 0))), (q31, .inl (eA ε 0, 14, .inl (fun _ => 0))), (q39, .inl (eA ε 0, 84, .inl (fun _ => 0)))] _) 1 41 [(0, .ref h0)] [.ref q39, .ref h0]
  refine c_putF (pc := 41) (q0 := 0) (v := .ref q39) (ws' := [(h0, .inr (0, [.ref q7, .ref q15, .ref q23, .ref q31, .ref q39, .null, .int 0, .int 0])), (q7, .inl (eA ε 0, 14, .inl (fun _ => 0))), (q15, .inl (eA ε 0, 14, .inl (fun _ => 0))), (q23, .inl (eA ε 0, 14, .inl (fun _ => 0))), (q31, .inl (eA ε 0, 14, .inl (fun _ => 0))), (q39, .inl (eA ε 0, 84, .inl (fun _ => 0)))]) C K hin fdX0_24 rfl (by decide) rfl rfl (dcX0 4) ⟨_, _, rfl⟩ rfl dX0_init_41 ?_
  refine g_aload_n (pc := 44) (i := 0) (j := 0) C dX0_init_44 rfl rfl ?_
  refine g_bipush (pc := 45) C dX0_init_45 cb_84 ?_
  refine c_newa (pc := 47) (atype := .long) (t := 1) (N := 84) (a0 := (84, .inr (.inl (fun _ => 0)))) C K hA ac_long rfl (fun _ => rfl) (by decide) rfl (Nat.le_of_ble_eq_true rfl) (Nat.le_of_ble_eq_true rfl) (Nat.le_of_ble_eq_true rfl) dX0_init_47 (fun q47 => ?_)
  replace C := C.up (a := 1) (b := 84) (Nat.le_of_ble_eq_true rfl) (Nat.le_of_ble_eq_true rfl)
  show G _ (Vc _ ε [(h0, .inr (0, [.ref q7, .ref q15, .ref q23, .ref q31, .ref q39, .null, .int 0, .int 0])), (q7, .inl (eA ε 0, 14, .inl (fun _ => 0))), (q15, .inl (eA ε 0, 14, .inl (fun _ => 0))), (q23, .inl (eA ε 0, 14, .inl (fun _ => 0))), (q31, .inl (eA ε 0, 14, .inl (fun _ => 0))), (q39, .inl (eA ε 0, 84, .inl (fun _ => 0))), (q47, .inl (eA ε 1, 84, .inr (.inl (fun _ => 0))))] _) 1 49 [(0, .ref h0)] [.ref q47, .ref h0]
  refine c_putF (pc := 49) (q0 := 0) (v := .ref q47) (ws' := [(h0, .inr (0, [.ref q7, .ref q15, .ref q23, .ref q31, .ref q39, .ref q47, .int 0, .int 0])), (q7, .inl (eA ε 0, 14, .inl (fun _ => 0))), (q15, .inl (eA ε 0, 14, .inl (fun _ => 0))), (q23, .inl (eA ε 0, 14, .inl (fun _ => 0))), (q31, .inl (eA ε 0, 14, .inl (fun _ => 0))), (q39, .inl (eA ε 0, 84, .inl (fun _ => 0))), (q47, .inl (eA ε 1, 84, .inr (.inl (fun _ => 0))))]) C K hin fdX0_27 rfl (by decide) rfl rfl (dcX0 5) ⟨_, _, rfl⟩ rfl dX0_init_49 ?_
  refine g_aload_n (pc := 52) (i := 0) (j := 0) C dX0_init_52 rfl rfl ?_
  refine g_iconst (pc := 53) C dX0_init_53 ci_0 ?_
  refine c_put (pc := 54) (q0 := 0) (v := .int 0) (ws' := [(h0, .inr (0, [.ref q7, .ref q15, .ref q23, .ref q31, .ref q39, .ref q47, .int 0, .int 0])), (q7, .inl (eA ε 0, 14, .inl (fun _ => 0))), (q15, .inl (eA ε 0, 14, .inl (fun _ => 0))), (q23, .inl (eA ε 0, 14, .inl (fun _ => 0))), (q31, .inl (eA ε 0, 14, .inl (fun _ => 0))), (q39, .inl (eA ε 0, 84, .inl (fun _ => 0))), (q47, .inl (eA ε 1, 84, .inr (.inl (fun _ => 0))))]) C K fdX0_31 rfl (by decide) rfl rfl rfl dX0_init_54 ?_
  refine g_aload_n (pc := 57) (i := 0) (j := 0) C dX0_init_57 rfl rfl ?_
  refine g_iconst (pc := 58) C dX0_init_58 ci_0 ?_
  refine c_put (pc := 59) (q0 := 0) (v := .int 0) (ws' := [(h0, .inr (0, [.ref q7, .ref q15, .ref q23, .ref q31, .ref q39, .ref q47, .int 0, .int 0])), (q7, .inl (eA ε 0, 14, .inl (fun _ => 0))), (q15, .inl (eA ε 0, 14, .inl (fun _ => 0))), (q23, .inl (eA ε 0, 14, .inl (fun _ => 0))), (q31, .inl (eA ε 0, 14, .inl (fun _ => 0))), (q39, .inl (eA ε 0, 84, .inl (fun _ => 0))), (q47, .inl (eA ε 1, 84, .inr (.inl (fun _ => 0))))]) C K fdX0_35 rfl (by decide) rfl rfl rfl dX0_init_59 ?_
  exact c_ret (pc := 62) C hQ rfl rfl rfl [q7, q15, q23, q31, q39, q47] rfl rfl dX0_init_62
theorem dX6_init_0 : decode cX6_init 0 = .ok (.aload_n 0, 1) := by decide +kernel
theorem dX6_init_1 : decode cX6_init 1 = .ok (.invokespecial 3, 3) := by decide +kernel
theorem dX6_init_4 : decode cX6_init 4 = .ok (.aload_n 0, 1) := by decide +kernel
theorem dX6_init_5 : decode cX6_init 5 = .ok (.bipush 6, 2) := by decide +kernel
theorem dX6_init_7 : decode cX6_init 7 = .ok (.newarray .int, 2) := by decide +kernel
theorem dX6_init_9 : decode cX6_init 9 = .ok (.putfield 11, 3) := by decide +kernel
theorem dX6_init_12 : decode cX6_init 12 = .ok (.aload_n 0, 1) := by decide +kernel
theorem dX6_init_13 : decode cX6_init 13 = .ok (.bipush 6, 2) := by decide +kernel
theorem dX6_init_15 : decode cX6_init 15 = .ok (.newarray .int, 2) := by decide +kernel
theorem dX6_init_17 : decode cX6_init 17 = .ok (.putfield 15, 3) := by decide +kernel
theorem dX6_init_20 : decode cX6_init 20 = .ok (.aload_n 0, 1) := by decide +kernel
theorem dX6_init_21 : decode cX6_init 21 = .ok (.bipush 6, 2) := by decide +kernel
theorem dX6_init_23 : decode cX6_init 23 = .ok (.newarray .int, 2) := by decide +kernel
theorem dX6_init_25 : decode cX6_init 25 = .ok (.putfield 18, 3) := by decide +kernel
theorem dX6_init_28 : decode cX6_init 28 = .ok (.aload_n 0, 1) := by decide +kernel
theorem dX6_init_29 : decode cX6_init 29 = .ok (.iconst 0, 1) := by decide +kernel
theorem dX6_init_30 : decode cX6_init 30 = .ok (.putfield 21, 3) := by decide +kernel
theorem dX6_init_33 : decode cX6_init 33 = .ok (.return_, 1) := by decide +kernel
def wuX6 (ε : Ev) (h0 : Nat) (u : List Nat) : va_W := [(h0, .inr (4, [.ref u.getD 0 0, .ref u.getD 1 0, .ref u.getD 2 0, .int 0])), (u.getD 0 0, .inl (eA ε 0, 6, .inl (fun _ => 0))), (u.getD 1 0, .inl (eA ε 0, 6, .inl (fun _ => 0))), (u.getD 2 0, .inl (eA ε 0, 6, .inl (fun _ => 0)))]
theorem dcX6 (k : Nat) (T : u_T) (N : Nat) (h : vwCl[4]? = some (RX6, T, N)) : (T k).1 = RX6 := by
  cases h
  unfold TX6
  split <;> rfl
set_option maxRecDepth 100000 in
set_option maxHeartbeats 4000000 in
theorem kX6_init (l : Launch) (ε : Ev) (h0 : Nat) : Sc l ε yX6_init cX6_init 1 1 3 18 h0 [(h0, .inr (4, [.null, .null, .null, .int 0]))] (wuX6 ε h0) 3 := by
  refine Sc.of (by decide +kernel) (by decide) rfl ?_
  rintro ⟨p, l1, e, RR, s, m, args, below, meth, c, Q, n0, o0⟩ hl0 hn0 ho0 hR0 hin C K hlt hQ
  dsimp only [kl, kn, ko, kR] at hl0 hn0 ho0 hR0
  subst hl0; subst hn0; subst ho0; subst hR0
  have hA : ∀ κ : Kx, kS κ = s → Ag κ (Ac h0 s.heap.size) := fun κ h q hq => Or.inr (by rw [← h]; exact hq)
  replace hA := hA (p, l1, e, rmc 1 3 18, s, m, args, below, meth, c, Q, 0, 0) rfl
  replace C : Cf _ cX6_init 1 RX6 none 1 := C
  refine g_aload_n (pc := 0) (i := 0) (j := 0) C dX6_init_0 rfl rfl ?_
  refine c_obj (pc := 1) C (by decide) obX6_3 ob_i ob_c (Nat.le_of_ble_eq_true rfl) dX6_init_1 ?_
  refine g_aload_n (pc := 4) (i := 0) (j := 0) C dX6_init_4 rfl rfl ?_
  refine g_bipush (pc := 5) C dX6_init_5 cb_6 ?_
  refine c_newa (pc := 7) (atype := .int) (t := 0) (N := 6) (a0 := (6, .inl (fun _ => 0))) C K hA ac_int rfl (fun _ => rfl) (by decide) rfl (Nat.le_of_ble_eq_true rfl) (Nat.le_of_ble_eq_true rfl) (Nat.le_of_ble_eq_true rfl) dX6_init_7 (fun q7 => ?_)
  replace C := C.up (a := 1) (b := 6) (Nat.le_of_ble_eq_true rfl) (Nat.le_of_ble_eq_true rfl)
  show G _ (Vc _ ε [(h0, .inr (4, [.null, .null, .null, .int 0])), (q7, .inl (eA ε 0, 6, .inl (fun _ => 0)))] _) 1 9 [(0, .ref h0)] [.ref q7, .ref h0]
  refine c_putF (pc := 9) (q0 := 0) (v := .ref q7) (ws' := [(h0, .inr (4, [.ref q7, .null, .null, .int 0])), (q7, .inl (eA ε 0, 6, .inl (fun _ => 0)))]) C K hin fdX6_11 rfl (by decide) rfl rfl (dcX6 0) ⟨_, _, rfl⟩ rfl dX6_init_9 ?_
  refine g_aload_n (pc := 12) (i := 0) (j := 0) C dX6_init_12 rfl rfl ?_
  refine g_bipush (pc := 13) C dX6_init_13 cb_6 ?_
  refine c_newa (pc := 15) (atype := .int) (t := 0) (N := 6) (a0 := (6, .inl (fun _ => 0))) C K hA ac_int rfl (fun _ => rfl) (by decide) rfl (Nat.le_of_ble_eq_true rfl) (Nat.le_of_ble_eq_true rfl) (Nat.le_of_ble_eq_true rfl) dX6_init_15 (fun q15 => ?_)
  replace C := C.up (a := 1) (b := 6) (Nat.le_of_ble_eq_true rfl) (Nat.le_of_ble_eq_true rfl)
  show G _ (Vc _ ε [(h0, .inr (4, [.ref q7, .null, .null, .int 0])), (q7, .inl (eA ε 0, 6, .inl (fun _ => 0))), (q15, .inl (eA ε 0, 6, .inl (fun _ => 0)))] _) 1 17 [(0, .ref h0)] [.ref q15, .ref h0]
  refine c_putF (pc := 17) (q0 := 0) (v := .ref q15) (ws' := [(h0, .inr (4, [.ref q7, .ref q15, .null, .int 0])), (q7, .inl (eA ε 0, 6, .inl (fun _ => 0))), (q15, .inl (eA ε 0, 6, .inl (fun _ => 0)))]) C K hin fdX6_15 rfl (by decide) rfl rfl (dcX6 1) ⟨_, _, rfl⟩ rfl dX6_init_17 ?_
  refine g_aload_n (pc := 20) (i := 0) (j := 0) C dX6_init_20 rfl rfl ?_
  refine g_bipush (pc := 21) C dX6_init_21 cb_6 ?_
  refine c_newa (pc := 23) (atype := .int) (t := 0) (N := 6) (a0 := (6, .inl (fun _ => 0))) C K hA ac_int rfl (fun _ => rfl) (by decide) rfl (Nat.le_of_ble_eq_true rfl) (Nat.le_of_ble_eq_true rfl) (Nat.le_of_ble_eq_true rfl) dX6_init_23 (fun q23 => ?_)
  replace C := C.up (a := 1) (b := 6) (Nat.le_of_ble_eq_true rfl) (Nat.le_of_ble_eq_true rfl)
  show G _ (Vc _ ε [(h0, .inr (4, [.ref q7, .ref q15, .null, .int 0])), (q7, .inl (eA ε 0, 6, .inl (fun _ => 0))), (q15, .inl (eA ε 0, 6, .inl (fun _ => 0))), (q23, .inl (eA ε 0, 6, .inl (fun _ => 0)))] _) 1 25 [(0, .ref h0)] [.ref q23, .ref h0]
  refine c_putF (pc := 25) (q0 := 0) (v := .ref q23) (ws' := [(h0, .inr (4, [.ref q7, .ref q15, .ref q23, .int 0])), (q7, .inl (eA ε 0, 6, .inl (fun _ => 0))), (q15, .inl (eA ε 0, 6, .inl (fun _ => 0))), (q23, .inl (eA ε 0, 6, .inl (fun _ => 0)))]) C K hin fdX6_18 rfl (by decide) rfl rfl (dcX6 2) ⟨_, _, rfl⟩ rfl dX6_init_25 ?_
  refine g_aload_n (pc := 28) (i := 0) (j := 0) C dX6_init_28 rfl rfl ?_
  refine g_iconst (pc := 29) C dX6_init_29 ci_0 ?_
  refine c_put (pc := 30) (q0 := 0) (v := .int 0) (ws' := [(h0, .inr (4, [.ref q7, .ref q15, .ref q23, .int 0])), (q7, .inl (eA ε 0, 6, .inl (fun _ => 0))), (q15, .inl (eA ε 0, 6, .inl (fun _ => 0))), (q23, .inl (eA ε 0, 6, .inl (fun _ => 0)))]) C K fdX6_21 rfl (by decide) rfl rfl rfl dX6_init_30 ?_
  exact c_ret (pc := 33) C hQ rfl rfl rfl [q7, q15, q23] rfl rfl dX6_init_33
theorem dX7_init_0 : decode cX7_init 0 = .ok (.aload_n 0, 1) := by decide +kernel
theorem dX7_init_1 : decode cX7_init 1 = .ok (.invokespecial 3, 3) := by decide +kernel
theorem dX7_init_4 : decode cX7_init 4 = .ok (.aload_n 0, 1) := by decide +kernel
theorem dX7_init_5 : decode cX7_init 5 = .ok (.new 9, 3) := by decide +kernel
theorem dX7_init_8 : decode cX7_init 8 = .ok (.dup, 1) := by decide +kernel
theorem dX7_init_9 : decode cX7_init 9 = .ok (.invokespecial 11, 3) := by decide +kernel
theorem dX7_init_12 : decode cX7_init 12 = .ok (.putfield 12, 3) := by decide +kernel
theorem dX7_init_15 : decode cX7_init 15 = .ok (.aload_n 0, 1) := by decide +kernel
theorem dX7_init_16 : decode cX7_init 16 = .ok (.new 16, 3) := by decide +kernel
theorem dX7_init_19 : decode cX7_init 19 = .ok (.dup, 1) := by decide +kernel
theorem dX7_init_20 : decode cX7_init 20 = .ok (.invokespecial 18, 3) := by decide +kernel
theorem dX7_init_23 : decode cX7_init 23 = .ok (.putfield 19, 3) := by decide +kernel
theorem dX7_init_26 : decode cX7_init 26 = .ok (.aload_n 0, 1) := by decide +kernel
theorem dX7_init_27 : decode cX7_init 27 = .ok (.new 23, 3) := by decide +kernel
theorem dX7_init_30 : decode cX7_init 30 = .ok (.dup, 1) := by decide +kernel
theorem dX7_init_31 : decode cX7_init 31 = .ok (.invokespecial 25, 3) := by decide +kernel
theorem dX7_init_34 : decode cX7_init 34 = .ok (.putfield 26, 3) := by decide +kernel
theorem dX7_init_37 : decode cX7_init 37 = .ok (.aload_n 0, 1) := by decide +kernel
theorem dX7_init_38 : decode cX7_init 38 = .ok (.new 30, 3) := by decide +kernel
theorem dX7_init_41 : decode cX7_init 41 = .ok (.dup, 1) := by decide +kernel
theorem dX7_init_42 : decode cX7_init 42 = .ok (.invokespecial 32, 3) := by decide +kernel
theorem dX7_init_45 : decode cX7_init 45 = .ok (.putfield 33, 3) := by decide +kernel
theorem dX7_init_48 : decode cX7_init 48 = .ok (.aload_n 0, 1) := by decide +kernel
theorem dX7_init_49 : decode cX7_init 49 = .ok (.new 37, 3) := by decide +kernel
theorem dX7_init_52 : decode cX7_init 52 = .ok (.dup, 1) := by decide +kernel
theorem dX7_init_53 : decode cX7_init 53 = .ok (.invokespecial 39, 3) := by decide +kernel
theorem dX7_init_56 : decode cX7_init 56 = .ok (.putfield 40, 3) := by decide +kernel
theorem dX7_init_59 : decode cX7_init 59 = .ok (.aload_n 0, 1) := by decide +kernel
theorem dX7_init_60 : decode cX7_init 60 = .ok (.bipush 10, 2) := by decide +kernel
theorem dX7_init_62 : decode cX7_init 62 = .ok (.newarray .int, 2) := by decide +kernel
theorem dX7_init_64 : decode cX7_init 64 = .ok (.putfield 44, 3) := by decide +kernel
theorem dX7_init_67 : decode cX7_init 67 = .ok (.aload_n 0, 1) := by decide +kernel
theorem dX7_init_68 : decode cX7_init 68 = .ok (.bipush 6, 2) := by decide +kernel
theorem dX7_init_70 : decode cX7_init 70 = .ok (.newarray .int, 2) := by decide +kernel
theorem dX7_init_72 : decode cX7_init 72 = .ok (.putfield 48, 3) := by decide +kernel
theorem dX7_init_75 : decode cX7_init 75 = .ok (.aload_n 0, 1) := by decide +kernel
theorem dX7_init_76 : decode cX7_init 76 = .ok (.iconst 0, 1) := by decide +kernel
theorem dX7_init_77 : decode cX7_init 77 = .ok (.putfield 51, 3) := by decide +kernel
theorem dX7_init_80 : decode cX7_init 80 = .ok (.aload_n 0, 1) := by decide +kernel
theorem dX7_init_81 : decode cX7_init 81 = .ok (.iconst 0, 1) := by decide +kernel
theorem dX7_init_82 : decode cX7_init 82 = .ok (.putfield 55, 3) := by decide +kernel
theorem dX7_init_85 : decode cX7_init 85 = .ok (.aload_n 0, 1) := by decide +kernel
theorem dX7_init_86 : decode cX7_init 86 = .ok (.bipush (-9), 2) := by decide +kernel
theorem dX7_init_88 : decode cX7_init 88 = .ok (.putfield 58, 3) := by decide +kernel
theorem dX7_init_91 : decode cX7_init 91 = .ok (.aload_n 0, 1) := by decide +kernel
theorem dX7_init_92 : decode cX7_init 92 = .ok (.lconst 0, 1) := by decide +kernel
theorem dX7_init_93 : decode cX7_init 93 = .ok (.putfield 61, 3) := by decide +kernel
theorem dX7_init_96 : decode cX7_init 96 = .ok (.return_, 1) := by decide +kernel
def wuX7 (ε : Ev) (h0 : Nat) (u : List Nat) : va_W := [(h0, .inr (5, [.ref u.getD 0 0, .ref u.getD 4 0, .ref u.getD 9 0, .ref u.getD 16 0, .ref u.getD 18 0, .ref u.getD 22 0, .ref u.getD 23 0, .int 0, .int 0, .int (-9), .long 0])), (u.getD 0 0, .inr (2, [.ref u.getD 1 0, .int 0, .int (-9), .int 0, .ref u.getD 2 0, .ref u.getD 3 0, .int 0])), (u.getD 1 0, .inl (eA ε 0, 60, .inl (fun _ => 0))), (u.getD 2 0, .inl (eA ε 0, 6, .inl (fun _ => 0))), (u.getD 3 0, .inl (eA ε 1, 6, .inr (.inl (fun _ => 0)))), (u.getD 4 0, .inr (3, [.ref u.getD 5 0, .ref u.getD 6 0, .ref u.getD 7 0, .ref u.getD 8 0])), (u.getD 5 0, .inl (eA ε 0, 26, .inl (upd (fun _ => 0) 0 15))), (u.getD 6 0, .inl (eA ε 0, 26, .inl (fun _ => 0))), (u.getD 7 0, .inl (eA ε 0, 156, .inl (fun _ => 0))), (u.getD 8 0, .inl (eA ε 1, 156, .inr (.inl (fun _ => 0)))), (u.getD 9 0, .inr (0, [.ref u.getD 10 0, .ref u.getD 11 0, .ref u.getD 12 0, .ref u.getD 13 0, .ref u.getD 14 0, .ref u.getD 15 0, .int 0, .int 0])), (u.getD 10 0, .inl (eA ε 0, 14, .inl (fun _ => 0))), (u.getD 11 0, .inl (eA ε 0, 14, .inl (fun _ => 0))), (u.getD 12 0, .inl (eA ε 0, 14, .inl (fun _ => 0))), (u.getD 13 0, .inl (eA ε 0, 14, .inl (fun _ => 0))), (u.getD 14 0, .inl (eA ε 0, 84, .inl (fun _ => 0))), (u.getD 15 0, .inl (eA ε 1, 84, .inr (.inl (fun _ => 0)))), (u.getD 16 0, .inr (1, [.ref u.getD 17 0, .int 0])), (u.getD 17 0, .inl (eA ε 0, 20, .inl (fun _ => 0))), (u.getD 18 0, .inr (4, [.ref u.getD 19 0, .ref u.getD 20 0, .ref u.getD 21 0, .int 0])), (u.getD 19 0, .inl (eA ε 0, 6, .inl (fun _ => 0))), (u.getD 20 0, .inl (eA ε 0, 6, .inl (fun _ => 0))), (u.getD 21 0, .inl (eA ε 0, 6, .inl (fun _ => 0))), (u.getD 22 0, .inl (eA ε 0, 10, .inl (fun _ => 0))), (u.getD 23 0, .inl (eA ε 0, 6, .inl (fun _ => 0)))]
theorem dcX7 (k : Nat) (T : u_T) (N : Nat) (h : vwCl[5]? = some (RX7, T, N)) : (T k).1 = RX7 := by
  cases h
  unfold TX7
  split <;> rfl
set_option maxRecDepth 100000 in
set_option maxHeartbeats 4000000 in
theorem kX7_init (l : Launch) (ε : Ev) (h0 : Nat) : Sc l ε yX7_init cX7_init 1 2 24 739 h0 [(h0, .inr (5, [.null, .null, .null, .null, .null, .null, .null, .int 0, .int 0, .int 0, .long 0]))] (wuX7 ε h0) 24 := by
  refine Sc.of (by decide +kernel) (by decide) rfl ?_
  rintro ⟨p, l1, e, RR, s, m, args, below, meth, c, Q, n0, o0⟩ hl0 hn0 ho0 hR0 hin C K hlt hQ
  dsimp only [kl, kn, ko, kR] at hl0 hn0 ho0 hR0
  subst hl0; subst hn0; subst ho0; subst hR0
  have hA : ∀ κ : Kx, kS κ = s → Ag κ (Ac h0 s.heap.size) := fun κ h q hq => Or.inr (by rw [← h]; exact hq)
  replace hA := hA (p, l1, e, rmc 2 24 739, s, m, args, below, meth, c, Q, 0, 0) rfl
  replace C : Cf _ cX7_init 1 RX7 none 2 := C
  refine g_aload_n (pc := 0) (i := 0) (j := 0) C dX7_init_0 rfl rfl ?_
  refine c_obj (pc := 1) C (by decide) obX7_3 ob_i ob_c (Nat.le_of_ble_eq_true rfl) dX7_init_1 ?_
  refine g_aload_n (pc := 4) (i := 0) (j := 0) C dX7_init_4 rfl rfl ?_
  refine c_new (pc := 5) C K hA nwX7_9 (Nat.le_of_ble_eq_true rfl) (Nat.le_of_ble_eq_true rfl) dX7_init_5 (fun q5 => ?_)
  replace C := C.up (a := 1) (b := 7) (Nat.le_of_ble_eq_true rfl) (Nat.le_of_ble_eq_true rfl)
  show G _ (Vc _ ε [(h0, .inr (5, [.null, .null, .null, .null, .null, .null, .null, .int 0, .int 0, .int 0, .long 0])), (q5, .inr (2, [.null, .int 0, .int 0, .int 0, .null, .null, .int 0]))] _) 1 8 [(0, .ref h0)] [.ref q5, .ref h0]
  refine g_dup (pc := 8) C dX7_init_8 rfl ?_
  refine c_init (pc := 9) (wr := [(h0, .inr (5, [.null, .null, .null, .null, .null, .null, .null, .int 0, .int 0, .int 0, .long 0]))]) (en := .inr (2, [.null, .int 0, .int 0, .int 0, .null, .null, .int 0])) C K hA liX7_11 (kX3_init (kl _) ε q5) (by decide) (Nat.le_of_ble_eq_true rfl) (Nat.le_of_ble_eq_true rfl) (Nat.le_of_ble_eq_true rfl) dX7_init_9 (fun uq5 huq5 => ?_)
  obtain ⟨uq50, uq51, uq52, rfl⟩ := lst3 huq5
  replace C := C.up (a := 3) (b := 72) (Nat.le_of_ble_eq_true rfl) (Nat.le_of_ble_eq_true rfl)
  show G _ (Vc _ ε [(h0, .inr (5, [.null, .null, .null, .null, .null, .null, .null, .int 0, .int 0, .int 0, .long 0])), (q5, .inr (2, [.ref uq50, .int 0, .int (-9), .int 0, .ref uq51, .ref uq52, .int 0])), (uq50, .inl (eA ε 0, 60, .inl (fun _ => 0))), (uq51, .inl (eA ε 0, 6, .inl (fun _ => 0))), (uq52, .inl (eA ε 1, 6, .inr (.inl (fun _ => 0))))] _) 1 12 [(0, .ref h0)] [.ref h0]
  refine c_putF (pc := 12) (q0 := 0) (v := .ref q5) (ws' := [(h0, .inr (5, [.ref q5, .null, .null, .null, .null, .null, .null, .int 0, .int 0, .int 0, .long 0])), (q5, .inr (2, [.ref uq50, .int 0, .int (-9), .int 0, .ref uq51, .ref uq52, .int 0])), (uq50, .inl (eA ε 0, 60, .inl (fun _ => 0))), (uq51, .inl (eA ε 0, 6, .inl (fun _ => 0))), (uq52, .inl (eA ε 1, 6, .inr (.inl (fun _ => 0))))]) C K hin fdX7_12 rfl (by decide) rfl rfl (dcX7 0) ⟨_, _, rfl⟩ rfl dX7_init_12 ?_
  refine g_aload_n (pc := 15) (i := 0) (j := 0) C dX7_init_15 rfl rfl ?_
  refine c_new (pc := 16) C K hA nwX7_16 (Nat.le_of_ble_eq_true rfl) (Nat.le_of_ble_eq_true rfl) dX7_init_16 (fun q16 => ?_)
  replace C := C.up (a := 1) (b := 4) (Nat.le_of_ble_eq_true rfl) (Nat.le_of_ble_eq_true rfl)
  show G _ (Vc _ ε [(h0, .inr (5, [.ref q5, .null, .null, .null, .null, .null, .null, .int 0, .int 0, .int 0, .long 0])), (q5, .inr (2, [.ref uq50, .int 0, .int (-9), .int 0, .ref uq51, .ref uq52, .int 0])), (uq50, .inl (eA ε 0, 60, .inl (fun _ => 0))), (uq51, .inl (eA ε 0, 6, .inl (fun _ => 0))), (uq52, .inl (eA ε 1, 6, .inr (.inl (fun _ => 0)))), (q16, .inr (3, [.null, .null, .null, .null]))] _) 1 19 [(0, .ref h0)] [.ref q16, .ref h0]
  refine g_dup (pc := 19) C dX7_init_19 rfl ?_
  refine c_init (pc := 20) (wr := [(h0, .inr (5, [.ref q5, .null, .null, .null, .null, .null, .null, .int 0, .int 0, .int 0, .long 0])), (q5, .inr (2, [.ref uq50, .int 0, .int (-9), .int 0, .ref uq51, .ref uq52, .int 0])), (uq50, .inl (eA ε 0, 60, .inl (fun _ => 0))), (uq51, .inl (eA ε 0, 6, .inl (fun _ => 0))), (uq52, .inl (eA ε 1, 6, .inr (.inl (fun _ => 0))))]) (en := .inr (3, [.null, .null, .null, .null])) C K hA liX7_18 (kX5_init (kl _) ε q16) (by decide) (Nat.le_of_ble_eq_true rfl) (Nat.le_of_ble_eq_true rfl) (Nat.le_of_ble_eq_true rfl) dX7_init_20 (fun uq16 huq16 => ?_)
  obtain ⟨uq160, uq161, uq162, uq163, rfl⟩ := lst4 huq16
  replace C := C.up (a := 4) (b := 364) (Nat.le_of_ble_eq_true rfl) (Nat.le_of_ble_eq_true rfl)
  show G _ (Vc _ ε [(h0, .inr (5, [.ref q5, .null, .null, .null, .null, .null, .null, .int 0, .int 0, .int 0, .long 0])), (q5, .inr (2, [.ref uq50, .int 0, .int (-9), .int 0, .ref uq51, .ref uq52, .int 0])), (uq50, .inl (eA ε 0, 60, .inl (fun _ => 0))), (uq51, .inl (eA ε 0, 6, .inl (fun _ => 0))), (uq52, .inl (eA ε 1, 6, .inr (.inl (fun _ => 0)))), (q16, .inr (3, [.ref uq160, .ref uq161, .ref uq162, .ref uq163])), (uq160, .inl (eA ε 0, 26, .inl (upd (fun _ => 0) 0 15))), (uq161, .inl (eA ε 0, 26, .inl (fun _ => 0))), (uq162, .inl (eA ε 0, 156, .inl (fun _ => 0))), (uq163, .inl (eA ε 1, 156, .inr (.inl (fun _ => 0))))] _) 1 23 [(0, .ref h0)] [.ref h0]
  refine c_putF (pc := 23) (q0 := 0) (v := .ref q16) (ws' := [(h0, .inr (5, [.ref q5, .ref q16, .null, .null, .null, .null, .null, .int 0, .int 0, .int 0, .long 0])), (q5, .inr (2, [.ref uq50, .int 0, .int (-9), .int 0, .ref uq51, .ref uq52, .int 0])), (uq50, .inl (eA ε 0, 60, .inl (fun _ => 0))), (uq51, .inl (eA ε 0, 6, .inl (fun _ => 0))), (uq52, .inl (eA ε 1, 6, .inr (.inl (fun _ => 0)))), (q16, .inr (3, [.ref uq160, .ref uq161, .ref uq162, .ref uq163])), (uq160, .inl (eA ε 0, 26, .inl (upd (fun _ => 0) 0 15))), (uq161, .inl (eA ε 0, 26, .inl (fun _ => 0))), (uq162, .inl (eA ε 0, 156, .inl (fun _ => 0))), (uq163, .inl (eA ε 1, 156, .inr (.inl (fun _ => 0))))]) C K hin fdX7_19 rfl (by decide) rfl rfl (dcX7 1) ⟨_, _, rfl⟩ rfl dX7_init_23 ?_
  refine g_aload_n (pc := 26) (i := 0) (j := 0) C dX7_init_26 rfl rfl ?_
  refine c_new (pc := 27) C K hA nwX7_23 (Nat.le_of_ble_eq_true rfl) (Nat.le_of_ble_eq_true rfl) dX7_init_27 (fun q27 => ?_)
  replace C := C.up (a := 1) (b := 8) (Nat.le_of_ble_eq_true rfl) (Nat.le_of_ble_eq_true rfl)
  show G _ (Vc _ ε [(h0, .inr (5, [.ref q5, .ref q16, .null, .null, .null, .null, .null, .int 0, .int 0, .int 0, .long 0])), (q5, .inr (2, [.ref uq50, .int 0, .int (-9), .int 0, .ref uq51, .ref uq52, .int 0])), (uq50, .inl (eA ε 0, 60, .inl (fun _ => 0))), (uq51, .inl (eA ε 0, 6, .inl (fun _ => 0))), (uq52, .inl (eA ε 1, 6, .inr (.inl (fun _ => 0)))), (q16, .inr (3, [.ref uq160, .ref uq161, .ref uq162, .ref uq163])), (uq160, .inl (eA ε 0, 26, .inl (upd (fun _ => 0) 0 15))), (uq161, .inl (eA ε 0, 26, .inl (fun _ => 0))), (uq162, .inl (eA ε 0, 156, .inl (fun _ => 0))), (uq163, .inl (eA ε 1, 156, .inr (.inl (fun _ => 0)))), (q27, .inr (0, [.null, .null, .null, .null, .null, .null, .int 0, .int 0]))] _) 1 30 [(0, .ref h0)] [.ref q27, .ref h0]
  refine g_dup (pc := 30) C dX7_init_30 rfl ?_
  refine c_init (pc := 31) (wr := [(h0, .inr (5, [.ref q5, .ref q16, .null, .null, .null, .null, .null, .int 0, .int 0, .int 0, .long 0])), (q5, .inr (2, [.ref uq50, .int 0, .int (-9), .int 0, .ref uq51, .ref uq52, .int 0])), (uq50, .inl (eA ε 0, 60, .inl (fun _ => 0))), (uq51, .inl (eA ε 0, 6, .inl (fun _ => 0))), (uq52, .inl (eA ε 1, 6, .inr (.inl (fun _ => 0)))), (q16, .inr (3, [.ref uq160, .ref uq161, .ref uq162, .ref uq163])), (uq160, .inl (eA ε 0, 26, .inl (upd (fun _ => 0) 0 15))), (uq161, .inl (eA ε 0, 26, .inl (fun _ => 0))), (uq162, .inl (eA ε 0, 156, .inl (fun _ => 0))), (uq163, .inl (eA ε 1, 156, .inr (.inl (fun _ => 0))))]) (en := .inr (0, [.null, .null, .null, .null, .null, .null, .int 0, .int 0])) C K hA liX7_25 (kX0_init (kl _) ε q27) (by decide) (Nat.le_of_ble_eq_true rfl) (Nat.le_of_ble_eq_true rfl) (Nat.le_of_ble_eq_true rfl) dX7_init_31 (fun uq27 huq27 => ?_)
  obtain ⟨uq270, uq271, uq272, uq273, uq274, uq275, rfl⟩ := lst6 huq27
  replace C := C.up (a := 6) (b := 224) (Nat.le_of_ble_eq_true rfl) (Nat.le_of_ble_eq_true rfl)
  show G _ (Vc _ ε [(h0, .inr (5, [.ref q5, .ref q16, .null, .null, .null, .null, .null, .int 0, .int 0, .int 0, .long 0])), (q5, .inr (2, [.ref uq50, .int 0, .int (-9), .int 0, .ref uq51, .ref uq52, .int 0])), (uq50, .inl (eA ε 0, 60, .inl (fun _ => 0))), (uq51, .inl (eA ε 0, 6, .inl (fun _ => 0))), (uq52, .inl (eA ε 1, 6, .inr (.inl (fun _ => 0)))), (q16, .inr (3, [.ref uq160, .ref uq161, .ref uq162, .ref uq163])), (uq160, .inl (eA ε 0, 26, .inl (upd (fun _ => 0) 0 15))), (uq161, .inl (eA ε 0, 26, .inl (fun _ => 0))), (uq162, .inl (eA ε 0, 156, .inl (fun _ => 0))), (uq163, .inl (eA ε 1, 156, .inr (.inl (fun _ => 0)))), (q27, .inr (0, [.ref uq270, .ref uq271, .ref uq272, .ref uq273, .ref uq274, .ref uq275, .int 0, .int 0])), (uq270, .inl (eA ε 0, 14, .inl (fun _ => 0))), (uq271, .inl (eA ε 0, 14, .inl (fun _ => 0))), (uq272, .inl (eA ε 0, 14, .inl (fun _ => 0))), (uq273, .inl (eA ε 0, 14, .inl (fun _ => 0))), (uq274, .inl (eA ε 0, 84, .inl (fun _ => 0))), (uq275, .inl (eA ε 1, 84, .inr (.inl (fun _ => 0))))] _) 1 34 [(0, .ref h0)] [.ref h0]
  refine c_putF (pc := 34) (q0 := 0) (v := .ref q27) (ws' := [(h0, .inr (5, [.ref q5, .ref q16, .ref q27, .null, .null, .null, .null, .int 0, .int 0, .int 0, .long 0])), (q5, .inr (2, [.ref uq50, .int 0, .int (-9), .int 0, .ref uq51, .ref uq52, .int 0])), (uq50, .inl (eA ε 0, 60, .inl (fun _ => 0))), (uq51, .inl (eA ε 0, 6, .inl (fun _ => 0))), (uq52, .inl (eA ε 1, 6, .inr (.inl (fun _ => 0)))), (q16, .inr (3, [.ref uq160, .ref uq161, .ref uq162, .ref uq163])), (uq160, .inl (eA ε 0, 26, .inl (upd (fun _ => 0) 0 15))), (uq161, .inl (eA ε 0, 26, .inl (fun _ => 0))), (uq162, .inl (eA ε 0, 156, .inl (fun _ => 0))), (uq163, .inl (eA ε 1, 156, .inr (.inl (fun _ => 0)))), (q27, .inr (0, [.ref uq270, .ref uq271, .ref uq272, .ref uq273, .ref uq274, .ref uq275, .int 0, .int 0])), (uq270, .inl (eA ε 0, 14, .inl (fun _ => 0))), (uq271, .inl (eA ε 0, 14, .inl (fun _ => 0))), (uq272, .inl (eA ε 0, 14, .inl (fun _ => 0))), (uq273, .inl (eA ε 0, 14, .inl (fun _ => 0))), (uq274, .inl (eA ε 0, 84, .inl (fun _ => 0))), (uq275, .inl (eA ε 1, 84, .inr (.inl (fun _ => 0))))]) C K hin fdX7_26 rfl (by decide) rfl rfl (dcX7 2) ⟨_, _, rfl⟩ rfl dX7_init_34 ?_
  refine g_aload_n (pc := 37) (i := 0) (j := 0) C dX7_init_37 rfl rfl ?_
  refine c_new (pc := 38) C K hA nwX7_30 (Nat.le_of_ble_eq_true rfl) (Nat.le_of_ble_eq_true rfl) dX7_init_38 (fun q38 => ?_)
  replace C := C.up (a := 1) (b := 2) (Nat.le_of_ble_eq_true rfl) (Nat.le_of_ble_eq_true rfl)
  show G _ (Vc _ ε [(h0, .inr (5, [.ref q5, .ref q16, .ref q27, .null, .null, .null, .null, .int 0, .int 0, .int 0, .long 0])), (q5, .inr (2, [.ref uq50, .int 0, .int (-9), .int 0, .ref uq51, .ref uq52, .int 0])), (uq50, .inl (eA ε 0, 60, .inl (fun _ => 0))), (uq51, .inl (eA ε 0, 6, .inl (fun _ => 0))), (uq52, .inl (eA ε 1, 6, .inr (.inl (fun _ => 0)))), (q16, .inr (3, [.ref uq160, .ref uq161, .ref uq162, .ref uq163])), (uq160, .inl (eA ε 0, 26, .inl (upd (fun _ => 0) 0 15))), (uq161, .inl (eA ε 0, 26, .inl (fun _ => 0))), (uq162, .inl (eA ε 0, 156, .inl (fun _ => 0))), (uq163, .inl (eA ε 1, 156, .inr (.inl (fun _ => 0)))), (q27, .inr (0, [.ref uq270, .ref uq271, .ref uq272, .ref uq273, .ref uq274, .ref uq275, .int 0, .int 0])), (uq270, .inl (eA ε 0, 14, .inl (fun _ => 0))), (uq271, .inl (eA ε 0, 14, .inl (fun _ => 0))), (uq272, .inl (eA ε 0, 14, .inl (fun _ => 0))), (uq273, .inl (eA ε 0, 14, .inl (fun _ => 0))), (uq274, .inl (eA ε 0, 84, .inl (fun _ => 0))), (uq275, .inl (eA ε 1, 84, .inr (.inl (fun _ => 0)))), (q38, .inr (1, [.null, .int 0]))] _) 1 41 [(0, .ref h0)] [.ref q38, .ref h0]
  refine g_dup (pc := 41) C dX7_init_41 rfl ?_
  refine c_init (pc := 42) (wr := [(h0, .inr (5, [.ref q5, .ref q16, .ref q27, .null, .null, .null, .null, .int 0, .int 0, .int 0, .long 0])), (q5, .inr (2, [.ref uq50, .int 0, .int (-9), .int 0, .ref uq51, .ref uq52, .int 0])), (uq50, .inl (eA ε 0, 60, .inl (fun _ => 0))), (uq51, .inl (eA ε 0, 6, .inl (fun _ => 0))), (uq52, .inl (eA ε 1, 6, .inr (.inl (fun _ => 0)))), (q16, .inr (3, [.ref uq160, .ref uq161, .ref uq162, .ref uq163])), (uq160, .inl (eA ε 0, 26, .inl (upd (fun _ => 0) 0 15))), (uq161, .inl (eA ε 0, 26, .inl (fun _ => 0))), (uq162, .inl (eA ε 0, 156, .inl (fun _ => 0))), (uq163, .inl (eA ε 1, 156, .inr (.inl (fun _ => 0)))), (q27, .inr (0, [.ref uq270, .ref uq271, .ref uq272, .ref uq273, .ref uq274, .ref uq275, .int 0, .int 0])), (uq270, .inl (eA ε 0, 14, .inl (fun _ => 0))), (uq271, .inl (eA ε 0, 14, .inl (fun _ => 0))), (uq272, .inl (eA ε 0, 14, .inl (fun _ => 0))), (uq273, .inl (eA ε 0, 14, .inl (fun _ => 0))), (uq274, .inl (eA ε 0, 84, .inl (fun _ => 0))), (uq275, .inl (eA ε 1, 84, .inr (.inl (fun _ => 0))))]) (en := .inr (1, [.null, .int 0])) C K hA liX7_32 (kX1_init (kl _) ε q38) (by decide) (Nat.le_of_ble_eq_true rfl) (Nat.le_of_ble_eq_true rfl) (Nat.le_of_ble_eq_true rfl) dX7_init_42 (fun uq38 huq38 => ?_)
  obtain ⟨uq380, rfl⟩ := lst1 huq38
  replace C := C.up (a := 1) (b := 20) (Nat.le_of_ble_eq_true rfl) (Nat.le_of_ble_eq_true rfl)
  show G _ (Vc _ ε [(h0, .inr (5, [.ref q5, .ref q16, .ref q27, .null, .null, .null, .null, .int 0, .int 0, .int 0, .long 0])), (q5, .inr (2, [.ref uq50, .int 0, .int (-9), .int 0, .ref uq51, .ref uq52, .int 0])), (uq50, .inl (eA ε 0, 60, .inl (fun _ => 0))), (uq51, .inl (eA ε 0, 6, .inl (fun _ => 0))), (uq52, .inl (eA ε 1, 6, .inr (.inl (fun _ => 0)))), (q16, .inr (3, [.ref uq160, .ref uq161, .ref uq162, .ref uq163])), (uq160, .inl (eA ε 0, 26, .inl (upd (fun _ => 0) 0 15))), (uq161, .inl (eA ε 0, 26, .inl (fun _ => 0))), (uq162, .inl (eA ε 0, 156, .inl (fun _ => 0))), (uq163, .inl (eA ε 1, 156, .inr (.inl (fun _ => 0)))), (q27, .inr (0, [.ref uq270, .ref uq271, .ref uq272, .ref uq273, .ref uq274, .ref uq275, .int 0, .int 0])), (uq270, .inl (eA ε 0, 14, .inl (fun _ => 0))), (uq271, .inl (eA ε 0, 14, .inl (fun _ => 0))), (uq272, .inl (eA ε 0, 14, .inl (fun _ => 0))), (uq273, .inl (eA ε 0, 14, .inl (fun _ => 0))), (uq274, .inl (eA ε 0, 84, .inl (fun _ => 0))), (uq275, .inl (eA ε 1, 84, .inr (.inl (fun _ => 0)))), (q38, .inr (1, [.ref uq380, .int 0])), (uq380, .inl (eA ε 0, 20, .inl (fun _ => 0)))] _) 1 45 [(0, .ref h0)] [.ref h0]
  refine c_putF (pc := 45) (q0 := 0) (v := .ref q38) (ws' := [(h0, .inr (5, [.ref q5, .ref q16, .ref q27, .ref q38, .null, .null, .null, .int 0, .int 0, .int 0, .long 0])), (q5, .inr (2, [.ref uq50, .int 0, .int (-9), .int 0, .ref uq51, .ref uq52, .int 0])), (uq50, .inl (eA ε 0, 60, .inl (fun _ => 0))), (uq51, .inl (eA ε 0, 6, .inl (fun _ => 0))), (uq52, .inl (eA ε 1, 6, .inr (.inl (fun _ => 0)))), (q16, .inr (3, [.ref uq160, .ref uq161, .ref uq162, .ref uq163])), (uq160, .inl (eA ε 0, 26, .inl (upd (fun _ => 0) 0 15))), (uq161, .inl (eA ε 0, 26, .inl (fun _ => 0))), (uq162, .inl (eA ε 0, 156, .inl (fun _ => 0))), (uq163, .inl (eA ε 1, 156, .inr (.inl (fun _ => 0)))), (q27, .inr (0, [.ref uq270, .ref uq271, .ref uq272, .ref uq273, .ref uq274, .ref uq275, .int 0, .int 0])), (uq270, .inl (eA ε 0, 14, .inl (fun _ => 0))), (uq271, .inl (eA ε 0, 14, .inl (fun _ => 0))), (uq272, .inl (eA ε 0, 14, .inl (fun _ => 0))), (uq273, .inl (eA ε 0, 14, .inl (fun _ => 0))), (uq274, .inl (eA ε 0, 84, .inl (fun _ => 0))), (uq275, .inl (eA ε 1, 84, .inr (.inl (fun _ => 0)))), (q38, .inr (1, [.ref uq380, .int 0])), (uq380, .inl (eA ε 0, 20, .inl (fun _ => 0)))]) C K hin fdX7_33 rfl (by decide) rfl rfl (dcX7 3) ⟨_, _, rfl⟩ rfl dX7_init_45 ?_
  refine g_aload_n (pc := 48) (i := 0) (j := 0) C dX7_init_48 rfl rfl ?_
  refine c_new (pc := 49) C K hA nwX7_37 (Nat.le_of_ble_eq_true rfl) (Nat.le_of_ble_eq_true rfl) dX7_init_49 (fun q49 => ?_)
  replace C := C.up (a := 1) (b := 4) (Nat.le_of_ble_eq_true rfl) (Nat.le_of_ble_eq_true rfl)
  show G _ (Vc _ ε [(h0, .inr (5, [.ref q5, .ref q16, .ref q27, .ref q38, .null, .null, .null, .int 0, .int 0, .int 0, .long 0])), (q5, .inr (2, [.ref uq50, .int 0, .int (-9), .int 0, .ref uq51, .ref uq52, .int 0])), (uq50, .inl (eA ε 0, 60, .inl (fun _ => 0))), (uq51, .inl (eA ε 0, 6, .inl (fun _ => 0))), (uq52, .inl (eA ε 1, 6, .inr (.inl (fun _ => 0)))), (q16, .inr (3, [.ref uq160, .ref uq161, .ref uq162, .ref uq163])), (uq160, .inl (eA ε 0, 26, .inl (upd (fun _ => 0) 0 15))), (uq161, .inl (eA ε 0, 26, .inl (fun _ => 0))), (uq162, .inl (eA ε 0, 156, .inl (fun _ => 0))), (uq163, .inl (eA ε 1, 156, .inr (.inl (fun _ => 0)))), (q27, .inr (0, [.ref uq270, .ref uq271, .ref uq272, .ref uq273, .ref uq274, .ref uq275, .int 0, .int 0])), (uq270, .inl (eA ε 0, 14, .inl (fun _ => 0))), (uq271, .inl (eA ε 0, 14, .inl (fun _ => 0))), (uq272, .inl (eA ε 0, 14, .inl (fun _ => 0))), (uq273, .inl (eA ε 0, 14, .inl (fun _ => 0))), (uq274, .inl (eA ε 0, 84, .inl (fun _ => 0))), (uq275, .inl (eA ε 1, 84, .inr (.inl (fun _ => 0)))), (q38, .inr (1, [.ref uq380, .int 0])), (uq380, .inl (eA ε 0, 20, .inl (fun _ => 0))), (q49, .inr (4, [.null, .null, .null, .int 0]))] _) 1 52 [(0, .ref h0)] [.ref q49, .ref h0]
  refine g_dup (pc := 52) C dX7_init_52 rfl ?_
  refine c_init (pc := 53) (wr := [(h0, .inr (5, [.ref q5, .ref q16, .ref q27, .ref q38, .null, .null, .null, .int 0, .int 0, .int 0, .long 0])), (q5, .inr (2, [.ref uq50, .int 0, .int (-9), .int 0, .ref uq51, .ref uq52, .int 0])), (uq50, .inl (eA ε 0, 60, .inl (fun _ => 0))), (uq51, .inl (eA ε 0, 6, .inl (fun _ => 0))), (uq52, .inl (eA ε 1, 6, .inr (.inl (fun _ => 0)))), (q16, .inr (3, [.ref uq160, .ref uq161, .ref uq162, .ref uq163])), (uq160, .inl (eA ε 0, 26, .inl (upd (fun _ => 0) 0 15))), (uq161, .inl (eA ε 0, 26, .inl (fun _ => 0))), (uq162, .inl (eA ε 0, 156, .inl (fun _ => 0))), (uq163, .inl (eA ε 1, 156, .inr (.inl (fun _ => 0)))), (q27, .inr (0, [.ref uq270, .ref uq271, .ref uq272, .ref uq273, .ref uq274, .ref uq275, .int 0, .int 0])), (uq270, .inl (eA ε 0, 14, .inl (fun _ => 0))), (uq271, .inl (eA ε 0, 14, .inl (fun _ => 0))), (uq272, .inl (eA ε 0, 14, .inl (fun _ => 0))), (uq273, .inl (eA ε 0, 14, .inl (fun _ => 0))), (uq274, .inl (eA ε 0, 84, .inl (fun _ => 0))), (uq275, .inl (eA ε 1, 84, .inr (.inl (fun _ => 0)))), (q38, .inr (1, [.ref uq380, .int 0])), (uq380, .inl (eA ε 0, 20, .inl (fun _ => 0)))]) (en := .inr (4, [.null, .null, .null, .int 0])) C K hA liX7_39 (kX6_init (kl _) ε q49) (by decide) (Nat.le_of_ble_eq_true rfl) (Nat.le_of_ble_eq_true rfl) (Nat.le_of_ble_eq_true rfl) dX7_init_53 (fun uq49 huq49 => ?_)
  obtain ⟨uq490, uq491, uq492, rfl⟩ := lst3 huq49
  replace C := C.up (a := 3) (b := 18) (Nat.le_of_ble_eq_true rfl) (Nat.le_of_ble_eq_true rfl)
  show G _ (Vc _ ε [(h0, .inr (5, [.ref q5, .ref q16, .ref q27, .ref q38, .null, .null, .null, .int 0, .int 0, .int 0, .long 0])), (q5, .inr (2, [.ref uq50, .int 0, .int (-9), .int 0, .ref uq51, .ref uq52, .int 0])), (uq50, .inl (eA ε 0, 60, .inl (fun _ => 0))), (uq51, .inl (eA ε 0, 6, .inl (fun _ => 0))), (uq52, .inl (eA ε 1, 6, .inr (.inl (fun _ => 0)))), (q16, .inr (3, [.ref uq160, .ref uq161, .ref uq162, .ref uq163])), (uq160, .inl (eA ε 0, 26, .inl (upd (fun _ => 0) 0 15))), (uq161, .inl (eA ε 0, 26, .inl (fun _ => 0))), (uq162, .inl (eA ε 0, 156, .inl (fun _ => 0))), (uq163, .inl (eA ε 1, 156, .inr (.inl (fun _ => 0)))), (q27, .inr (0, [.ref uq270, .ref uq271, .ref uq272, .ref uq273, .ref uq274, .ref uq275, .int 0, .int 0])), (uq270, .inl (eA ε 0, 14, .inl (fun _ => 0))), (uq271, .inl (eA ε 0, 14, .inl (fun _ => 0))), (uq272, .inl (eA ε 0, 14, .inl (fun _ => 0))), (uq273, .inl (eA ε 0, 14, .inl (fun _ => 0))), (uq274, .inl (eA ε 0, 84, .inl (fun _ => 0))), (uq275, .inl (eA ε 1, 84, .inr (.inl (fun _ => 0)))), (q38, .inr (1, [.ref uq380, .int 0])), (uq380, .inl (eA ε 0, 20, .inl (fun _ => 0))), (q49, .inr (4, [.ref uq490, .ref uq491, .ref uq492, .int 0])), (uq490, .inl (eA ε 0, 6, .inl (fun _ => 0))), (uq491, .inl (eA ε 0, 6, .inl (fun _ => 0))), (uq492, .inl (eA ε 0, 6, .inl (fun _ => 0)))] _) 1 56 [(0, .ref h0)] [.ref h0]
  refine c_putF (pc := 56) (q0 := 0) (v := .ref q49) (ws' := [(h0, .inr (5, [.ref q5, .ref q16, .ref q27, .ref q38, .ref q49, .null, .null, .int 0, .int 0, .int 0, .long 0])), (q5, .inr (2, [.ref uq50, .int 0, .int (-9), .int 0, .ref uq51, .ref uq52, .int 0])), (uq50, .inl (eA ε 0, 60, .inl (fun _ => 0))), (uq51, .inl (eA ε 0, 6, .inl (fun _ => 0))), (uq52, .inl (eA ε 1, 6, .inr (.inl (fun _ => 0)))), (q16, .inr (3, [.ref uq160, .ref uq161, .ref uq162, .ref uq163])), (uq160, .inl (eA ε 0, 26, .inl (upd (fun _ => 0) 0 15))), (uq161, .inl (eA ε 0, 26, .inl (fun _ => 0))), (uq162, .inl (eA ε 0, 156, .inl (fun _ => 0))), (uq163, .inl (eA ε 1, 156, .inr (.inl (fun _ => 0)))), (q27, .inr (0, [.ref uq270, .ref uq271, .ref uq272, .ref uq273, .ref uq274, .ref uq275, .int 0, .int 0])), (uq270, .inl (eA ε 0, 14, .inl (fun _ => 0))), (uq271, .inl (eA ε 0, 14, .inl (fun _ => 0))), (uq272, .inl (eA ε 0, 14, .inl (fun _ => 0))), (uq273, .inl (eA ε 0, 14, .inl (fun _ => 0))), (uq274, .inl (eA ε 0, 84, .inl (fun _ => 0))), (uq275, .inl (eA ε 1, 84, .inr (.inl (fun _ => 0)))), (q38, .inr (1, [.ref uq380, .int 0])), (uq380, .inl (eA ε 0, 20, .inl (fun _ => 0))), (q49, .inr (4, [.ref uq490, .ref uq491, .ref uq492, .int 0])), (uq490, .inl (eA ε 0, 6, .inl (fun _ => 0))), (uq491, .inl (eA ε 0, 6, .inl (fun _ => 0))), (uq492, .inl (eA ε 0, 6, .inl (fun _ => 0)))]) C K hin fdX7_40 rfl (by decide) rfl rfl (dcX7 4) ⟨_, _, rfl⟩ rfl dX7_init_56 ?_
  refine g_aload_n (pc := 59) (i := 0) (j := 0) C dX7_init_59 rfl rfl ?_
  refine g_bipush (pc := 60) C dX7_init_60 cb_10 ?_
  refine c_newa (pc := 62) (atype := .int) (t := 0) (N := 10) (a0 := (10, .inl (fun _ => 0))) C K hA ac_int rfl (fun _ => rfl) (by decide) rfl (Nat.le_of_ble_eq_true rfl) (Nat.le_of_ble_eq_true rfl) (Nat.le_of_ble_eq_true rfl) dX7_init_62 (fun q62 => ?_)
  replace C := C.up (a := 1) (b := 10) (Nat.le_of_ble_eq_true rfl) (Nat.le_of_ble_eq_true rfl)
  show G _ (Vc _ ε [(h0, .inr (5, [.ref q5, .ref q16, .ref q27, .ref q38, .ref q49, .null, .null, .int 0, .int 0, .int 0, .long 0])), (q5, .inr (2, [.ref uq50, .int 0, .int (-9), .int 0, .ref uq51, .ref uq52, .int 0])), (uq50, .inl (eA ε 0, 60, .inl (fun _ => 0))), (uq51, .inl (eA ε 0, 6, .inl (fun _ => 0))), (uq52, .inl (eA ε 1, 6, .inr (.inl (fun _ => 0)))), (q16, .inr (3, [.ref uq160, .ref uq161, .ref uq162, .ref uq163])), (uq160, .inl (eA ε 0, 26, .inl (upd (fun _ => 0) 0 15))), (uq161, .inl (eA ε 0, 26, .inl (fun _ => 0))), (uq162, .inl (eA ε 0, 156, .inl (fun _ => 0))), (uq163, .inl (eA ε 1, 156, .inr (.inl (fun _ => 0)))), (q27, .inr (0, [.ref uq270, .ref uq271, .ref uq272, .ref uq273, .ref uq274, .ref uq275, .int 0, .int 0])), (uq270, .inl (eA ε 0, 14, .inl (fun _ => 0))), (uq271, .inl (eA ε 0, 14, .inl (fun _ => 0))), (uq272, .inl (eA ε 0, 14, .inl (fun _ => 0))), (uq273, .inl (eA ε 0, 14, .inl (fun _ => 0))), (uq274, .inl (eA ε 0, 84, .inl (fun _ => 0))), (uq275, .inl (eA ε 1, 84, .inr (.inl (fun _ => 0)))), (q38, .inr (1, [.ref uq380, .int 0])), (uq380, .inl (eA ε 0, 20, .inl (fun _ => 0))), (q49, .inr (4, [.ref uq490, .ref uq491, .ref uq492, .int 0])), (uq490, .inl (eA ε 0, 6, .inl (fun _ => 0))), (uq491, .inl (eA ε 0, 6, .inl (fun _ => 0))), (uq492, .inl (eA ε 0, 6, .inl (fun _ => 0))), (q62, .inl (eA ε 0, 10, .inl (fun _ => 0)))] _) 1 64 [(0, .ref h0)] [.ref q62, .ref h0]
  refine c_putF (pc := 64) (q0 := 0) (v := .ref q62) (ws' := [(h0, .inr (5, [.ref q5, .ref q16, .ref q27, .ref q38, .ref q49, .ref q62, .null, .int 0, .int 0, .int 0, .long 0])), (q5, .inr (2, [.ref uq50, .int 0, .int (-9), .int 0, .ref uq51, .ref uq52, .int 0])), (uq50, .inl (eA ε 0, 60, .inl (fun _ => 0))), (uq51, .inl (eA ε 0, 6, .inl (fun _ => 0))), (uq52, .inl (eA ε 1, 6, .inr (.inl (fun _ => 0)))), (q16, .inr (3, [.ref uq160, .ref uq161, .ref uq162, .ref uq163])), (uq160, .inl (eA ε 0, 26, .inl (upd (fun _ => 0) 0 15))), (uq161, .inl (eA ε 0, 26, .inl (fun _ => 0))), (uq162, .inl (eA ε 0, 156, .inl (fun _ => 0))), (uq163, .inl (eA ε 1, 156, .inr (.inl (fun _ => 0)))), (q27, .inr (0, [.ref uq270, .ref uq271, .ref uq272, .ref uq273, .ref uq274, .ref uq275, .int 0, .int 0])), (uq270, .inl (eA ε 0, 14, .inl (fun _ => 0))), (uq271, .inl (eA ε 0, 14, .inl (fun _ => 0))), (uq272, .inl (eA ε 0, 14, .inl (fun _ => 0))), (uq273, .inl (eA ε 0, 14, .inl (fun _ => 0))), (uq274, .inl (eA ε 0, 84, .inl (fun _ => 0))), (uq275, .inl (eA ε 1, 84, .inr (.inl (fun _ => 0)))), (q38, .inr (1, [.ref uq380, .int 0])), (uq380, .inl (eA ε 0, 20, .inl (fun _ => 0))), (q49, .inr (4, [.ref uq490, .ref uq491, .ref uq492, .int 0])), (uq490, .inl (eA ε 0, 6, .inl (fun _ => 0))), (uq491, .inl (eA ε 0, 6, .inl (fun _ => 0))), (uq492, .inl (eA ε 0, 6, .inl (fun _ => 0))), (q62, .inl (eA ε 0, 10, .inl (fun _ => 0)))]) C K hin fdX7_44 rfl (by decide) rfl rfl (dcX7 5) ⟨_, _, rfl⟩ rfl dX7_init_64 ?_
  refine g_aload_n (pc := 67) (i := 0) (j := 0) C dX7_init_67 rfl rfl ?_
  refine g_bipush (pc := 68) C dX7_init_68 cb_6 ?_
  refine c_newa (pc := 70) (atype := .int) (t := 0) (N := 6) (a0 := (6, .inl (fun _ => 0))) C K hA ac_int rfl (fun _ => rfl) (by decide) rfl (Nat.le_of_ble_eq_true rfl) (Nat.le_of_ble_eq_true rfl) (Nat.le_of_ble_eq_true rfl) dX7_init_70 (fun q70 => ?_)
  replace C := C.up (a := 1) (b := 6) (Nat.le_of_ble_eq_true rfl) (Nat.le_of_ble_eq_true rfl)
  show G _ (Vc _ ε [(h0, .inr (5, [.ref q5, .ref q16, .ref q27, .ref q38, .ref q49, .ref q62, .null, .int 0, .int 0, .int 0, .long 0])), (q5, .inr (2, [.ref uq50, .int 0, .int (-9), .int 0, .ref uq51, .ref uq52, .int 0])), (uq50, .inl (eA ε 0, 60, .inl (fun _ => 0))), (uq51, .inl (eA ε 0, 6, .inl (fun _ => 0))), (uq52, .inl (eA ε 1, 6, .inr (.inl (fun _ => 0)))), (q16, .inr (3, [.ref uq160, .ref uq161, .ref uq162, .ref uq163])), (uq160, .inl (eA ε 0, 26, .inl (upd (fun _ => 0) 0 15))), (uq161, .inl (eA ε 0, 26, .inl (fun _ => 0))), (uq162, .inl (eA ε 0, 156, .inl (fun _ => 0))), (uq163, .inl (eA ε 1, 156, .inr (.inl (fun _ => 0)))), (q27, .inr (0, [.ref uq270, .ref uq271, .ref uq272, .ref uq273, .ref uq274, .ref uq275, .int 0, .int 0])), (uq270, .inl (eA ε 0, 14, .inl (fun _ => 0))), (uq271, .inl (eA ε 0, 14, .inl (fun _ => 0))), (uq272, .inl (eA ε 0, 14, .inl (fun _ => 0))), (uq273, .inl (eA ε 0, 14, .inl (fun _ => 0))), (uq274, .inl (eA ε 0, 84, .inl (fun _ => 0))), (uq275, .inl (eA ε 1, 84, .inr (.inl (fun _ => 0)))), (q38, .inr (1, [.ref uq380, .int 0])), (uq380, .inl (eA ε 0, 20, .inl (fun _ => 0))), (q49, .inr (4, [.ref uq490, .ref uq491, .ref uq492, .int 0])), (uq490, .inl (eA ε 0, 6, .inl (fun _ => 0))), (uq491, .inl (eA ε 0, 6, .inl (fun _ => 0))), (uq492, .inl (eA ε 0, 6, .inl (fun _ => 0))), (q62, .inl (eA ε 0, 10, .inl (fun _ => 0))), (q70, .inl (eA ε 0, 6, .inl (fun _ => 0)))] _) 1 72 [(0, .ref h0)] [.ref q70, .ref h0]
  refine c_putF (pc := 72) (q0 := 0) (v := .ref q70) (ws' := [(h0, .inr (5, [.ref q5, .ref q16, .ref q27, .ref q38, .ref q49, .ref q62, .ref q70, .int 0, .int 0, .int 0, .long 0])), (q5, .inr (2, [.ref uq50, .int 0, .int (-9), .int 0, .ref uq51, .ref uq52, .int 0])), (uq50, .inl (eA ε 0, 60, .inl (fun _ => 0))), (uq51, .inl (eA ε 0, 6, .inl (fun _ => 0))), (uq52, .inl (eA ε 1, 6, .inr (.inl (fun _ => 0)))), (q16, .inr (3, [.ref uq160, .ref uq161, .ref uq162, .ref uq163])), (uq160, .inl (eA ε 0, 26, .inl (upd (fun _ => 0) 0 15))), (uq161, .inl (eA ε 0, 26, .inl (fun _ => 0))), (uq162, .inl (eA ε 0, 156, .inl (fun _ => 0))), (uq163, .inl (eA ε 1, 156, .inr (.inl (fun _ => 0)))), (q27, .inr (0, [.ref uq270, .ref uq271, .ref uq272, .ref uq273, .ref uq274, .ref uq275, .int 0, .int 0])), (uq270, .inl (eA ε 0, 14, .inl (fun _ => 0))), (uq271, .inl (eA ε 0, 14, .inl (fun _ => 0))), (uq272, .inl (eA ε 0, 14, .inl (fun _ => 0))), (uq273, .inl (eA ε 0, 14, .inl (fun _ => 0))), (uq274, .inl (eA ε 0, 84, .inl (fun _ => 0))), (uq275, .inl (eA ε 1, 84, .inr (.inl (fun _ => 0)))), (q38, .inr (1, [.ref uq380, .int 0])), (uq380, .inl (eA ε 0, 20, .inl (fun _ => 0))), (q49, .inr (4, [.ref uq490, .ref uq491, .ref uq492, .int 0])), (uq490, .inl (eA ε 0, 6, .inl (fun _ => 0))), (uq491, .inl (eA ε 0, 6, .inl (fun _ => 0))), (uq492, .inl (eA ε 0, 6, .inl (fun _ => 0))), (q62, .inl (eA ε 0, 10, .inl (fun _ => 0))), (q70, .inl (eA ε 0, 6, .inl (fun _ => 0)))]) C K hin fdX7_48 rfl (by decide) rfl rfl (dcX7 6) ⟨_, _, rfl⟩ rfl dX7_init_72 ?_
  refine g_aload_n (pc := 75) (i := 0) (j := 0) C dX7_init_75 rfl rfl ?_
  refine g_iconst (pc := 76) C dX7_init_76 ci_0 ?_
  refine c_put (pc := 77) (q0 := 0) (v := .int 0) (ws' := [(h0, .inr (5, [.ref q5, .ref q16, .ref q27, .ref q38, .ref q49, .ref q62, .ref q70, .int 0, .int 0, .int 0, .long 0])), (q5, .inr (2, [.ref uq50, .int 0, .int (-9), .int 0, .ref uq51, .ref uq52, .int 0])), (uq50, .inl (eA ε 0, 60, .inl (fun _ => 0))), (uq51, .inl (eA ε 0, 6, .inl (fun _ => 0))), (uq52, .inl (eA ε 1, 6, .inr (.inl (fun _ => 0)))), (q16, .inr (3, [.ref uq160, .ref uq161, .ref uq162, .ref uq163])), (uq160, .inl (eA ε 0, 26, .inl (upd (fun _ => 0) 0 15))), (uq161, .inl (eA ε 0, 26, .inl (fun _ => 0))), (uq162, .inl (eA ε 0, 156, .inl (fun _ => 0))), (uq163, .inl (eA ε 1, 156, .inr (.inl (fun _ => 0)))), (q27, .inr (0, [.ref uq270, .ref uq271, .ref uq272, .ref uq273, .ref uq274, .ref uq275, .int 0, .int 0])), (uq270, .inl (eA ε 0, 14, .inl (fun _ => 0))), (uq271, .inl (eA ε 0, 14, .inl (fun _ => 0))), (uq272, .inl (eA ε 0, 14, .inl (fun _ => 0))), (uq273, .inl (eA ε 0, 14, .inl (fun _ => 0))), (uq274, .inl (eA ε 0, 84, .inl (fun _ => 0))), (uq275, .inl (eA ε 1, 84, .inr (.inl (fun _ => 0)))), (q38, .inr (1, [.ref uq380, .int 0])), (uq380, .inl (eA ε 0, 20, .inl (fun _ => 0))), (q49, .inr (4, [.ref uq490, .ref uq491, .ref uq492, .int 0])), (uq490, .inl (eA ε 0, 6, .inl (fun _ => 0))), (uq491, .inl (eA ε 0, 6, .inl (fun _ => 0))), (uq492, .inl (eA ε 0, 6, .inl (fun _ => 0))), (q62, .inl (eA ε 0, 10, .inl (fun _ => 0))), (q70, .inl (eA ε 0, 6, .inl (fun _ => 0)))]) C K fdX7_51 rfl (by decide) rfl rfl rfl dX7_init_77 ?_
  refine g_aload_n (pc := 80) (i := 0) (j := 0) C dX7_init_80 rfl rfl ?_
  refine g_iconst (pc := 81) C dX7_init_81 ci_0 ?_
  refine c_put (pc := 82) (q0 := 0) (v := .int 0) (ws' := [(h0, .inr (5, [.ref q5, .ref q16, .ref q27, .ref q38, .ref q49, .ref q62, .ref q70, .int 0, .int 0, .int 0, .long 0])), (q5, .inr (2, [.ref uq50, .int 0, .int (-9), .int 0, .ref uq51, .ref uq52, .int 0])), (uq50, .inl (eA ε 0, 60, .inl (fun _ => 0))), (uq51, .inl (eA ε 0, 6, .inl (fun _ => 0))), (uq52, .inl (eA ε 1, 6, .inr (.inl (fun _ => 0)))), (q16, .inr (3, [.ref uq160, .ref uq161, .ref uq162, .ref uq163])), (uq160, .inl (eA ε 0, 26, .inl (upd (fun _ => 0) 0 15))), (uq161, .inl (eA ε 0, 26, .inl (fun _ => 0))), (uq162, .inl (eA ε 0, 156, .inl (fun _ => 0))), (uq163, .inl (eA ε 1, 156, .inr (.inl (fun _ => 0)))), (q27, .inr (0, [.ref uq270, .ref uq271, .ref uq272, .ref uq273, .ref uq274, .ref uq275, .int 0, .int 0])), (uq270, .inl (eA ε 0, 14, .inl (fun _ => 0))), (uq271, .inl (eA ε 0, 14, .inl (fun _ => 0))), (uq272, .inl (eA ε 0, 14, .inl (fun _ => 0))), (uq273, .inl (eA ε 0, 14, .inl (fun _ => 0))), (uq274, .inl (eA ε 0, 84, .inl (fun _ => 0))), (uq275, .inl (eA ε 1, 84, .inr (.inl (fun _ => 0)))), (q38, .inr (1, [.ref uq380, .int 0])), (uq380, .inl (eA ε 0, 20, .inl (fun _ => 0))), (q49, .inr (4, [.ref uq490, .ref uq491, .ref uq492, .int 0])), (uq490, .inl (eA ε 0, 6, .inl (fun _ => 0))), (uq491, .inl (eA ε 0, 6, .inl (fun _ => 0))), (uq492, .inl (eA ε 0, 6, .inl (fun _ => 0))), (q62, .inl (eA ε 0, 10, .inl (fun _ => 0))), (q70, .inl (eA ε 0, 6, .inl (fun _ => 0)))]) C K fdX7_55 rfl (by decide) rfl rfl rfl dX7_init_82 ?_
  refine g_aload_n (pc := 85) (i := 0) (j := 0) C dX7_init_85 rfl rfl ?_
  refine g_bipush (pc := 86) C dX7_init_86 cb_m9 ?_
  refine c_put (pc := 88) (q0 := 0) (v := .int (-9)) (ws' := [(h0, .inr (5, [.ref q5, .ref q16, .ref q27, .ref q38, .ref q49, .ref q62, .ref q70, .int 0, .int 0, .int (-9), .long 0])), (q5, .inr (2, [.ref uq50, .int 0, .int (-9), .int 0, .ref uq51, .ref uq52, .int 0])), (uq50, .inl (eA ε 0, 60, .inl (fun _ => 0))), (uq51, .inl (eA ε 0, 6, .inl (fun _ => 0))), (uq52, .inl (eA ε 1, 6, .inr (.inl (fun _ => 0)))), (q16, .inr (3, [.ref uq160, .ref uq161, .ref uq162, .ref uq163])), (uq160, .inl (eA ε 0, 26, .inl (upd (fun _ => 0) 0 15))), (uq161, .inl (eA ε 0, 26, .inl (fun _ => 0))), (uq162, .inl (eA ε 0, 156, .inl (fun _ => 0))), (uq163, .inl (eA ε 1, 156, .inr (.inl (fun _ => 0)))), (q27, .inr (0, [.ref uq270, .ref uq271, .ref uq272, .ref uq273, .ref uq274, .ref uq275, .int 0, .int 0])), (uq270, .inl (eA ε 0, 14, .inl (fun _ => 0))), (uq271, .inl (eA ε 0, 14, .inl (fun _ => 0))), (uq272, .inl (eA ε 0, 14, .inl (fun _ => 0))), (uq273, .inl (eA ε 0, 14, .inl (fun _ => 0))), (uq274, .inl (eA ε 0, 84, .inl (fun _ => 0))), (uq275, .inl (eA ε 1, 84, .inr (.inl (fun _ => 0)))), (q38, .inr (1, [.ref uq380, .int 0])), (uq380, .inl (eA ε 0, 20, .inl (fun _ => 0))), (q49, .inr (4, [.ref uq490, .ref uq491, .ref uq492, .int 0])), (uq490, .inl (eA ε 0, 6, .inl (fun _ => 0))), (uq491, .inl (eA ε 0, 6, .inl (fun _ => 0))), (uq492, .inl (eA ε 0, 6, .inl (fun _ => 0))), (q62, .inl (eA ε 0, 10, .inl (fun _ => 0))), (q70, .inl (eA ε 0, 6, .inl (fun _ => 0)))]) C K fdX7_58 rfl (by decide) rfl rfl rfl dX7_init_88 ?_
  refine g_aload_n (pc := 91) (i := 0) (j := 0) C dX7_init_91 rfl rfl ?_
  refine g_lconst (pc := 92) C dX7_init_92 cl_0 ?_
  refine c_put (pc := 93) (q0 := 0) (v := .long 0) (ws' := [(h0, .inr (5, [.ref q5, .ref q16, .ref q27, .ref q38, .ref q49, .ref q62, .ref q70, .int 0, .int 0, .int (-9), .long 0])), (q5, .inr (2, [.ref uq50, .int 0, .int (-9), .int 0, .ref uq51, .ref uq52, .int 0])), (uq50, .inl (eA ε 0, 60, .inl (fun _ => 0))), (uq51, .inl (eA ε 0, 6, .inl (fun _ => 0))), (uq52, .inl (eA ε 1, 6, .inr (.inl (fun _ => 0)))), (q16, .inr (3, [.ref uq160, .ref uq161, .ref uq162, .ref uq163])), (uq160, .inl (eA ε 0, 26, .inl (upd (fun _ => 0) 0 15))), (uq161, .inl (eA ε 0, 26, .inl (fun _ => 0))), (uq162, .inl (eA ε 0, 156, .inl (fun _ => 0))), (uq163, .inl (eA ε 1, 156, .inr (.inl (fun _ => 0)))), (q27, .inr (0, [.ref uq270, .ref uq271, .ref uq272, .ref uq273, .ref uq274, .ref uq275, .int 0, .int 0])), (uq270, .inl (eA ε 0, 14, .inl (fun _ => 0))), (uq271, .inl (eA ε 0, 14, .inl (fun _ => 0))), (uq272, .inl (eA ε 0, 14, .inl (fun _ => 0))), (uq273, .inl (eA ε 0, 14, .inl (fun _ => 0))), (uq274, .inl (eA ε 0, 84, .inl (fun _ => 0))), (uq275, .inl (eA ε 1, 84, .inr (.inl (fun _ => 0)))), (q38, .inr (1, [.ref uq380, .int 0])), (uq380, .inl (eA ε 0, 20, .inl (fun _ => 0))), (q49, .inr (4, [.ref uq490, .ref uq491, .ref uq492, .int 0])), (uq490, .inl (eA ε 0, 6, .inl (fun _ => 0))), (uq491, .inl (eA ε 0, 6, .inl (fun _ => 0))), (uq492, .inl (eA ε 0, 6, .inl (fun _ => 0))), (q62, .inl (eA ε 0, 10, .inl (fun _ => 0))), (q70, .inl (eA ε 0, 6, .inl (fun _ => 0)))]) C K fdX7_61 rfl (by decide) rfl rfl rfl dX7_init_93 ?_
  exact c_ret (pc := 96) C hQ rfl rfl rfl [q5, uq50, uq51, uq52, q16, uq160, uq161, uq162, uq163, q27, uq270, uq271, uq272, uq273, uq274, uq275, q38, uq380, q49, uq490, uq491, uq492, q62, q70] rfl rfl dX7_init_96
theorem dX8_init_0 : decode cX8_init 0 = .ok (.aload_n 0, 1) := by decide +kernel
theorem dX8_init_1 : decode cX8_init 1 = .ok (.invokespecial 1, 3) := by decide +kernel
theorem dX8_init_4 : decode cX8_init 4 = .ok (.aload_n 0, 1) := by decide +kernel
theorem dX8_init_5 : decode cX8_init 5 = .ok (.bipush 60, 2) := by decide +kernel
theorem dX8_init_7 : decode cX8_init 7 = .ok (.newarray .int, 2) := by decide +kernel
theorem dX8_init_9 : decode cX8_init 9 = .ok (.putfield 7, 3) := by decide +kernel
theorem dX8_init_12 : decode cX8_init 12 = .ok (.aload_n 0, 1) := by decide +kernel
theorem dX8_init_13 : decode cX8_init 13 = .ok (.bipush 10, 2) := by decide +kernel
theorem dX8_init_15 : decode cX8_init 15 = .ok (.newarray .int, 2) := by decide +kernel
theorem dX8_init_17 : decode cX8_init 17 = .ok (.putfield 13, 3) := by decide +kernel
theorem dX8_init_20 : decode cX8_init 20 = .ok (.aload_n 0, 1) := by decide +kernel
theorem dX8_init_21 : decode cX8_init 21 = .ok (.bipush 10, 2) := by decide +kernel
theorem dX8_init_23 : decode cX8_init 23 = .ok (.newarray .int, 2) := by decide +kernel
theorem dX8_init_25 : decode cX8_init 25 = .ok (.putfield 16, 3) := by decide +kernel
theorem dX8_init_28 : decode cX8_init 28 = .ok (.aload_n 0, 1) := by decide +kernel
theorem dX8_init_29 : decode cX8_init 29 = .ok (.bipush 11, 2) := by decide +kernel
theorem dX8_init_31 : decode cX8_init 31 = .ok (.newarray .int, 2) := by decide +kernel
theorem dX8_init_33 : decode cX8_init 33 = .ok (.putfield 19, 3) := by decide +kernel
theorem dX8_init_36 : decode cX8_init 36 = .ok (.aload_n 0, 1) := by decide +kernel
theorem dX8_init_37 : decode cX8_init 37 = .ok (.bipush 11, 2) := by decide +kernel
theorem dX8_init_39 : decode cX8_init 39 = .ok (.newarray .int, 2) := by decide +kernel
theorem dX8_init_41 : decode cX8_init 41 = .ok (.putfield 22, 3) := by decide +kernel
theorem dX8_init_44 : decode cX8_init 44 = .ok (.aload_n 0, 1) := by decide +kernel
theorem dX8_init_45 : decode cX8_init 45 = .ok (.bipush 66, 2) := by decide +kernel
theorem dX8_init_47 : decode cX8_init 47 = .ok (.newarray .int, 2) := by decide +kernel
theorem dX8_init_49 : decode cX8_init 49 = .ok (.putfield 25, 3) := by decide +kernel
theorem dX8_init_52 : decode cX8_init 52 = .ok (.aload_n 0, 1) := by decide +kernel
theorem dX8_init_53 : decode cX8_init 53 = .ok (.bipush 66, 2) := by decide +kernel
theorem dX8_init_55 : decode cX8_init 55 = .ok (.newarray .int, 2) := by decide +kernel
theorem dX8_init_57 : decode cX8_init 57 = .ok (.putfield 28, 3) := by decide +kernel
theorem dX8_init_60 : decode cX8_init 60 = .ok (.aload_n 0, 1) := by decide +kernel
theorem dX8_init_61 : decode cX8_init 61 = .ok (.bipush 66, 2) := by decide +kernel
theorem dX8_init_63 : decode cX8_init 63 = .ok (.newarray .long, 2) := by decide +kernel
theorem dX8_init_65 : decode cX8_init 65 = .ok (.putfield 31, 3) := by decide +kernel
theorem dX8_init_68 : decode cX8_init 68 = .ok (.aload_n 0, 1) := by decide +kernel
theorem dX8_init_69 : decode cX8_init 69 = .ok (.bipush 20, 2) := by decide +kernel
theorem dX8_init_71 : decode cX8_init 71 = .ok (.newarray .int, 2) := by decide +kernel
theorem dX8_init_73 : decode cX8_init 73 = .ok (.putfield 35, 3) := by decide +kernel
theorem dX8_init_76 : decode cX8_init 76 = .ok (.aload_n 0, 1) := by decide +kernel
theorem dX8_init_77 : decode cX8_init 77 = .ok (.bipush 20, 2) := by decide +kernel
theorem dX8_init_79 : decode cX8_init 79 = .ok (.newarray .boolean, 2) := by decide +kernel
theorem dX8_init_81 : decode cX8_init 81 = .ok (.putfield 38, 3) := by decide +kernel
theorem dX8_init_84 : decode cX8_init 84 = .ok (.aload_n 0, 1) := by decide +kernel
theorem dX8_init_85 : decode cX8_init 85 = .ok (.bipush 6, 2) := by decide +kernel
theorem dX8_init_87 : decode cX8_init 87 = .ok (.newarray .int, 2) := by decide +kernel
theorem dX8_init_89 : decode cX8_init 89 = .ok (.putfield 42, 3) := by decide +kernel
theorem dX8_init_92 : decode cX8_init 92 = .ok (.aload_n 0, 1) := by decide +kernel
theorem dX8_init_93 : decode cX8_init 93 = .ok (.sipush 140, 3) := by decide +kernel
theorem dX8_init_96 : decode cX8_init 96 = .ok (.newarray .int, 2) := by decide +kernel
theorem dX8_init_98 : decode cX8_init 98 = .ok (.putfield 45, 3) := by decide +kernel
theorem dX8_init_101 : decode cX8_init 101 = .ok (.aload_n 0, 1) := by decide +kernel
theorem dX8_init_102 : decode cX8_init 102 = .ok (.sipush 140, 3) := by decide +kernel
theorem dX8_init_105 : decode cX8_init 105 = .ok (.newarray .int, 2) := by decide +kernel
theorem dX8_init_107 : decode cX8_init 107 = .ok (.putfield 48, 3) := by decide +kernel
theorem dX8_init_110 : decode cX8_init 110 = .ok (.aload_n 0, 1) := by decide +kernel
theorem dX8_init_111 : decode cX8_init 111 = .ok (.sipush 154, 3) := by decide +kernel
theorem dX8_init_114 : decode cX8_init 114 = .ok (.newarray .int, 2) := by decide +kernel
theorem dX8_init_116 : decode cX8_init 116 = .ok (.putfield 51, 3) := by decide +kernel
theorem dX8_init_119 : decode cX8_init 119 = .ok (.aload_n 0, 1) := by decide +kernel
theorem dX8_init_120 : decode cX8_init 120 = .ok (.sipush 154, 3) := by decide +kernel
theorem dX8_init_123 : decode cX8_init 123 = .ok (.newarray .int, 2) := by decide +kernel
theorem dX8_init_125 : decode cX8_init 125 = .ok (.putfield 54, 3) := by decide +kernel
theorem dX8_init_128 : decode cX8_init 128 = .ok (.aload_n 0, 1) := by decide +kernel
theorem dX8_init_129 : decode cX8_init 129 = .ok (.sipush 924, 3) := by decide +kernel
theorem dX8_init_132 : decode cX8_init 132 = .ok (.newarray .int, 2) := by decide +kernel
theorem dX8_init_134 : decode cX8_init 134 = .ok (.putfield 57, 3) := by decide +kernel
theorem dX8_init_137 : decode cX8_init 137 = .ok (.aload_n 0, 1) := by decide +kernel
theorem dX8_init_138 : decode cX8_init 138 = .ok (.sipush 924, 3) := by decide +kernel
theorem dX8_init_141 : decode cX8_init 141 = .ok (.newarray .int, 2) := by decide +kernel
theorem dX8_init_143 : decode cX8_init 143 = .ok (.putfield 60, 3) := by decide +kernel
theorem dX8_init_146 : decode cX8_init 146 = .ok (.aload_n 0, 1) := by decide +kernel
theorem dX8_init_147 : decode cX8_init 147 = .ok (.sipush 924, 3) := by decide +kernel
theorem dX8_init_150 : decode cX8_init 150 = .ok (.newarray .long, 2) := by decide +kernel
theorem dX8_init_152 : decode cX8_init 152 = .ok (.putfield 63, 3) := by decide +kernel
theorem dX8_init_155 : decode cX8_init 155 = .ok (.aload_n 0, 1) := by decide +kernel
theorem dX8_init_156 : decode cX8_init 156 = .ok (.sipush 280, 3) := by decide +kernel
theorem dX8_init_159 : decode cX8_init 159 = .ok (.newarray .int, 2) := by decide +kernel
theorem dX8_init_161 : decode cX8_init 161 = .ok (.putfield 66, 3) := by decide +kernel
theorem dX8_init_164 : decode cX8_init 164 = .ok (.aload_n 0, 1) := by decide +kernel
theorem dX8_init_165 : decode cX8_init 165 = .ok (.bipush 14, 2) := by decide +kernel
theorem dX8_init_167 : decode cX8_init 167 = .ok (.newarray .int, 2) := by decide +kernel
theorem dX8_init_169 : decode cX8_init 169 = .ok (.putfield 69, 3) := by decide +kernel
theorem dX8_init_172 : decode cX8_init 172 = .ok (.aload_n 0, 1) := by decide +kernel
theorem dX8_init_173 : decode cX8_init 173 = .ok (.bipush 6, 2) := by decide +kernel
theorem dX8_init_175 : decode cX8_init 175 = .ok (.newarray .int, 2) := by decide +kernel
theorem dX8_init_177 : decode cX8_init 177 = .ok (.putfield 72, 3) := by decide +kernel
theorem dX8_init_180 : decode cX8_init 180 = .ok (.aload_n 0, 1) := by decide +kernel
theorem dX8_init_181 : decode cX8_init 181 = .ok (.bipush 6, 2) := by decide +kernel
theorem dX8_init_183 : decode cX8_init 183 = .ok (.newarray .int, 2) := by decide +kernel
theorem dX8_init_185 : decode cX8_init 185 = .ok (.putfield 75, 3) := by decide +kernel
theorem dX8_init_188 : decode cX8_init 188 = .ok (.aload_n 0, 1) := by decide +kernel
theorem dX8_init_189 : decode cX8_init 189 = .ok (.bipush 6, 2) := by decide +kernel
theorem dX8_init_191 : decode cX8_init 191 = .ok (.newarray .int, 2) := by decide +kernel
theorem dX8_init_193 : decode cX8_init 193 = .ok (.putfield 78, 3) := by decide +kernel
theorem dX8_init_196 : decode cX8_init 196 = .ok (.aload_n 0, 1) := by decide +kernel
theorem dX8_init_197 : decode cX8_init 197 = .ok (.bipush 6, 2) := by decide +kernel
theorem dX8_init_199 : decode cX8_init 199 = .ok (.newarray .int, 2) := by decide +kernel
theorem dX8_init_201 : decode cX8_init 201 = .ok (.putfield 81, 3) := by decide +kernel
theorem dX8_init_204 : decode cX8_init 204 = .ok (.aload_n 0, 1) := by decide +kernel
theorem dX8_init_205 : decode cX8_init 205 = .ok (.bipush 6, 2) := by decide +kernel
theorem dX8_init_207 : decode cX8_init 207 = .ok (.newarray .int, 2) := by decide +kernel
theorem dX8_init_209 : decode cX8_init 209 = .ok (.putfield 84, 3) := by decide +kernel
theorem dX8_init_212 : decode cX8_init 212 = .ok (.aload_n 0, 1) := by decide +kernel
theorem dX8_init_213 : decode cX8_init 213 = .ok (.bipush 6, 2) := by decide +kernel
theorem dX8_init_215 : decode cX8_init 215 = .ok (.newarray .long, 2) := by decide +kernel
theorem dX8_init_217 : decode cX8_init 217 = .ok (.putfield 87, 3) := by decide +kernel
theorem dX8_init_220 : decode cX8_init 220 = .ok (.aload_n 0, 1) := by decide +kernel
theorem dX8_init_221 : decode cX8_init 221 = .ok (.bipush 64, 2) := by decide +kernel
theorem dX8_init_223 : decode cX8_init 223 = .ok (.newarray .long, 2) := by decide +kernel
theorem dX8_init_225 : decode cX8_init 225 = .ok (.putfield 90, 3) := by decide +kernel
theorem dX8_init_228 : decode cX8_init 228 = .ok (.aload_n 0, 1) := by decide +kernel
theorem dX8_init_229 : decode cX8_init 229 = .ok (.bipush 8, 2) := by decide +kernel
theorem dX8_init_231 : decode cX8_init 231 = .ok (.newarray .int, 2) := by decide +kernel
theorem dX8_init_233 : decode cX8_init 233 = .ok (.putfield 93, 3) := by decide +kernel
theorem dX8_init_236 : decode cX8_init 236 = .ok (.iconst 0, 1) := by decide +kernel
theorem dX8_init_237 : decode cX8_init 237 = .ok (.istore_n 1, 1) := by decide +kernel
theorem dX8_init_238 : decode cX8_init 238 = .ok (.iload_n 1, 1) := by decide +kernel
theorem dX8_init_239 : decode cX8_init 239 = .ok (.bipush 10, 2) := by decide +kernel
theorem dX8_init_241 : decode cX8_init 241 = .ok (.if_icmp .ge 25, 3) := by decide +kernel
theorem dX8_init_244 : decode cX8_init 244 = .ok (.aload_n 0, 1) := by decide +kernel
theorem dX8_init_245 : decode cX8_init 245 = .ok (.getfield 13, 3) := by decide +kernel
theorem dX8_init_248 : decode cX8_init 248 = .ok (.iload_n 1, 1) := by decide +kernel
theorem dX8_init_249 : decode cX8_init 249 = .ok (.bipush 15, 2) := by decide +kernel
theorem dX8_init_251 : decode cX8_init 251 = .ok (.iastore, 1) := by decide +kernel
theorem dX8_init_252 : decode cX8_init 252 = .ok (.aload_n 0, 1) := by decide +kernel
theorem dX8_init_253 : decode cX8_init 253 = .ok (.getfield 16, 3) := by decide +kernel
theorem dX8_init_256 : decode cX8_init 256 = .ok (.iload_n 1, 1) := by decide +kernel
theorem dX8_init_257 : decode cX8_init 257 = .ok (.bipush (-9), 2) := by decide +kernel
theorem dX8_init_259 : decode cX8_init 259 = .ok (.iastore, 1) := by decide +kernel
theorem dX8_init_260 : decode cX8_init 260 = .ok (.iinc 1 1, 3) := by decide +kernel
theorem dX8_init_263 : decode cX8_init 263 = .ok (.goto (-25), 3) := by decide +kernel
theorem dX8_init_266 : decode cX8_init 266 = .ok (.return_, 1) := by decide +kernel
def wuX8g (ε : Ev) (h0 : Nat) (ft fr : Nat → Int32) (u : List Nat) : va_W := [(h0, .inr (6, [.ref u.getD 0 0, .int 0, .ref u.getD 1 0, .ref u.getD 2 0, .ref u.getD 3 0, .ref u.getD 4 0, .ref u.getD 5 0, .ref u.getD 6 0, .ref u.getD 7 0, .ref u.getD 8 0, .ref u.getD 9 0, .int 0, .int 0, .int 0, .long 0, .ref u.getD 10 0, .int 0, .ref u.getD 11 0, .ref u.getD 12 0, .ref u.getD 13 0, .ref u.getD 14 0, .ref u.getD 15 0, .ref u.getD 16 0, .ref u.getD 17 0, .ref u.getD 18 0, .ref u.getD 19 0, .int 0, .int 0, .ref u.getD 20 0, .ref u.getD 21 0, .ref u.getD 22 0, .int 0, .int 0, .int 0, .ref u.getD 23 0, .ref u.getD 24 0, .ref u.getD 25 0, .int 0, .int 0, .long 0, .ref u.getD 26 0, .ref u.getD 27 0, .long 0, .int 0, .int 0, .long 0, .int 0])), (u.getD 0 0, .inl (eA ε 0, 60, .inl (fun _ => 0))), (u.getD 1 0, .inl (eA ε 0, 10, .inl ft)), (u.getD 2 0, .inl (eA ε 0, 10, .inl fr)), (u.getD 3 0, .inl (eA ε 0, 11, .inl (fun _ => 0))), (u.getD 4 0, .inl (eA ε 0, 11, .inl (fun _ => 0))), (u.getD 5 0, .inl (eA ε 0, 66, .inl (fun _ => 0))), (u.getD 6 0, .inl (eA ε 0, 66, .inl (fun _ => 0))), (u.getD 7 0, .inl (eA ε 1, 66, .inr (.inl (fun _ => 0)))), (u.getD 8 0, .inl (eA ε 0, 20, .inl (fun _ => 0))), (u.getD 9 0, .inl (eA ε 2, 20, .inl (fun _ => 0))), (u.getD 10 0, .inl (eA ε 0, 6, .inl (fun _ => 0))), (u.getD 11 0, .inl (eA ε 0, 140, .inl (fun _ => 0))), (u.getD 12 0, .inl (eA ε 0, 140, .inl (fun _ => 0))), (u.getD 13 0, .inl (eA ε 0, 154, .inl (fun _ => 0))), (u.getD 14 0, .inl (eA ε 0, 154, .inl (fun _ => 0))), (u.getD 15 0, .inl (eA ε 0, 924, .inl (fun _ => 0))), (u.getD 16 0, .inl (eA ε 0, 924, .inl (fun _ => 0))), (u.getD 17 0, .inl (eA ε 1, 924, .inr (.inl (fun _ => 0)))), (u.getD 18 0, .inl (eA ε 0, 280, .inl (fun _ => 0))), (u.getD 19 0, .inl (eA ε 0, 14, .inl (fun _ => 0))), (u.getD 20 0, .inl (eA ε 0, 6, .inl (fun _ => 0))), (u.getD 21 0, .inl (eA ε 0, 6, .inl (fun _ => 0))), (u.getD 22 0, .inl (eA ε 0, 6, .inl (fun _ => 0))), (u.getD 23 0, .inl (eA ε 0, 6, .inl (fun _ => 0))), (u.getD 24 0, .inl (eA ε 0, 6, .inl (fun _ => 0))), (u.getD 25 0, .inl (eA ε 1, 6, .inr (.inl (fun _ => 0)))), (u.getD 26 0, .inl (eA ε 1, 64, .inr (.inl (fun _ => 0)))), (u.getD 27 0, .inl (eA ε 0, 8, .inl (fun _ => 0)))]
def wuX8 (ε : Ev) (h0 : Nat) (u : List Nat) : va_W := wuX8g ε h0 (fun j => if j < 10 then 15 else 0) (fun j => if j < 10 then -9 else 0) u
theorem dcX8 (k : Nat) (T : u_T) (N : Nat) (h : vwCl[6]? = some (RX8, T, N)) : (T k).1 = RX8 := by
  cases h
  unfold TX8
  split <;> rfl
set_option maxRecDepth 100000 in
set_option maxHeartbeats 4000000 in
theorem kX8_init (l : Launch) (ε : Ev) (h0 : Nat) : Sc l ε yX8_init cX8_init 2 1 28 4108 h0 [(h0, .inr (6, [.null, .int 0, .null, .null, .null, .null, .null, .null, .null, .null, .null, .int 0, .int 0, .int 0, .long 0, .null, .int 0, .null, .null, .null, .null, .null, .null, .null, .null, .null, .int 0, .int 0, .null, .null, .null, .int 0, .int 0, .int 0, .null, .null, .null, .int 0, .int 0, .long 0, .null, .null, .long 0, .int 0, .int 0, .long 0, .int 0]))] (wuX8 ε h0) 28 := by
  refine Sc.of (by decide +kernel) (by decide) rfl ?_
  rintro ⟨p, l1, e, RR, s, m, args, below, meth, c, Q, n0, o0⟩ hl0 hn0 ho0 hR0 hin C K hlt hQ
  dsimp only [kl, kn, ko, kR] at hl0 hn0 ho0 hR0
  subst hl0; subst hn0; subst ho0; subst hR0
  have hA : ∀ κ : Kx, kS κ = s → Ag κ (Ac h0 s.heap.size) := fun κ h q hq => Or.inr (by rw [← h]; exact hq)
  replace hA := hA (p, l1, e, rmc 1 28 4108, s, m, args, below, meth, c, Q, 0, 0) rfl
  replace C : Cf _ cX8_init 2 RX8 none 1 := C
  refine g_aload_n (pc := 0) (i := 0) (j := 0) C dX8_init_0 rfl rfl ?_
  refine c_obj (pc := 1) C (by decide) obX8_1 ob_i ob_c (Nat.le_of_ble_eq_true rfl) dX8_init_1 ?_
  refine g_aload_n (pc := 4) (i := 0) (j := 0) C dX8_init_4 rfl rfl ?_
  refine g_bipush (pc := 5) C dX8_init_5 cb_60 ?_
  refine c_newa (pc := 7) (atype := .int) (t := 0) (N := 60) (a0 := (60, .inl (fun _ => 0))) C K hA ac_int rfl (fun _ => rfl) (by decide) rfl (Nat.le_of_ble_eq_true rfl) (Nat.le_of_ble_eq_true rfl) (Nat.le_of_ble_eq_true rfl) dX8_init_7 (fun q7 => ?_)
  replace C := C.up (a := 1) (b := 60) (Nat.le_of_ble_eq_true rfl) (Nat.le_of_ble_eq_true rfl)
  show G _ (Vc _ ε [(h0, .inr (6, [.null, .int 0, .null, .null, .null, .null, .null, .null, .null, .null, .null, .int 0, .int 0, .int 0, .long 0, .null, .int 0, .null, .null, .null, .null, .null, .null, .null, .null, .null, .int 0, .int 0, .null, .null, .null, .int 0, .int 0, .int 0, .null, .null, .null, .int 0, .int 0, .long 0, .null, .null, .long 0, .int 0, .int 0, .long 0, .int 0])), (q7, .inl (eA ε 0, 60, .inl (fun _ => 0)))] _) 2 9 [(0, .ref h0)] [.ref q7, .ref h0]
  refine c_putF (pc := 9) (q0 := 0) (v := .ref q7) (ws' := [(h0, .inr (6, [.ref q7, .int 0, .null, .null, .null, .null, .null, .null, .null, .null, .null, .int 0, .int 0, .int 0, .long 0, .null, .int 0, .null, .null, .null, .null, .null, .null, .null, .null, .null, .int 0, .int 0, .null, .null, .null, .int 0, .int 0, .int 0, .null, .null, .null, .int 0, .int 0, .long 0, .null, .null, .long 0, .int 0, .int 0, .long 0, .int 0])), (q7, .inl (eA ε 0, 60, .inl (fun _ => 0)))]) C K hin fdX8_7 rfl (by decide) rfl rfl (dcX8 0) ⟨_, _, rfl⟩ rfl dX8_init_9 ?_
  refine g_aload_n (pc := 12) (i := 0) (j := 0) C dX8_init_12 rfl rfl ?_
  refine g_bipush (pc := 13) C dX8_init_13 cb_10 ?_
  refine c_newa (pc := 15) (atype := .int) (t := 0) (N := 10) (a0 := (10, .inl (fun _ => 0))) C K hA ac_int rfl (fun _ => rfl) (by decide) rfl (Nat.le_of_ble_eq_true rfl) (Nat.le_of_ble_eq_true rfl) (Nat.le_of_ble_eq_true rfl) dX8_init_15 (fun q15 => ?_)
  replace C := C.up (a := 1) (b := 10) (Nat.le_of_ble_eq_true rfl) (Nat.le_of_ble_eq_true rfl)
  show G _ (Vc _ ε [(h0, .inr (6, [.ref q7, .int 0, .null, .null, .null, .null, .null, .null, .null, .null, .null, .int 0, .int 0, .int 0, .long 0, .null, .int 0, .null, .null, .null, .null, .null, .null, .null, .null, .null, .int 0, .int 0, .null, .null, .null, .int 0, .int 0, .int 0, .null, .null, .null, .int 0, .int 0, .long 0, .null, .null, .long 0, .int 0, .int 0, .long 0, .int 0])), (q7, .inl (eA ε 0, 60, .inl (fun _ => 0))), (q15, .inl (eA ε 0, 10, .inl (fun _ => 0)))] _) 2 17 [(0, .ref h0)] [.ref q15, .ref h0]
  refine c_putF (pc := 17) (q0 := 0) (v := .ref q15) (ws' := [(h0, .inr (6, [.ref q7, .int 0, .ref q15, .null, .null, .null, .null, .null, .null, .null, .null, .int 0, .int 0, .int 0, .long 0, .null, .int 0, .null, .null, .null, .null, .null, .null, .null, .null, .null, .int 0, .int 0, .null, .null, .null, .int 0, .int 0, .int 0, .null, .null, .null, .int 0, .int 0, .long 0, .null, .null, .long 0, .int 0, .int 0, .long 0, .int 0])), (q7, .inl (eA ε 0, 60, .inl (fun _ => 0))), (q15, .inl (eA ε 0, 10, .inl (fun _ => 0)))]) C K hin fdX8_13 rfl (by decide) rfl rfl (dcX8 2) ⟨_, _, rfl⟩ rfl dX8_init_17 ?_
  refine g_aload_n (pc := 20) (i := 0) (j := 0) C dX8_init_20 rfl rfl ?_
  refine g_bipush (pc := 21) C dX8_init_21 cb_10 ?_
  refine c_newa (pc := 23) (atype := .int) (t := 0) (N := 10) (a0 := (10, .inl (fun _ => 0))) C K hA ac_int rfl (fun _ => rfl) (by decide) rfl (Nat.le_of_ble_eq_true rfl) (Nat.le_of_ble_eq_true rfl) (Nat.le_of_ble_eq_true rfl) dX8_init_23 (fun q23 => ?_)
  replace C := C.up (a := 1) (b := 10) (Nat.le_of_ble_eq_true rfl) (Nat.le_of_ble_eq_true rfl)
  show G _ (Vc _ ε [(h0, .inr (6, [.ref q7, .int 0, .ref q15, .null, .null, .null, .null, .null, .null, .null, .null, .int 0, .int 0, .int 0, .long 0, .null, .int 0, .null, .null, .null, .null, .null, .null, .null, .null, .null, .int 0, .int 0, .null, .null, .null, .int 0, .int 0, .int 0, .null, .null, .null, .int 0, .int 0, .long 0, .null, .null, .long 0, .int 0, .int 0, .long 0, .int 0])), (q7, .inl (eA ε 0, 60, .inl (fun _ => 0))), (q15, .inl (eA ε 0, 10, .inl (fun _ => 0))), (q23, .inl (eA ε 0, 10, .inl (fun _ => 0)))] _) 2 25 [(0, .ref h0)] [.ref q23, .ref h0]
  refine c_putF (pc := 25) (q0 := 0) (v := .ref q23) (ws' := [(h0, .inr (6, [.ref q7, .int 0, .ref q15, .ref q23, .null, .null, .null, .null, .null, .null, .null, .int 0, .int 0, .int 0, .long 0, .null, .int 0, .null, .null, .null, .null, .null, .null, .null, .null, .null, .int 0, .int 0, .null, .null, .null, .int 0, .int 0, .int 0, .null, .null, .null, .int 0, .int 0, .long 0, .null, .null, .long 0, .int 0, .int 0, .long 0, .int 0])), (q7, .inl (eA ε 0, 60, .inl (fun _ => 0))), (q15, .inl (eA ε 0, 10, .inl (fun _ => 0))), (q23, .inl (eA ε 0, 10, .inl (fun _ => 0)))]) C K hin fdX8_16 rfl (by decide) rfl rfl (dcX8 3) ⟨_, _, rfl⟩ rfl dX8_init_25 ?_
  refine g_aload_n (pc := 28) (i := 0) (j := 0) C dX8_init_28 rfl rfl ?_
  refine g_bipush (pc := 29) C dX8_init_29 cb_11 ?_
  refine c_newa (pc := 31) (atype := .int) (t := 0) (N := 11) (a0 := (11, .inl (fun _ => 0))) C K hA ac_int rfl (fun _ => rfl) (by decide) rfl (Nat.le_of_ble_eq_true rfl) (Nat.le_of_ble_eq_true rfl) (Nat.le_of_ble_eq_true rfl) dX8_init_31 (fun q31 => ?_)
  replace C := C.up (a := 1) (b := 11) (Nat.le_of_ble_eq_true rfl) (Nat.le_of_ble_eq_true rfl)
  show G _ (Vc _ ε [(h0, .inr (6, [.ref q7, .int 0, .ref q15, .ref q23, .null, .null, .null, .null, .null, .null, .null, .int 0, .int 0, .int 0, .long 0, .null, .int 0, .null, .null, .null, .null, .null, .null, .null, .null, .null, .int 0, .int 0, .null, .null, .null, .int 0, .int 0, .int 0, .null, .null, .null, .int 0, .int 0, .long 0, .null, .null, .long 0, .int 0, .int 0, .long 0, .int 0])), (q7, .inl (eA ε 0, 60, .inl (fun _ => 0))), (q15, .inl (eA ε 0, 10, .inl (fun _ => 0))), (q23, .inl (eA ε 0, 10, .inl (fun _ => 0))), (q31, .inl (eA ε 0, 11, .inl (fun _ => 0)))] _) 2 33 [(0, .ref h0)] [.ref q31, .ref h0]
  refine c_putF (pc := 33) (q0 := 0) (v := .ref q31) (ws' := [(h0, .inr (6, [.ref q7, .int 0, .ref q15, .ref q23, .ref q31, .null, .null, .null, .null, .null, .null, .int 0, .int 0, .int 0, .long 0, .null, .int 0, .null, .null, .null, .null, .null, .null, .null, .null, .null, .int 0, .int 0, .null, .null, .null, .int 0, .int 0, .int 0, .null, .null, .null, .int 0, .int 0, .long 0, .null, .null, .long 0, .int 0, .int 0, .long 0, .int 0])), (q7, .inl (eA ε 0, 60, .inl (fun _ => 0))), (q15, .inl (eA ε 0, 10, .inl (fun _ => 0))), (q23, .inl (eA ε 0, 10, .inl (fun _ => 0))), (q31, .inl (eA ε 0, 11, .inl (fun _ => 0)))]) C K hin fdX8_19 rfl (by decide) rfl rfl (dcX8 4) ⟨_, _, rfl⟩ rfl dX8_init_33 ?_
  refine g_aload_n (pc := 36) (i := 0) (j := 0) C dX8_init_36 rfl rfl ?_
  refine g_bipush (pc := 37) C dX8_init_37 cb_11 ?_
  refine c_newa (pc := 39) (atype := .int) (t := 0) (N := 11) (a0 := (11, .inl (fun _ => 0))) C K hA ac_int rfl (fun _ => rfl) (by decide) rfl (Nat.le_of_ble_eq_true rfl) (Nat.le_of_ble_eq_true rfl) (Nat.le_of_ble_eq_true rfl) dX8_init_39 (fun q39 => ?_)
  replace C := C.up (a := 1) (b := 11) (Nat.le_of_ble_eq_true rfl) (Nat.le_of_ble_eq_true rfl)
  show G _ (Vc _ ε [(h0, .inr (6, [.ref q7, .int 0, .ref q15, .ref q23, .ref q31, .null, .null, .null, .null, .null, .null, .int 0, .int 0, .int 0, .long 0, .null, .int 0, .null, .null, .null, .null, .null, .null, .null, .null, .null, .int 0, .int 0, .null, .null, .null, .int 0, .int 0, .int 0, .null, .null, .null, .int 0, .int 0, .long 0, .null, .null, .long 0, .int 0, .int 0, .long 0, .int 0])), (q7, .inl (eA ε 0, 60, .inl (fun _ => 0))), (q15, .inl (eA ε 0, 10, .inl (fun _ => 0))), (q23, .inl (eA ε 0, 10, .inl (fun _ => 0))), (q31, .inl (eA ε 0, 11, .inl (fun _ => 0))), (q39, .inl (eA ε 0, 11, .inl (fun _ => 0)))] _) 2 41 [(0, .ref h0)] [.ref q39, .ref h0]
  refine c_putF (pc := 41) (q0 := 0) (v := .ref q39) (ws' := [(h0, .inr (6, [.ref q7, .int 0, .ref q15, .ref q23, .ref q31, .ref q39, .null, .null, .null, .null, .null, .int 0, .int 0, .int 0, .long 0, .null, .int 0, .null, .null, .null, .null, .null, .null, .null, .null, .null, .int 0, .int 0, .null, .null, .null, .int 0, .int 0, .int 0, .null, .null, .null, .int 0, .int 0, .long 0, .null, .null, .long 0, .int 0, .int 0, .long 0, .int 0])), (q7, .inl (eA ε 0, 60, .inl (fun _ => 0))), (q15, .inl (eA ε 0, 10, .inl (fun _ => 0))), (q23, .inl (eA ε 0, 10, .inl (fun _ => 0))), (q31, .inl (eA ε 0, 11, .inl (fun _ => 0))), (q39, .inl (eA ε 0, 11, .inl (fun _ => 0)))]) C K hin fdX8_22 rfl (by decide) rfl rfl (dcX8 5) ⟨_, _, rfl⟩ rfl dX8_init_41 ?_
  refine g_aload_n (pc := 44) (i := 0) (j := 0) C dX8_init_44 rfl rfl ?_
  refine g_bipush (pc := 45) C dX8_init_45 cb_66 ?_
  refine c_newa (pc := 47) (atype := .int) (t := 0) (N := 66) (a0 := (66, .inl (fun _ => 0))) C K hA ac_int rfl (fun _ => rfl) (by decide) rfl (Nat.le_of_ble_eq_true rfl) (Nat.le_of_ble_eq_true rfl) (Nat.le_of_ble_eq_true rfl) dX8_init_47 (fun q47 => ?_)
  replace C := C.up (a := 1) (b := 66) (Nat.le_of_ble_eq_true rfl) (Nat.le_of_ble_eq_true rfl)
  show G _ (Vc _ ε [(h0, .inr (6, [.ref q7, .int 0, .ref q15, .ref q23, .ref q31, .ref q39, .null, .null, .null, .null, .null, .int 0, .int 0, .int 0, .long 0, .null, .int 0, .null, .null, .null, .null, .null, .null, .null, .null, .null, .int 0, .int 0, .null, .null, .null, .int 0, .int 0, .int 0, .null, .null, .null, .int 0, .int 0, .long 0, .null, .null, .long 0, .int 0, .int 0, .long 0, .int 0])), (q7, .inl (eA ε 0, 60, .inl (fun _ => 0))), (q15, .inl (eA ε 0, 10, .inl (fun _ => 0))), (q23, .inl (eA ε 0, 10, .inl (fun _ => 0))), (q31, .inl (eA ε 0, 11, .inl (fun _ => 0))), (q39, .inl (eA ε 0, 11, .inl (fun _ => 0))), (q47, .inl (eA ε 0, 66, .inl (fun _ => 0)))] _) 2 49 [(0, .ref h0)] [.ref q47, .ref h0]
  refine c_putF (pc := 49) (q0 := 0) (v := .ref q47) (ws' := [(h0, .inr (6, [.ref q7, .int 0, .ref q15, .ref q23, .ref q31, .ref q39, .ref q47, .null, .null, .null, .null, .int 0, .int 0, .int 0, .long 0, .null, .int 0, .null, .null, .null, .null, .null, .null, .null, .null, .null, .int 0, .int 0, .null, .null, .null, .int 0, .int 0, .int 0, .null, .null, .null, .int 0, .int 0, .long 0, .null, .null, .long 0, .int 0, .int 0, .long 0, .int 0])), (q7, .inl (eA ε 0, 60, .inl (fun _ => 0))), (q15, .inl (eA ε 0, 10, .inl (fun _ => 0))), (q23, .inl (eA ε 0, 10, .inl (fun _ => 0))), (q31, .inl (eA ε 0, 11, .inl (fun _ => 0))), (q39, .inl (eA ε 0, 11, .inl (fun _ => 0))), (q47, .inl (eA ε 0, 66, .inl (fun _ => 0)))]) C K hin fdX8_25 rfl (by decide) rfl rfl (dcX8 6) ⟨_, _, rfl⟩ rfl dX8_init_49 ?_
  refine g_aload_n (pc := 52) (i := 0) (j := 0) C dX8_init_52 rfl rfl ?_
  refine g_bipush (pc := 53) C dX8_init_53 cb_66 ?_
  refine c_newa (pc := 55) (atype := .int) (t := 0) (N := 66) (a0 := (66, .inl (fun _ => 0))) C K hA ac_int rfl (fun _ => rfl) (by decide) rfl (Nat.le_of_ble_eq_true rfl) (Nat.le_of_ble_eq_true rfl) (Nat.le_of_ble_eq_true rfl) dX8_init_55 (fun q55 => ?_)
  replace C := C.up (a := 1) (b := 66) (Nat.le_of_ble_eq_true rfl) (Nat.le_of_ble_eq_true rfl)
  show G _ (Vc _ ε [(h0, .inr (6, [.ref q7, .int 0, .ref q15, .ref q23, .ref q31, .ref q39, .ref q47, .null, .null, .null, .null, .int 0, .int 0, .int 0, .long 0, .null, .int 0, .null, .null, .null, .null, .null, .null, .null, .null, .null, .int 0, .int 0, .null, .null, .null, .int 0, .int 0, .int 0, .null, .null, .null, .int 0, .int 0, .long 0, .null, .null, .long 0, .int 0, .int 0, .long 0, .int 0])), (q7, .inl (eA ε 0, 60, .inl (fun _ => 0))), (q15, .inl (eA ε 0, 10, .inl (fun _ => 0))), (q23, .inl (eA ε 0, 10, .inl (fun _ => 0))), (q31, .inl (eA ε 0, 11, .inl (fun _ => 0))), (q39, .inl (eA ε 0, 11, .inl (fun _ => 0))), (q47, .inl (eA ε 0, 66, .inl (fun _ => 0))), (q55, .inl (eA ε 0, 66, .inl (fun _ => 0)))] _) 2 57 [(0, .ref h0)] [.ref q55, .ref h0]
  refine c_putF (pc := 57) (q0 := 0) (v := .ref q55) (ws' := [(h0, .inr (6, [.ref q7, .int 0, .ref q15, .ref q23, .ref q31, .ref q39, .ref q47, .ref q55, .null, .null, .null, .int 0, .int 0, .int 0, .long 0, .null, .int 0, .null, .null, .null, .null, .null, .null, .null, .null, .null, .int 0, .int 0, .null, .null, .null, .int 0, .int 0, .int 0, .null, .null, .null, .int 0, .int 0, .long 0, .null, .null, .long 0, .int 0, .int 0, .long 0, .int 0])), (q7, .inl (eA ε 0, 60, .inl (fun _ => 0))), (q15, .inl (eA ε 0, 10, .inl (fun _ => 0))), (q23, .inl (eA ε 0, 10, .inl (fun _ => 0))), (q31, .inl (eA ε 0, 11, .inl (fun _ => 0))), (q39, .inl (eA ε 0, 11, .inl (fun _ => 0))), (q47, .inl (eA ε 0, 66, .inl (fun _ => 0))), (q55, .inl (eA ε 0, 66, .inl (fun _ => 0)))]) C K hin fdX8_28 rfl (by decide) rfl rfl (dcX8 7) ⟨_, _, rfl⟩ rfl dX8_init_57 ?_
  refine g_aload_n (pc := 60) (i := 0) (j := 0) C dX8_init_60 rfl rfl ?_
  refine g_bipush (pc := 61) C dX8_init_61 cb_66 ?_
  refine c_newa (pc := 63) (atype := .long) (t := 1) (N := 66) (a0 := (66, .inr (.inl (fun _ => 0)))) C K hA ac_long rfl (fun _ => rfl) (by decide) rfl (Nat.le_of_ble_eq_true rfl) (Nat.le_of_ble_eq_true rfl) (Nat.le_of_ble_eq_true rfl) dX8_init_63 (fun q63 => ?_)
  replace C := C.up (a := 1) (b := 66) (Nat.le_of_ble_eq_true rfl) (Nat.le_of_ble_eq_true rfl)
  show G _ (Vc _ ε [(h0, .inr (6, [.ref q7, .int 0, .ref q15, .ref q23, .ref q31, .ref q39, .ref q47, .ref q55, .null, .null, .null, .int 0, .int 0, .int 0, .long 0, .null, .int 0, .null, .null, .null, .null, .null, .null, .null, .null, .null, .int 0, .int 0, .null, .null, .null, .int 0, .int 0, .int 0, .null, .null, .null, .int 0, .int 0, .long 0, .null, .null, .long 0, .int 0, .int 0, .long 0, .int 0])), (q7, .inl (eA ε 0, 60, .inl (fun _ => 0))), (q15, .inl (eA ε 0, 10, .inl (fun _ => 0))), (q23, .inl (eA ε 0, 10, .inl (fun _ => 0))), (q31, .inl (eA ε 0, 11, .inl (fun _ => 0))), (q39, .inl (eA ε 0, 11, .inl (fun _ => 0))), (q47, .inl (eA ε 0, 66, .inl (fun _ => 0))), (q55, .inl (eA ε 0, 66, .inl (fun _ => 0))), (q63, .inl (eA ε 1, 66, .inr (.inl (fun _ => 0))))] _) 2 65 [(0, .ref h0)] [.ref q63, .ref h0]
  refine c_putF (pc := 65) (q0 := 0) (v := .ref q63) (ws' := [(h0, .inr (6, [.ref q7, .int 0, .ref q15, .ref q23, .ref q31, .ref q39, .ref q47, .ref q55, .ref q63, .null, .null, .int 0, .int 0, .int 0, .long 0, .null, .int 0, .null, .null, .null, .null, .null, .null, .null, .null, .null, .int 0, .int 0, .null, .null, .null, .int 0, .int 0, .int 0, .null, .null, .null, .int 0, .int 0, .long 0, .null, .null, .long 0, .int 0, .int 0, .long 0, .int 0])), (q7, .inl (eA ε 0, 60, .inl (fun _ => 0))), (q15, .inl (eA ε 0, 10, .inl (fun _ => 0))), (q23, .inl (eA ε 0, 10, .inl (fun _ => 0))), (q31, .inl (eA ε 0, 11, .inl (fun _ => 0))), (q39, .inl (eA ε 0, 11, .inl (fun _ => 0))), (q47, .inl (eA ε 0, 66, .inl (fun _ => 0))), (q55, .inl (eA ε 0, 66, .inl (fun _ => 0))), (q63, .inl (eA ε 1, 66, .inr (.inl (fun _ => 0))))]) C K hin fdX8_31 rfl (by decide) rfl rfl (dcX8 8) ⟨_, _, rfl⟩ rfl dX8_init_65 ?_
  refine g_aload_n (pc := 68) (i := 0) (j := 0) C dX8_init_68 rfl rfl ?_
  refine g_bipush (pc := 69) C dX8_init_69 cb_20 ?_
  refine c_newa (pc := 71) (atype := .int) (t := 0) (N := 20) (a0 := (20, .inl (fun _ => 0))) C K hA ac_int rfl (fun _ => rfl) (by decide) rfl (Nat.le_of_ble_eq_true rfl) (Nat.le_of_ble_eq_true rfl) (Nat.le_of_ble_eq_true rfl) dX8_init_71 (fun q71 => ?_)
  replace C := C.up (a := 1) (b := 20) (Nat.le_of_ble_eq_true rfl) (Nat.le_of_ble_eq_true rfl)
  show G _ (Vc _ ε [(h0, .inr (6, [.ref q7, .int 0, .ref q15, .ref q23, .ref q31, .ref q39, .ref q47, .ref q55, .ref q63, .null, .null, .int 0, .int 0, .int 0, .long 0, .null, .int 0, .null, .null, .null, .null, .null, .null, .null, .null, .null, .int 0, .int 0, .null, .null, .null, .int 0, .int 0, .int 0, .null, .null, .null, .int 0, .int 0, .long 0, .null, .null, .long 0, .int 0, .int 0, .long 0, .int 0])), (q7, .inl (eA ε 0, 60, .inl (fun _ => 0))), (q15, .inl (eA ε 0, 10, .inl (fun _ => 0))), (q23, .inl (eA ε 0, 10, .inl (fun _ => 0))), (q31, .inl (eA ε 0, 11, .inl (fun _ => 0))), (q39, .inl (eA ε 0, 11, .inl (fun _ => 0))), (q47, .inl (eA ε 0, 66, .inl (fun _ => 0))), (q55, .inl (eA ε 0, 66, .inl (fun _ => 0))), (q63, .inl (eA ε 1, 66, .inr (.inl (fun _ => 0)))), (q71, .inl (eA ε 0, 20, .inl (fun _ => 0)))] _) 2 73 [(0, .ref h0)] [.ref q71, .ref h0]
  refine c_putF (pc := 73) (q0 := 0) (v := .ref q71) (ws' := [(h0, .inr (6, [.ref q7, .int 0, .ref q15, .ref q23, .ref q31, .ref q39, .ref q47, .ref q55, .ref q63, .ref q71, .null, .int 0, .int 0, .int 0, .long 0, .null, .int 0, .null, .null, .null, .null, .null, .null, .null, .null, .null, .int 0, .int 0, .null, .null, .null, .int 0, .int 0, .int 0, .null, .null, .null, .int 0, .int 0, .long 0, .null, .null, .long 0, .int 0, .int 0, .long 0, .int 0])), (q7, .inl (eA ε 0, 60, .inl (fun _ => 0))), (q15, .inl (eA ε 0, 10, .inl (fun _ => 0))), (q23, .inl (eA ε 0, 10, .inl (fun _ => 0))), (q31, .inl (eA ε 0, 11, .inl (fun _ => 0))), (q39, .inl (eA ε 0, 11, .inl (fun _ => 0))), (q47, .inl (eA ε 0, 66, .inl (fun _ => 0))), (q55, .inl (eA ε 0, 66, .inl (fun _ => 0))), (q63, .inl (eA ε 1, 66, .inr (.inl (fun _ => 0)))), (q71, .inl (eA ε 0, 20, .inl (fun _ => 0)))]) C K hin fdX8_35 rfl (by decide) rfl rfl (dcX8 9) ⟨_, _, rfl⟩ rfl dX8_init_73 ?_
  refine g_aload_n (pc := 76) (i := 0) (j := 0) C dX8_init_76 rfl rfl ?_
  refine g_bipush (pc := 77) C dX8_init_77 cb_20 ?_
  refine c_newa (pc := 79) (atype := .boolean) (t := 2) (N := 20) (a0 := (20, .inl (fun _ => 0))) C K hA ac_boolean rfl (fun _ => rfl) (by decide) rfl (Nat.le_of_ble_eq_true rfl) (Nat.le_of_ble_eq_true rfl) (Nat.le_of_ble_eq_true rfl) dX8_init_79 (fun q79 => ?_)
  replace C := C.up (a := 1) (b := 20) (Nat.le_of_ble_eq_true rfl) (Nat.le_of_ble_eq_true rfl)
  show G _ (Vc _ ε [(h0, .inr (6, [.ref q7, .int 0, .ref q15, .ref q23, .ref q31, .ref q39, .ref q47, .ref q55, .ref q63, .ref q71, .null, .int 0, .int 0, .int 0, .long 0, .null, .int 0, .null, .null, .null, .null, .null, .null, .null, .null, .null, .int 0, .int 0, .null, .null, .null, .int 0, .int 0, .int 0, .null, .null, .null, .int 0, .int 0, .long 0, .null, .null, .long 0, .int 0, .int 0, .long 0, .int 0])), (q7, .inl (eA ε 0, 60, .inl (fun _ => 0))), (q15, .inl (eA ε 0, 10, .inl (fun _ => 0))), (q23, .inl (eA ε 0, 10, .inl (fun _ => 0))), (q31, .inl (eA ε 0, 11, .inl (fun _ => 0))), (q39, .inl (eA ε 0, 11, .inl (fun _ => 0))), (q47, .inl (eA ε 0, 66, .inl (fun _ => 0))), (q55, .inl (eA ε 0, 66, .inl (fun _ => 0))), (q63, .inl (eA ε 1, 66, .inr (.inl (fun _ => 0)))), (q71, .inl (eA ε 0, 20, .inl (fun _ => 0))), (q79, .inl (eA ε 2, 20, .inl (fun _ => 0)))] _) 2 81 [(0, .ref h0)] [.ref q79, .ref h0]
  refine c_putF (pc := 81) (q0 := 0) (v := .ref q79) (ws' := [(h0, .inr (6, [.ref q7, .int 0, .ref q15, .ref q23, .ref q31, .ref q39, .ref q47, .ref q55, .ref q63, .ref q71, .ref q79, .int 0, .int 0, .int 0, .long 0, .null, .int 0, .null, .null, .null, .null, .null, .null, .null, .null, .null, .int 0, .int 0, .null, .null, .null, .int 0, .int 0, .int 0, .null, .null, .null, .int 0, .int 0, .long 0, .null, .null, .long 0, .int 0, .int 0, .long 0, .int 0])), (q7, .inl (eA ε 0, 60, .inl (fun _ => 0))), (q15, .inl (eA ε 0, 10, .inl (fun _ => 0))), (q23, .inl (eA ε 0, 10, .inl (fun _ => 0))), (q31, .inl (eA ε 0, 11, .inl (fun _ => 0))), (q39, .inl (eA ε 0, 11, .inl (fun _ => 0))), (q47, .inl (eA ε 0, 66, .inl (fun _ => 0))), (q55, .inl (eA ε 0, 66, .inl (fun _ => 0))), (q63, .inl (eA ε 1, 66, .inr (.inl (fun _ => 0)))), (q71, .inl (eA ε 0, 20, .inl (fun _ => 0))), (q79, .inl (eA ε 2, 20, .inl (fun _ => 0)))]) C K hin fdX8_38 rfl (by decide) rfl rfl (dcX8 10) ⟨_, _, rfl⟩ rfl dX8_init_81 ?_
  refine g_aload_n (pc := 84) (i := 0) (j := 0) C dX8_init_84 rfl rfl ?_
  refine g_bipush (pc := 85) C dX8_init_85 cb_6 ?_
  refine c_newa (pc := 87) (atype := .int) (t := 0) (N := 6) (a0 := (6, .inl (fun _ => 0))) C K hA ac_int rfl (fun _ => rfl) (by decide) rfl (Nat.le_of_ble_eq_true rfl) (Nat.le_of_ble_eq_true rfl) (Nat.le_of_ble_eq_true rfl) dX8_init_87 (fun q87 => ?_)
  replace C := C.up (a := 1) (b := 6) (Nat.le_of_ble_eq_true rfl) (Nat.le_of_ble_eq_true rfl)
  show G _ (Vc _ ε [(h0, .inr (6, [.ref q7, .int 0, .ref q15, .ref q23, .ref q31, .ref q39, .ref q47, .ref q55, .ref q63, .ref q71, .ref q79, .int 0, .int 0, .int 0, .long 0, .null, .int 0, .null, .null, .null, .null, .null, .null, .null, .null, .null, .int 0, .int 0, .null, .null, .null, .int 0, .int 0, .int 0, .null, .null, .null, .int 0, .int 0, .long 0, .null, .null, .long 0, .int 0, .int 0, .long 0, .int 0])), (q7, .inl (eA ε 0, 60, .inl (fun _ => 0))), (q15, .inl (eA ε 0, 10, .inl (fun _ => 0))), (q23, .inl (eA ε 0, 10, .inl (fun _ => 0))), (q31, .inl (eA ε 0, 11, .inl (fun _ => 0))), (q39, .inl (eA ε 0, 11, .inl (fun _ => 0))), (q47, .inl (eA ε 0, 66, .inl (fun _ => 0))), (q55, .inl (eA ε 0, 66, .inl (fun _ => 0))), (q63, .inl (eA ε 1, 66, .inr (.inl (fun _ => 0)))), (q71, .inl (eA ε 0, 20, .inl (fun _ => 0))), (q79, .inl (eA ε 2, 20, .inl (fun _ => 0))), (q87, .inl (eA ε 0, 6, .inl (fun _ => 0)))] _) 2 89 [(0, .ref h0)] [.ref q87, .ref h0]
  refine c_putF (pc := 89) (q0 := 0) (v := .ref q87) (ws' := [(h0, .inr (6, [.ref q7, .int 0, .ref q15, .ref q23, .ref q31, .ref q39, .ref q47, .ref q55, .ref q63, .ref q71, .ref q79, .int 0, .int 0, .int 0, .long 0, .ref q87, .int 0, .null, .null, .null, .null, .null, .null, .null, .null, .null, .int 0, .int 0, .null, .null, .null, .int 0, .int 0, .int 0, .null, .null, .null, .int 0, .int 0, .long 0, .null, .null, .long 0, .int 0, .int 0, .long 0, .int 0])), (q7, .inl (eA ε 0, 60, .inl (fun _ => 0))), (q15, .inl (eA ε 0, 10, .inl (fun _ => 0))), (q23, .inl (eA ε 0, 10, .inl (fun _ => 0))), (q31, .inl (eA ε 0, 11, .inl (fun _ => 0))), (q39, .inl (eA ε 0, 11, .inl (fun _ => 0))), (q47, .inl (eA ε 0, 66, .inl (fun _ => 0))), (q55, .inl (eA ε 0, 66, .inl (fun _ => 0))), (q63, .inl (eA ε 1, 66, .inr (.inl (fun _ => 0)))), (q71, .inl (eA ε 0, 20, .inl (fun _ => 0))), (q79, .inl (eA ε 2, 20, .inl (fun _ => 0))), (q87, .inl (eA ε 0, 6, .inl (fun _ => 0)))]) C K hin fdX8_42 rfl (by decide) rfl rfl (dcX8 15) ⟨_, _, rfl⟩ rfl dX8_init_89 ?_
  refine g_aload_n (pc := 92) (i := 0) (j := 0) C dX8_init_92 rfl rfl ?_
  refine g_sipush (pc := 93) C dX8_init_93 cs_140 ?_
  refine c_newa (pc := 96) (atype := .int) (t := 0) (N := 140) (a0 := (140, .inl (fun _ => 0))) C K hA ac_int rfl (fun _ => rfl) (by decide) rfl (Nat.le_of_ble_eq_true rfl) (Nat.le_of_ble_eq_true rfl) (Nat.le_of_ble_eq_true rfl) dX8_init_96 (fun q96 => ?_)
  replace C := C.up (a := 1) (b := 140) (Nat.le_of_ble_eq_true rfl) (Nat.le_of_ble_eq_true rfl)
  show G _ (Vc _ ε [(h0, .inr (6, [.ref q7, .int 0, .ref q15, .ref q23, .ref q31, .ref q39, .ref q47, .ref q55, .ref q63, .ref q71, .ref q79, .int 0, .int 0, .int 0, .long 0, .ref q87, .int 0, .null, .null, .null, .null, .null, .null, .null, .null, .null, .int 0, .int 0, .null, .null, .null, .int 0, .int 0, .int 0, .null, .null, .null, .int 0, .int 0, .long 0, .null, .null, .long 0, .int 0, .int 0, .long 0, .int 0])), (q7, .inl (eA ε 0, 60, .inl (fun _ => 0))), (q15, .inl (eA ε 0, 10, .inl (fun _ => 0))), (q23, .inl (eA ε 0, 10, .inl (fun _ => 0))), (q31, .inl (eA ε 0, 11, .inl (fun _ => 0))), (q39, .inl (eA ε 0, 11, .inl (fun _ => 0))), (q47, .inl (eA ε 0, 66, .inl (fun _ => 0))), (q55, .inl (eA ε 0, 66, .inl (fun _ => 0))), (q63, .inl (eA ε 1, 66, .inr (.inl (fun _ => 0)))), (q71, .inl (eA ε 0, 20, .inl (fun _ => 0))), (q79, .inl (eA ε 2, 20, .inl (fun _ => 0))), (q87, .inl (eA ε 0, 6, .inl (fun _ => 0))), (q96, .inl (eA ε 0, 140, .inl (fun _ => 0)))] _) 2 98 [(0, .ref h0)] [.ref q96, .ref h0]
  refine c_putF (pc := 98) (q0 := 0) (v := .ref q96) (ws' := [(h0, .inr (6, [.ref q7, .int 0, .ref q15, .ref q23, .ref q31, .ref q39, .ref q47, .ref q55, .ref q63, .ref q71, .ref q79, .int 0, .int 0, .int 0, .long 0, .ref q87, .int 0, .ref q96, .null, .null, .null, .null, .null, .null, .null, .null, .int 0, .int 0, .null, .null, .null, .int 0, .int 0, .int 0, .null, .null, .null, .int 0, .int 0, .long 0, .null, .null, .long 0, .int 0, .int 0, .long 0, .int 0])), (q7, .inl (eA ε 0, 60, .inl (fun _ => 0))), (q15, .inl (eA ε 0, 10, .inl (fun _ => 0))), (q23, .inl (eA ε 0, 10, .inl (fun _ => 0))), (q31, .inl (eA ε 0, 11, .inl (fun _ => 0))), (q39, .inl (eA ε 0, 11, .inl (fun _ => 0))), (q47, .inl (eA ε 0, 66, .inl (fun _ => 0))), (q55, .inl (eA ε 0, 66, .inl (fun _ => 0))), (q63, .inl (eA ε 1, 66, .inr (.inl (fun _ => 0)))), (q71, .inl (eA ε 0, 20, .inl (fun _ => 0))), (q79, .inl (eA ε 2, 20, .inl (fun _ => 0))), (q87, .inl (eA ε 0, 6, .inl (fun _ => 0))), (q96, .inl (eA ε 0, 140, .inl (fun _ => 0)))]) C K hin fdX8_45 rfl (by decide) rfl rfl (dcX8 17) ⟨_, _, rfl⟩ rfl dX8_init_98 ?_
  refine g_aload_n (pc := 101) (i := 0) (j := 0) C dX8_init_101 rfl rfl ?_
  refine g_sipush (pc := 102) C dX8_init_102 cs_140 ?_
  refine c_newa (pc := 105) (atype := .int) (t := 0) (N := 140) (a0 := (140, .inl (fun _ => 0))) C K hA ac_int rfl (fun _ => rfl) (by decide) rfl (Nat.le_of_ble_eq_true rfl) (Nat.le_of_ble_eq_true rfl) (Nat.le_of_ble_eq_true rfl) dX8_init_105 (fun q105 => ?_)
  replace C := C.up (a := 1) (b := 140) (Nat.le_of_ble_eq_true rfl) (Nat.le_of_ble_eq_true rfl)
  show G _ (Vc _ ε [(h0, .inr (6, [.ref q7, .int 0, .ref q15, .ref q23, .ref q31, .ref q39, .ref q47, .ref q55, .ref q63, .ref q71, .ref q79, .int 0, .int 0, .int 0, .long 0, .ref q87, .int 0, .ref q96, .null, .null, .null, .null, .null, .null, .null, .null, .int 0, .int 0, .null, .null, .null, .int 0, .int 0, .int 0, .null, .null, .null, .int 0, .int 0, .long 0, .null, .null, .long 0, .int 0, .int 0, .long 0, .int 0])), (q7, .inl (eA ε 0, 60, .inl (fun _ => 0))), (q15, .inl (eA ε 0, 10, .inl (fun _ => 0))), (q23, .inl (eA ε 0, 10, .inl (fun _ => 0))), (q31, .inl (eA ε 0, 11, .inl (fun _ => 0))), (q39, .inl (eA ε 0, 11, .inl (fun _ => 0))), (q47, .inl (eA ε 0, 66, .inl (fun _ => 0))), (q55, .inl (eA ε 0, 66, .inl (fun _ => 0))), (q63, .inl (eA ε 1, 66, .inr (.inl (fun _ => 0)))), (q71, .inl (eA ε 0, 20, .inl (fun _ => 0))), (q79, .inl (eA ε 2, 20, .inl (fun _ => 0))), (q87, .inl (eA ε 0, 6, .inl (fun _ => 0))), (q96, .inl (eA ε 0, 140, .inl (fun _ => 0))), (q105, .inl (eA ε 0, 140, .inl (fun _ => 0)))] _) 2 107 [(0, .ref h0)] [.ref q105, .ref h0]
  refine c_putF (pc := 107) (q0 := 0) (v := .ref q105) (ws' := [(h0, .inr (6, [.ref q7, .int 0, .ref q15, .ref q23, .ref q31, .ref q39, .ref q47, .ref q55, .ref q63, .ref q71, .ref q79, .int 0, .int 0, .int 0, .long 0, .ref q87, .int 0, .ref q96, .ref q105, .null, .null, .null, .null, .null, .null, .null, .int 0, .int 0, .null, .null, .null, .int 0, .int 0, .int 0, .null, .null, .null, .int 0, .int 0, .long 0, .null, .null, .long 0, .int 0, .int 0, .long 0, .int 0])), (q7, .inl (eA ε 0, 60, .inl (fun _ => 0))), (q15, .inl (eA ε 0, 10, .inl (fun _ => 0))), (q23, .inl (eA ε 0, 10, .inl (fun _ => 0))), (q31, .inl (eA ε 0, 11, .inl (fun _ => 0))), (q39, .inl (eA ε 0, 11, .inl (fun _ => 0))), (q47, .inl (eA ε 0, 66, .inl (fun _ => 0))), (q55, .inl (eA ε 0, 66, .inl (fun _ => 0))), (q63, .inl (eA ε 1, 66, .inr (.inl (fun _ => 0)))), (q71, .inl (eA ε 0, 20, .inl (fun _ => 0))), (q79, .inl (eA ε 2, 20, .inl (fun _ => 0))), (q87, .inl (eA ε 0, 6, .inl (fun _ => 0))), (q96, .inl (eA ε 0, 140, .inl (fun _ => 0))), (q105, .inl (eA ε 0, 140, .inl (fun _ => 0)))]) C K hin fdX8_48 rfl (by decide) rfl rfl (dcX8 18) ⟨_, _, rfl⟩ rfl dX8_init_107 ?_
  refine g_aload_n (pc := 110) (i := 0) (j := 0) C dX8_init_110 rfl rfl ?_
  refine g_sipush (pc := 111) C dX8_init_111 cs_154 ?_
  refine c_newa (pc := 114) (atype := .int) (t := 0) (N := 154) (a0 := (154, .inl (fun _ => 0))) C K hA ac_int rfl (fun _ => rfl) (by decide) rfl (Nat.le_of_ble_eq_true rfl) (Nat.le_of_ble_eq_true rfl) (Nat.le_of_ble_eq_true rfl) dX8_init_114 (fun q114 => ?_)
  replace C := C.up (a := 1) (b := 154) (Nat.le_of_ble_eq_true rfl) (Nat.le_of_ble_eq_true rfl)
  show G _ (Vc _ ε [(h0, .inr (6, [.ref q7, .int 0, .ref q15, .ref q23, .ref q31, .ref q39, .ref q47, .ref q55, .ref q63, .ref q71, .ref q79, .int 0, .int 0, .int 0, .long 0, .ref q87, .int 0, .ref q96, .ref q105, .null, .null, .null, .null, .null, .null, .null, .int 0, .int 0, .null, .null, .null, .int 0, .int 0, .int 0, .null, .null, .null, .int 0, .int 0, .long 0, .null, .null, .long 0, .int 0, .int 0, .long 0, .int 0])), (q7, .inl (eA ε 0, 60, .inl (fun _ => 0))), (q15, .inl (eA ε 0, 10, .inl (fun _ => 0))), (q23, .inl (eA ε 0, 10, .inl (fun _ => 0))), (q31, .inl (eA ε 0, 11, .inl (fun _ => 0))), (q39, .inl (eA ε 0, 11, .inl (fun _ => 0))), (q47, .inl (eA ε 0, 66, .inl (fun _ => 0))), (q55, .inl (eA ε 0, 66, .inl (fun _ => 0))), (q63, .inl (eA ε 1, 66, .inr (.inl (fun _ => 0)))), (q71, .inl (eA ε 0, 20, .inl (fun _ => 0))), (q79, .inl (eA ε 2, 20, .inl (fun _ => 0))), (q87, .inl (eA ε 0, 6, .inl (fun _ => 0))), (q96, .inl (eA ε 0, 140, .inl (fun _ => 0))), (q105, .inl (eA ε 0, 140, .inl (fun _ => 0))), (q114, .inl (eA ε 0, 154, .inl (fun _ => 0)))] _) 2 116 [(0, .ref h0)] [.ref q114, .ref h0]
  refine c_putF (pc := 116) (q0 := 0) (v := .ref q114) (ws' := [(h0, .inr (6, [.ref q7, .int 0, .ref q15, .ref q23, .ref q31, .ref q39, .ref q47, .ref q55, .ref q63, .ref q71, .ref q79, .int 0, .int 0, .int 0, .long 0, .ref q87, .int 0, .ref q96, .ref q105, .ref q114, .null, .null, .null, .null, .null, .null, .int 0, .int 0, .null, .null, .null, .int 0, .int 0, .int 0, .null, .null, .null, .int 0, .int 0, .long 0, .null, .null, .long 0, .int 0, .int 0, .long 0, .int 0])), (q7, .inl (eA ε 0, 60, .inl (fun _ => 0))), (q15, .inl (eA ε 0, 10, .inl (fun _ => 0))), (q23, .inl (eA ε 0, 10, .inl (fun _ => 0))), (q31, .inl (eA ε 0, 11, .inl (fun _ => 0))), (q39, .inl (eA ε 0, 11, .inl (fun _ => 0))), (q47, .inl (eA ε 0, 66, .inl (fun _ => 0))), (q55, .inl (eA ε 0, 66, .inl (fun _ => 0))), (q63, .inl (eA ε 1, 66, .inr (.inl (fun _ => 0)))), (q71, .inl (eA ε 0, 20, .inl (fun _ => 0))), (q79, .inl (eA ε 2, 20, .inl (fun _ => 0))), (q87, .inl (eA ε 0, 6, .inl (fun _ => 0))), (q96, .inl (eA ε 0, 140, .inl (fun _ => 0))), (q105, .inl (eA ε 0, 140, .inl (fun _ => 0))), (q114, .inl (eA ε 0, 154, .inl (fun _ => 0)))]) C K hin fdX8_51 rfl (by decide) rfl rfl (dcX8 19) ⟨_, _, rfl⟩ rfl dX8_init_116 ?_
  refine g_aload_n (pc := 119) (i := 0) (j := 0) C dX8_init_119 rfl rfl ?_
  refine g_sipush (pc := 120) C dX8_init_120 cs_154 ?_
  refine c_newa (pc := 123) (atype := .int) (t := 0) (N := 154) (a0 := (154, .inl (fun _ => 0))) C K hA ac_int rfl (fun _ => rfl) (by decide) rfl (Nat.le_of_ble_eq_true rfl) (Nat.le_of_ble_eq_true rfl) (Nat.le_of_ble_eq_true rfl) dX8_init_123 (fun q123 => ?_)
  replace C := C.up (a := 1) (b := 154) (Nat.le_of_ble_eq_true rfl) (Nat.le_of_ble_eq_true rfl)
  show G _ (Vc _ ε [(h0, .inr (6, [.ref q7, .int 0, .ref q15, .ref q23, .ref q31, .ref q39, .ref q47, .ref q55, .ref q63, .ref q71, .ref q79, .int 0, .int 0, .int 0, .long 0, .ref q87, .int 0, .ref q96, .ref q105, .ref q114, .null, .null, .null, .null, .null, .null, .int 0, .int 0, .null, .null, .null, .int 0, .int 0, .int 0, .null, .null, .null, .int 0, .int 0, .long 0, .null, .null, .long 0, .int 0, .int 0, .long 0, .int 0])), (q7, .inl (eA ε 0, 60, .inl (fun _ => 0))), (q15, .inl (eA ε 0, 10, .inl (fun _ => 0))), (q23, .inl (eA ε 0, 10, .inl (fun _ => 0))), (q31, .inl (eA ε 0, 11, .inl (fun _ => 0))), (q39, .inl (eA ε 0, 11, .inl (fun _ => 0))), (q47, .inl (eA ε 0, 66, .inl (fun _ => 0))), (q55, .inl (eA ε 0, 66, .inl (fun _ => 0))), (q63, .inl (eA ε 1, 66, .inr (.inl (fun _ => 0)))), (q71, .inl (eA ε 0, 20, .inl (fun _ => 0))), (q79, .inl (eA ε 2, 20, .inl (fun _ => 0))), (q87, .inl (eA ε 0, 6, .inl (fun _ => 0))), (q96, .inl (eA ε 0, 140, .inl (fun _ => 0))), (q105, .inl (eA ε 0, 140, .inl (fun _ => 0))), (q114, .inl (eA ε 0, 154, .inl (fun _ => 0))), (q123, .inl (eA ε 0, 154, .inl (fun _ => 0)))] _) 2 125 [(0, .ref h0)] [.ref q123, .ref h0]
  refine c_putF (pc := 125) (q0 := 0) (v := .ref q123) (ws' := [(h0, .inr (6, [.ref q7, .int 0, .ref q15, .ref q23, .ref q31, .ref q39, .ref q47, .ref q55, .ref q63, .ref q71, .ref q79, .int 0, .int 0, .int 0, .long 0, .ref q87, .int 0, .ref q96, .ref q105, .ref q114, .ref q123, .null, .null, .null, .null, .null, .int 0, .int 0, .null, .null, .null, .int 0, .int 0, .int 0, .null, .null, .null, .int 0, .int 0, .long 0, .null, .null, .long 0, .int 0, .int 0, .long 0, .int 0])), (q7, .inl (eA ε 0, 60, .inl (fun _ => 0))), (q15, .inl (eA ε 0, 10, .inl (fun _ => 0))), (q23, .inl (eA ε 0, 10, .inl (fun _ => 0))), (q31, .inl (eA ε 0, 11, .inl (fun _ => 0))), (q39, .inl (eA ε 0, 11, .inl (fun _ => 0))), (q47, .inl (eA ε 0, 66, .inl (fun _ => 0))), (q55, .inl (eA ε 0, 66, .inl (fun _ => 0))), (q63, .inl (eA ε 1, 66, .inr (.inl (fun _ => 0)))), (q71, .inl (eA ε 0, 20, .inl (fun _ => 0))), (q79, .inl (eA ε 2, 20, .inl (fun _ => 0))), (q87, .inl (eA ε 0, 6, .inl (fun _ => 0))), (q96, .inl (eA ε 0, 140, .inl (fun _ => 0))), (q105, .inl (eA ε 0, 140, .inl (fun _ => 0))), (q114, .inl (eA ε 0, 154, .inl (fun _ => 0))), (q123, .inl (eA ε 0, 154, .inl (fun _ => 0)))]) C K hin fdX8_54 rfl (by decide) rfl rfl (dcX8 20) ⟨_, _, rfl⟩ rfl dX8_init_125 ?_
  refine g_aload_n (pc := 128) (i := 0) (j := 0) C dX8_init_128 rfl rfl ?_
  refine g_sipush (pc := 129) C dX8_init_129 cs_924 ?_
  refine c_newa (pc := 132) (atype := .int) (t := 0) (N := 924) (a0 := (924, .inl (fun _ => 0))) C K hA ac_int rfl (fun _ => rfl) (by decide) rfl (Nat.le_of_ble_eq_true rfl) (Nat.le_of_ble_eq_true rfl) (Nat.le_of_ble_eq_true rfl) dX8_init_132 (fun q132 => ?_)
  replace C := C.up (a := 1) (b := 924) (Nat.le_of_ble_eq_true rfl) (Nat.le_of_ble_eq_true rfl)
  show G _ (Vc _ ε [(h0, .inr (6, [.ref q7, .int 0, .ref q15, .ref q23, .ref q31, .ref q39, .ref q47, .ref q55, .ref q63, .ref q71, .ref q79, .int 0, .int 0, .int 0, .long 0, .ref q87, .int 0, .ref q96, .ref q105, .ref q114, .ref q123, .null, .null, .null, .null, .null, .int 0, .int 0, .null, .null, .null, .int 0, .int 0, .int 0, .null, .null, .null, .int 0, .int 0, .long 0, .null, .null, .long 0, .int 0, .int 0, .long 0, .int 0])), (q7, .inl (eA ε 0, 60, .inl (fun _ => 0))), (q15, .inl (eA ε 0, 10, .inl (fun _ => 0))), (q23, .inl (eA ε 0, 10, .inl (fun _ => 0))), (q31, .inl (eA ε 0, 11, .inl (fun _ => 0))), (q39, .inl (eA ε 0, 11, .inl (fun _ => 0))), (q47, .inl (eA ε 0, 66, .inl (fun _ => 0))), (q55, .inl (eA ε 0, 66, .inl (fun _ => 0))), (q63, .inl (eA ε 1, 66, .inr (.inl (fun _ => 0)))), (q71, .inl (eA ε 0, 20, .inl (fun _ => 0))), (q79, .inl (eA ε 2, 20, .inl (fun _ => 0))), (q87, .inl (eA ε 0, 6, .inl (fun _ => 0))), (q96, .inl (eA ε 0, 140, .inl (fun _ => 0))), (q105, .inl (eA ε 0, 140, .inl (fun _ => 0))), (q114, .inl (eA ε 0, 154, .inl (fun _ => 0))), (q123, .inl (eA ε 0, 154, .inl (fun _ => 0))), (q132, .inl (eA ε 0, 924, .inl (fun _ => 0)))] _) 2 134 [(0, .ref h0)] [.ref q132, .ref h0]
  refine c_putF (pc := 134) (q0 := 0) (v := .ref q132) (ws' := [(h0, .inr (6, [.ref q7, .int 0, .ref q15, .ref q23, .ref q31, .ref q39, .ref q47, .ref q55, .ref q63, .ref q71, .ref q79, .int 0, .int 0, .int 0, .long 0, .ref q87, .int 0, .ref q96, .ref q105, .ref q114, .ref q123, .ref q132, .null, .null, .null, .null, .int 0, .int 0, .null, .null, .null, .int 0, .int 0, .int 0, .null, .null, .null, .int 0, .int 0, .long 0, .null, .null, .long 0, .int 0, .int 0, .long 0, .int 0])), (q7, .inl (eA ε 0, 60, .inl (fun _ => 0))), (q15, .inl (eA ε 0, 10, .inl (fun _ => 0))), (q23, .inl (eA ε 0, 10, .inl (fun _ => 0))), (q31, .inl (eA ε 0, 11, .inl (fun _ => 0))), (q39, .inl (eA ε 0, 11, .inl (fun _ => 0))), (q47, .inl (eA ε 0, 66, .inl (fun _ => 0))), (q55, .inl (eA ε 0, 66, .inl (fun _ => 0))), (q63, .inl (eA ε 1, 66, .inr (.inl (fun _ => 0)))), (q71, .inl (eA ε 0, 20, .inl (fun _ => 0))), (q79, .inl (eA ε 2, 20, .inl (fun _ => 0))), (q87, .inl (eA ε 0, 6, .inl (fun _ => 0))), (q96, .inl (eA ε 0, 140, .inl (fun _ => 0))), (q105, .inl (eA ε 0, 140, .inl (fun _ => 0))), (q114, .inl (eA ε 0, 154, .inl (fun _ => 0))), (q123, .inl (eA ε 0, 154, .inl (fun _ => 0))), (q132, .inl (eA ε 0, 924, .inl (fun _ => 0)))]) C K hin fdX8_57 rfl (by decide) rfl rfl (dcX8 21) ⟨_, _, rfl⟩ rfl dX8_init_134 ?_
  refine g_aload_n (pc := 137) (i := 0) (j := 0) C dX8_init_137 rfl rfl ?_
  refine g_sipush (pc := 138) C dX8_init_138 cs_924 ?_
  refine c_newa (pc := 141) (atype := .int) (t := 0) (N := 924) (a0 := (924, .inl (fun _ => 0))) C K hA ac_int rfl (fun _ => rfl) (by decide) rfl (Nat.le_of_ble_eq_true rfl) (Nat.le_of_ble_eq_true rfl) (Nat.le_of_ble_eq_true rfl) dX8_init_141 (fun q141 => ?_)
  replace C := C.up (a := 1) (b := 924) (Nat.le_of_ble_eq_true rfl) (Nat.le_of_ble_eq_true rfl)
  show G _ (Vc _ ε [(h0, .inr (6, [.ref q7, .int 0, .ref q15, .ref q23, .ref q31, .ref q39, .ref q47, .ref q55, .ref q63, .ref q71, .ref q79, .int 0, .int 0, .int 0, .long 0, .ref q87, .int 0, .ref q96, .ref q105, .ref q114, .ref q123, .ref q132, .null, .null, .null, .null, .int 0, .int 0, .null, .null, .null, .int 0, .int 0, .int 0, .null, .null, .null, .int 0, .int 0, .long 0, .null, .null, .long 0, .int 0, .int 0, .long 0, .int 0])), (q7, .inl (eA ε 0, 60, .inl (fun _ => 0))), (q15, .inl (eA ε 0, 10, .inl (fun _ => 0))), (q23, .inl (eA ε 0, 10, .inl (fun _ => 0))), (q31, .inl (eA ε 0, 11, .inl (fun _ => 0))), (q39, .inl (eA ε 0, 11, .inl (fun _ => 0))), (q47, .inl (eA ε 0, 66, .inl (fun _ => 0))), (q55, .inl (eA ε 0, 66, .inl (fun _ => 0))), (q63, .inl (eA ε 1, 66, .inr (.inl (fun _ => 0)))), (q71, .inl (eA ε 0, 20, .inl (fun _ => 0))), (q79, .inl (eA ε 2, 20, .inl (fun _ => 0))), (q87, .inl (eA ε 0, 6, .inl (fun _ => 0))), (q96, .inl (eA ε 0, 140, .inl (fun _ => 0))), (q105, .inl (eA ε 0, 140, .inl (fun _ => 0))), (q114, .inl (eA ε 0, 154, .inl (fun _ => 0))), (q123, .inl (eA ε 0, 154, .inl (fun _ => 0))), (q132, .inl (eA ε 0, 924, .inl (fun _ => 0))), (q141, .inl (eA ε 0, 924, .inl (fun _ => 0)))] _) 2 143 [(0, .ref h0)] [.ref q141, .ref h0]
  refine c_putF (pc := 143) (q0 := 0) (v := .ref q141) (ws' := [(h0, .inr (6, [.ref q7, .int 0, .ref q15, .ref q23, .ref q31, .ref q39, .ref q47, .ref q55, .ref q63, .ref q71, .ref q79, .int 0, .int 0, .int 0, .long 0, .ref q87, .int 0, .ref q96, .ref q105, .ref q114, .ref q123, .ref q132, .ref q141, .null, .null, .null, .int 0, .int 0, .null, .null, .null, .int 0, .int 0, .int 0, .null, .null, .null, .int 0, .int 0, .long 0, .null, .null, .long 0, .int 0, .int 0, .long 0, .int 0])), (q7, .inl (eA ε 0, 60, .inl (fun _ => 0))), (q15, .inl (eA ε 0, 10, .inl (fun _ => 0))), (q23, .inl (eA ε 0, 10, .inl (fun _ => 0))), (q31, .inl (eA ε 0, 11, .inl (fun _ => 0))), (q39, .inl (eA ε 0, 11, .inl (fun _ => 0))), (q47, .inl (eA ε 0, 66, .inl (fun _ => 0))), (q55, .inl (eA ε 0, 66, .inl (fun _ => 0))), (q63, .inl (eA ε 1, 66, .inr (.inl (fun _ => 0)))), (q71, .inl (eA ε 0, 20, .inl (fun _ => 0))), (q79, .inl (eA ε 2, 20, .inl (fun _ => 0))), (q87, .inl (eA ε 0, 6, .inl (fun _ => 0))), (q96, .inl (eA ε 0, 140, .inl (fun _ => 0))), (q105, .inl (eA ε 0, 140, .inl (fun _ => 0))), (q114, .inl (eA ε 0, 154, .inl (fun _ => 0))), (q123, .inl (eA ε 0, 154, .inl (fun _ => 0))), (q132, .inl (eA ε 0, 924, .inl (fun _ => 0))), (q141, .inl (eA ε 0, 924, .inl (fun _ => 0)))]) C K hin fdX8_60 rfl (by decide) rfl rfl (dcX8 22) ⟨_, _, rfl⟩ rfl dX8_init_143 ?_
  refine g_aload_n (pc := 146) (i := 0) (j := 0) C dX8_init_146 rfl rfl ?_
  refine g_sipush (pc := 147) C dX8_init_147 cs_924 ?_
  refine c_newa (pc := 150) (atype := .long) (t := 1) (N := 924) (a0 := (924, .inr (.inl (fun _ => 0)))) C K hA ac_long rfl (fun _ => rfl) (by decide) rfl (Nat.le_of_ble_eq_true rfl) (Nat.le_of_ble_eq_true rfl) (Nat.le_of_ble_eq_true rfl) dX8_init_150 (fun q150 => ?_)
  replace C := C.up (a := 1) (b := 924) (Nat.le_of_ble_eq_true rfl) (Nat.le_of_ble_eq_true rfl)
  show G _ (Vc _ ε [(h0, .inr (6, [.ref q7, .int 0, .ref q15, .ref q23, .ref q31, .ref q39, .ref q47, .ref q55, .ref q63, .ref q71, .ref q79, .int 0, .int 0, .int 0, .long 0, .ref q87, .int 0, .ref q96, .ref q105, .ref q114, .ref q123, .ref q132, .ref q141, .null, .null, .null, .int 0, .int 0, .null, .null, .null, .int 0, .int 0, .int 0, .null, .null, .null, .int 0, .int 0, .long 0, .null, .null, .long 0, .int 0, .int 0, .long 0, .int 0])), (q7, .inl (eA ε 0, 60, .inl (fun _ => 0))), (q15, .inl (eA ε 0, 10, .inl (fun _ => 0))), (q23, .inl (eA ε 0, 10, .inl (fun _ => 0))), (q31, .inl (eA ε 0, 11, .inl (fun _ => 0))), (q39, .inl (eA ε 0, 11, .inl (fun _ => 0))), (q47, .inl (eA ε 0, 66, .inl (fun _ => 0))), (q55, .inl (eA ε 0, 66, .inl (fun _ => 0))), (q63, .inl (eA ε 1, 66, .inr (.inl (fun _ => 0)))), (q71, .inl (eA ε 0, 20, .inl (fun _ => 0))), (q79, .inl (eA ε 2, 20, .inl (fun _ => 0))), (q87, .inl (eA ε 0, 6, .inl (fun _ => 0))), (q96, .inl (eA ε 0, 140, .inl (fun _ => 0))), (q105, .inl (eA ε 0, 140, .inl (fun _ => 0))), (q114, .inl (eA ε 0, 154, .inl (fun _ => 0))), (q123, .inl (eA ε 0, 154, .inl (fun _ => 0))), (q132, .inl (eA ε 0, 924, .inl (fun _ => 0))), (q141, .inl (eA ε 0, 924, .inl (fun _ => 0))), (q150, .inl (eA ε 1, 924, .inr (.inl (fun _ => 0))))] _) 2 152 [(0, .ref h0)] [.ref q150, .ref h0]
  refine c_putF (pc := 152) (q0 := 0) (v := .ref q150) (ws' := [(h0, .inr (6, [.ref q7, .int 0, .ref q15, .ref q23, .ref q31, .ref q39, .ref q47, .ref q55, .ref q63, .ref q71, .ref q79, .int 0, .int 0, .int 0, .long 0, .ref q87, .int 0, .ref q96, .ref q105, .ref q114, .ref q123, .ref q132, .ref q141, .ref q150, .null, .null, .int 0, .int 0, .null, .null, .null, .int 0, .int 0, .int 0, .null, .null, .null, .int 0, .int 0, .long 0, .null, .null, .long 0, .int 0, .int 0, .long 0, .int 0])), (q7, .inl (eA ε 0, 60, .inl (fun _ => 0))), (q15, .inl (eA ε 0, 10, .inl (fun _ => 0))), (q23, .inl (eA ε 0, 10, .inl (fun _ => 0))), (q31, .inl (eA ε 0, 11, .inl (fun _ => 0))), (q39, .inl (eA ε 0, 11, .inl (fun _ => 0))), (q47, .inl (eA ε 0, 66, .inl (fun _ => 0))), (q55, .inl (eA ε 0, 66, .inl (fun _ => 0))), (q63, .inl (eA ε 1, 66, .inr (.inl (fun _ => 0)))), (q71, .inl (eA ε 0, 20, .inl (fun _ => 0))), (q79, .inl (eA ε 2, 20, .inl (fun _ => 0))), (q87, .inl (eA ε 0, 6, .inl (fun _ => 0))), (q96, .inl (eA ε 0, 140, .inl (fun _ => 0))), (q105, .inl (eA ε 0, 140, .inl (fun _ => 0))), (q114, .inl (eA ε 0, 154, .inl (fun _ => 0))), (q123, .inl (eA ε 0, 154, .inl (fun _ => 0))), (q132, .inl (eA ε 0, 924, .inl (fun _ => 0))), (q141, .inl (eA ε 0, 924, .inl (fun _ => 0))), (q150, .inl (eA ε 1, 924, .inr (.inl (fun _ => 0))))]) C K hin fdX8_63 rfl (by decide) rfl rfl (dcX8 23) ⟨_, _, rfl⟩ rfl dX8_init_152 ?_
  refine g_aload_n (pc := 155) (i := 0) (j := 0) C dX8_init_155 rfl rfl ?_
  refine g_sipush (pc := 156) C dX8_init_156 cs_280 ?_
  refine c_newa (pc := 159) (atype := .int) (t := 0) (N := 280) (a0 := (280, .inl (fun _ => 0))) C K hA ac_int rfl (fun _ => rfl) (by decide) rfl (Nat.le_of_ble_eq_true rfl) (Nat.le_of_ble_eq_true rfl) (Nat.le_of_ble_eq_true rfl) dX8_init_159 (fun q159 => ?_)
  replace C := C.up (a := 1) (b := 280) (Nat.le_of_ble_eq_true rfl) (Nat.le_of_ble_eq_true rfl)
  show G _ (Vc _ ε [(h0, .inr (6, [.ref q7, .int 0, .ref q15, .ref q23, .ref q31, .ref q39, .ref q47, .ref q55, .ref q63, .ref q71, .ref q79, .int 0, .int 0, .int 0, .long 0, .ref q87, .int 0, .ref q96, .ref q105, .ref q114, .ref q123, .ref q132, .ref q141, .ref q150, .null, .null, .int 0, .int 0, .null, .null, .null, .int 0, .int 0, .int 0, .null, .null, .null, .int 0, .int 0, .long 0, .null, .null, .long 0, .int 0, .int 0, .long 0, .int 0])), (q7, .inl (eA ε 0, 60, .inl (fun _ => 0))), (q15, .inl (eA ε 0, 10, .inl (fun _ => 0))), (q23, .inl (eA ε 0, 10, .inl (fun _ => 0))), (q31, .inl (eA ε 0, 11, .inl (fun _ => 0))), (q39, .inl (eA ε 0, 11, .inl (fun _ => 0))), (q47, .inl (eA ε 0, 66, .inl (fun _ => 0))), (q55, .inl (eA ε 0, 66, .inl (fun _ => 0))), (q63, .inl (eA ε 1, 66, .inr (.inl (fun _ => 0)))), (q71, .inl (eA ε 0, 20, .inl (fun _ => 0))), (q79, .inl (eA ε 2, 20, .inl (fun _ => 0))), (q87, .inl (eA ε 0, 6, .inl (fun _ => 0))), (q96, .inl (eA ε 0, 140, .inl (fun _ => 0))), (q105, .inl (eA ε 0, 140, .inl (fun _ => 0))), (q114, .inl (eA ε 0, 154, .inl (fun _ => 0))), (q123, .inl (eA ε 0, 154, .inl (fun _ => 0))), (q132, .inl (eA ε 0, 924, .inl (fun _ => 0))), (q141, .inl (eA ε 0, 924, .inl (fun _ => 0))), (q150, .inl (eA ε 1, 924, .inr (.inl (fun _ => 0)))), (q159, .inl (eA ε 0, 280, .inl (fun _ => 0)))] _) 2 161 [(0, .ref h0)] [.ref q159, .ref h0]
  refine c_putF (pc := 161) (q0 := 0) (v := .ref q159) (ws' := [(h0, .inr (6, [.ref q7, .int 0, .ref q15, .ref q23, .ref q31, .ref q39, .ref q47, .ref q55, .ref q63, .ref q71, .ref q79, .int 0, .int 0, .int 0, .long 0, .ref q87, .int 0, .ref q96, .ref q105, .ref q114, .ref q123, .ref q132, .ref q141, .ref q150, .ref q159, .null, .int 0, .int 0, .null, .null, .null, .int 0, .int 0, .int 0, .null, .null, .null, .int 0, .int 0, .long 0, .null, .null, .long 0, .int 0, .int 0, .long 0, .int 0])), (q7, .inl (eA ε 0, 60, .inl (fun _ => 0))), (q15, .inl (eA ε 0, 10, .inl (fun _ => 0))), (q23, .inl (eA ε 0, 10, .inl (fun _ => 0))), (q31, .inl (eA ε 0, 11, .inl (fun _ => 0))), (q39, .inl (eA ε 0, 11, .inl (fun _ => 0))), (q47, .inl (eA ε 0, 66, .inl (fun _ => 0))), (q55, .inl (eA ε 0, 66, .inl (fun _ => 0))), (q63, .inl (eA ε 1, 66, .inr (.inl (fun _ => 0)))), (q71, .inl (eA ε 0, 20, .inl (fun _ => 0))), (q79, .inl (eA ε 2, 20, .inl (fun _ => 0))), (q87, .inl (eA ε 0, 6, .inl (fun _ => 0))), (q96, .inl (eA ε 0, 140, .inl (fun _ => 0))), (q105, .inl (eA ε 0, 140, .inl (fun _ => 0))), (q114, .inl (eA ε 0, 154, .inl (fun _ => 0))), (q123, .inl (eA ε 0, 154, .inl (fun _ => 0))), (q132, .inl (eA ε 0, 924, .inl (fun _ => 0))), (q141, .inl (eA ε 0, 924, .inl (fun _ => 0))), (q150, .inl (eA ε 1, 924, .inr (.inl (fun _ => 0)))), (q159, .inl (eA ε 0, 280, .inl (fun _ => 0)))]) C K hin fdX8_66 rfl (by decide) rfl rfl (dcX8 24) ⟨_, _, rfl⟩ rfl dX8_init_161 ?_
  refine g_aload_n (pc := 164) (i := 0) (j := 0) C dX8_init_164 rfl rfl ?_
  refine g_bipush (pc := 165) C dX8_init_165 cb_14 ?_
  refine c_newa (pc := 167) (atype := .int) (t := 0) (N := 14) (a0 := (14, .inl (fun _ => 0))) C K hA ac_int rfl (fun _ => rfl) (by decide) rfl (Nat.le_of_ble_eq_true rfl) (Nat.le_of_ble_eq_true rfl) (Nat.le_of_ble_eq_true rfl) dX8_init_167 (fun q167 => ?_)
  replace C := C.up (a := 1) (b := 14) (Nat.le_of_ble_eq_true rfl) (Nat.le_of_ble_eq_true rfl)
  show G _ (Vc _ ε [(h0, .inr (6, [.ref q7, .int 0, .ref q15, .ref q23, .ref q31, .ref q39, .ref q47, .ref q55, .ref q63, .ref q71, .ref q79, .int 0, .int 0, .int 0, .long 0, .ref q87, .int 0, .ref q96, .ref q105, .ref q114, .ref q123, .ref q132, .ref q141, .ref q150, .ref q159, .null, .int 0, .int 0, .null, .null, .null, .int 0, .int 0, .int 0, .null, .null, .null, .int 0, .int 0, .long 0, .null, .null, .long 0, .int 0, .int 0, .long 0, .int 0])), (q7, .inl (eA ε 0, 60, .inl (fun _ => 0))), (q15, .inl (eA ε 0, 10, .inl (fun _ => 0))), (q23, .inl (eA ε 0, 10, .inl (fun _ => 0))), (q31, .inl (eA ε 0, 11, .inl (fun _ => 0))), (q39, .inl (eA ε 0, 11, .inl (fun _ => 0))), (q47, .inl (eA ε 0, 66, .inl (fun _ => 0))), (q55, .inl (eA ε 0, 66, .inl (fun _ => 0))), (q63, .inl (eA ε 1, 66, .inr (.inl (fun _ => 0)))), (q71, .inl (eA ε 0, 20, .inl (fun _ => 0))), (q79, .inl (eA ε 2, 20, .inl (fun _ => 0))), (q87, .inl (eA ε 0, 6, .inl (fun _ => 0))), (q96, .inl (eA ε 0, 140, .inl (fun _ => 0))), (q105, .inl (eA ε 0, 140, .inl (fun _ => 0))), (q114, .inl (eA ε 0, 154, .inl (fun _ => 0))), (q123, .inl (eA ε 0, 154, .inl (fun _ => 0))), (q132, .inl (eA ε 0, 924, .inl (fun _ => 0))), (q141, .inl (eA ε 0, 924, .inl (fun _ => 0))), (q150, .inl (eA ε 1, 924, .inr (.inl (fun _ => 0)))), (q159, .inl (eA ε 0, 280, .inl (fun _ => 0))), (q167, .inl (eA ε 0, 14, .inl (fun _ => 0)))] _) 2 169 [(0, .ref h0)] [.ref q167, .ref h0]
  refine c_putF (pc := 169) (q0 := 0) (v := .ref q167) (ws' := [(h0, .inr (6, [.ref q7, .int 0, .ref q15, .ref q23, .ref q31, .ref q39, .ref q47, .ref q55, .ref q63, .ref q71, .ref q79, .int 0, .int 0, .int 0, .long 0, .ref q87, .int 0, .ref q96, .ref q105, .ref q114, .ref q123, .ref q132, .ref q141, .ref q150, .ref q159, .ref q167, .int 0, .int 0, .null, .null, .null, .int 0, .int 0, .int 0, .null, .null, .null, .int 0, .int 0, .long 0, .null, .null, .long 0, .int 0, .int 0, .long 0, .int 0])), (q7, .inl (eA ε 0, 60, .inl (fun _ => 0))), (q15, .inl (eA ε 0, 10, .inl (fun _ => 0))), (q23, .inl (eA ε 0, 10, .inl (fun _ => 0))), (q31, .inl (eA ε 0, 11, .inl (fun _ => 0))), (q39, .inl (eA ε 0, 11, .inl (fun _ => 0))), (q47, .inl (eA ε 0, 66, .inl (fun _ => 0))), (q55, .inl (eA ε 0, 66, .inl (fun _ => 0))), (q63, .inl (eA ε 1, 66, .inr (.inl (fun _ => 0)))), (q71, .inl (eA ε 0, 20, .inl (fun _ => 0))), (q79, .inl (eA ε 2, 20, .inl (fun _ => 0))), (q87, .inl (eA ε 0, 6, .inl (fun _ => 0))), (q96, .inl (eA ε 0, 140, .inl (fun _ => 0))), (q105, .inl (eA ε 0, 140, .inl (fun _ => 0))), (q114, .inl (eA ε 0, 154, .inl (fun _ => 0))), (q123, .inl (eA ε 0, 154, .inl (fun _ => 0))), (q132, .inl (eA ε 0, 924, .inl (fun _ => 0))), (q141, .inl (eA ε 0, 924, .inl (fun _ => 0))), (q150, .inl (eA ε 1, 924, .inr (.inl (fun _ => 0)))), (q159, .inl (eA ε 0, 280, .inl (fun _ => 0))), (q167, .inl (eA ε 0, 14, .inl (fun _ => 0)))]) C K hin fdX8_69 rfl (by decide) rfl rfl (dcX8 25) ⟨_, _, rfl⟩ rfl dX8_init_169 ?_
  refine g_aload_n (pc := 172) (i := 0) (j := 0) C dX8_init_172 rfl rfl ?_
  refine g_bipush (pc := 173) C dX8_init_173 cb_6 ?_
  refine c_newa (pc := 175) (atype := .int) (t := 0) (N := 6) (a0 := (6, .inl (fun _ => 0))) C K hA ac_int rfl (fun _ => rfl) (by decide) rfl (Nat.le_of_ble_eq_true rfl) (Nat.le_of_ble_eq_true rfl) (Nat.le_of_ble_eq_true rfl) dX8_init_175 (fun q175 => ?_)
  replace C := C.up (a := 1) (b := 6) (Nat.le_of_ble_eq_true rfl) (Nat.le_of_ble_eq_true rfl)
  show G _ (Vc _ ε [(h0, .inr (6, [.ref q7, .int 0, .ref q15, .ref q23, .ref q31, .ref q39, .ref q47, .ref q55, .ref q63, .ref q71, .ref q79, .int 0, .int 0, .int 0, .long 0, .ref q87, .int 0, .ref q96, .ref q105, .ref q114, .ref q123, .ref q132, .ref q141, .ref q150, .ref q159, .ref q167, .int 0, .int 0, .null, .null, .null, .int 0, .int 0, .int 0, .null, .null, .null, .int 0, .int 0, .long 0, .null, .null, .long 0, .int 0, .int 0, .long 0, .int 0])), (q7, .inl (eA ε 0, 60, .inl (fun _ => 0))), (q15, .inl (eA ε 0, 10, .inl (fun _ => 0))), (q23, .inl (eA ε 0, 10, .inl (fun _ => 0))), (q31, .inl (eA ε 0, 11, .inl (fun _ => 0))), (q39, .inl (eA ε 0, 11, .inl (fun _ => 0))), (q47, .inl (eA ε 0, 66, .inl (fun _ => 0))), (q55, .inl (eA ε 0, 66, .inl (fun _ => 0))), (q63, .inl (eA ε 1, 66, .inr (.inl (fun _ => 0)))), (q71, .inl (eA ε 0, 20, .inl (fun _ => 0))), (q79, .inl (eA ε 2, 20, .inl (fun _ => 0))), (q87, .inl (eA ε 0, 6, .inl (fun _ => 0))), (q96, .inl (eA ε 0, 140, .inl (fun _ => 0))), (q105, .inl (eA ε 0, 140, .inl (fun _ => 0))), (q114, .inl (eA ε 0, 154, .inl (fun _ => 0))), (q123, .inl (eA ε 0, 154, .inl (fun _ => 0))), (q132, .inl (eA ε 0, 924, .inl (fun _ => 0))), (q141, .inl (eA ε 0, 924, .inl (fun _ => 0))), (q150, .inl (eA ε 1, 924, .inr (.inl (fun _ => 0)))), (q159, .inl (eA ε 0, 280, .inl (fun _ => 0))), (q167, .inl (eA ε 0, 14, .inl (fun _ => 0))), (q175, .inl (eA ε 0, 6, .inl (fun _ => 0)))] _) 2 177 [(0, .ref h0)] [.ref q175, .ref h0]
  refine c_putF (pc := 177) (q0 := 0) (v := .ref q175) (ws' := [(h0, .inr (6, [.ref q7, .int 0, .ref q15, .ref q23, .ref q31, .ref q39, .ref q47, .ref q55, .ref q63, .ref q71, .ref q79, .int 0, .int 0, .int 0, .long 0, .ref q87, .int 0, .ref q96, .ref q105, .ref q114, .ref q123, .ref q132, .ref q141, .ref q150, .ref q159, .ref q167, .int 0, .int 0, .ref q175, .null, .null, .int 0, .int 0, .int 0, .null, .null, .null, .int 0, .int 0, .long 0, .null, .null, .long 0, .int 0, .int 0, .long 0, .int 0])), (q7, .inl (eA ε 0, 60, .inl (fun _ => 0))), (q15, .inl (eA ε 0, 10, .inl (fun _ => 0))), (q23, .inl (eA ε 0, 10, .inl (fun _ => 0))), (q31, .inl (eA ε 0, 11, .inl (fun _ => 0))), (q39, .inl (eA ε 0, 11, .inl (fun _ => 0))), (q47, .inl (eA ε 0, 66, .inl (fun _ => 0))), (q55, .inl (eA ε 0, 66, .inl (fun _ => 0))), (q63, .inl (eA ε 1, 66, .inr (.inl (fun _ => 0)))), (q71, .inl (eA ε 0, 20, .inl (fun _ => 0))), (q79, .inl (eA ε 2, 20, .inl (fun _ => 0))), (q87, .inl (eA ε 0, 6, .inl (fun _ => 0))), (q96, .inl (eA ε 0, 140, .inl (fun _ => 0))), (q105, .inl (eA ε 0, 140, .inl (fun _ => 0))), (q114, .inl (eA ε 0, 154, .inl (fun _ => 0))), (q123, .inl (eA ε 0, 154, .inl (fun _ => 0))), (q132, .inl (eA ε 0, 924, .inl (fun _ => 0))), (q141, .inl (eA ε 0, 924, .inl (fun _ => 0))), (q150, .inl (eA ε 1, 924, .inr (.inl (fun _ => 0)))), (q159, .inl (eA ε 0, 280, .inl (fun _ => 0))), (q167, .inl (eA ε 0, 14, .inl (fun _ => 0))), (q175, .inl (eA ε 0, 6, .inl (fun _ => 0)))]) C K hin fdX8_72 rfl (by decide) rfl rfl (dcX8 28) ⟨_, _, rfl⟩ rfl dX8_init_177 ?_
  refine g_aload_n (pc := 180) (i := 0) (j := 0) C dX8_init_180 rfl rfl ?_
  refine g_bipush (pc := 181) C dX8_init_181 cb_6 ?_
  refine c_newa (pc := 183) (atype := .int) (t := 0) (N := 6) (a0 := (6, .inl (fun _ => 0))) C K hA ac_int rfl (fun _ => rfl) (by decide) rfl (Nat.le_of_ble_eq_true rfl) (Nat.le_of_ble_eq_true rfl) (Nat.le_of_ble_eq_true rfl) dX8_init_183 (fun q183 => ?_)
  replace C := C.up (a := 1) (b := 6) (Nat.le_of_ble_eq_true rfl) (Nat.le_of_ble_eq_true rfl)
  show G _ (Vc _ ε [(h0, .inr (6, [.ref q7, .int 0, .ref q15, .ref q23, .ref q31, .ref q39, .ref q47, .ref q55, .ref q63, .ref q71, .ref q79, .int 0, .int 0, .int 0, .long 0, .ref q87, .int 0, .ref q96, .ref q105, .ref q114, .ref q123, .ref q132, .ref q141, .ref q150, .ref q159, .ref q167, .int 0, .int 0, .ref q175, .null, .null, .int 0, .int 0, .int 0, .null, .null, .null, .int 0, .int 0, .long 0, .null, .null, .long 0, .int 0, .int 0, .long 0, .int 0])), (q7, .inl (eA ε 0, 60, .inl (fun _ => 0))), (q15, .inl (eA ε 0, 10, .inl (fun _ => 0))), (q23, .inl (eA ε 0, 10, .inl (fun _ => 0))), (q31, .inl (eA ε 0, 11, .inl (fun _ => 0))), (q39, .inl (eA ε 0, 11, .inl (fun _ => 0))), (q47, .inl (eA ε 0, 66, .inl (fun _ => 0))), (q55, .inl (eA ε 0, 66, .inl (fun _ => 0))), (q63, .inl (eA ε 1, 66, .inr (.inl (fun _ => 0)))), (q71, .inl (eA ε 0, 20, .inl (fun _ => 0))), (q79, .inl (eA ε 2, 20, .inl (fun _ => 0))), (q87, .inl (eA ε 0, 6, .inl (fun _ => 0))), (q96, .inl (eA ε 0, 140, .inl (fun _ => 0))), (q105, .inl (eA ε 0, 140, .inl (fun _ => 0))), (q114, .inl (eA ε 0, 154, .inl (fun _ => 0))), (q123, .inl (eA ε 0, 154, .inl (fun _ => 0))), (q132, .inl (eA ε 0, 924, .inl (fun _ => 0))), (q141, .inl (eA ε 0, 924, .inl (fun _ => 0))), (q150, .inl (eA ε 1, 924, .inr (.inl (fun _ => 0)))), (q159, .inl (eA ε 0, 280, .inl (fun _ => 0))), (q167, .inl (eA ε 0, 14, .inl (fun _ => 0))), (q175, .inl (eA ε 0, 6, .inl (fun _ => 0))), (q183, .inl (eA ε 0, 6, .inl (fun _ => 0)))] _) 2 185 [(0, .ref h0)] [.ref q183, .ref h0]
  refine c_putF (pc := 185) (q0 := 0) (v := .ref q183) (ws' := [(h0, .inr (6, [.ref q7, .int 0, .ref q15, .ref q23, .ref q31, .ref q39, .ref q47, .ref q55, .ref q63, .ref q71, .ref q79, .int 0, .int 0, .int 0, .long 0, .ref q87, .int 0, .ref q96, .ref q105, .ref q114, .ref q123, .ref q132, .ref q141, .ref q150, .ref q159, .ref q167, .int 0, .int 0, .ref q175, .ref q183, .null, .int 0, .int 0, .int 0, .null, .null, .null, .int 0, .int 0, .long 0, .null, .null, .long 0, .int 0, .int 0, .long 0, .int 0])), (q7, .inl (eA ε 0, 60, .inl (fun _ => 0))), (q15, .inl (eA ε 0, 10, .inl (fun _ => 0))), (q23, .inl (eA ε 0, 10, .inl (fun _ => 0))), (q31, .inl (eA ε 0, 11, .inl (fun _ => 0))), (q39, .inl (eA ε 0, 11, .inl (fun _ => 0))), (q47, .inl (eA ε 0, 66, .inl (fun _ => 0))), (q55, .inl (eA ε 0, 66, .inl (fun _ => 0))), (q63, .inl (eA ε 1, 66, .inr (.inl (fun _ => 0)))), (q71, .inl (eA ε 0, 20, .inl (fun _ => 0))), (q79, .inl (eA ε 2, 20, .inl (fun _ => 0))), (q87, .inl (eA ε 0, 6, .inl (fun _ => 0))), (q96, .inl (eA ε 0, 140, .inl (fun _ => 0))), (q105, .inl (eA ε 0, 140, .inl (fun _ => 0))), (q114, .inl (eA ε 0, 154, .inl (fun _ => 0))), (q123, .inl (eA ε 0, 154, .inl (fun _ => 0))), (q132, .inl (eA ε 0, 924, .inl (fun _ => 0))), (q141, .inl (eA ε 0, 924, .inl (fun _ => 0))), (q150, .inl (eA ε 1, 924, .inr (.inl (fun _ => 0)))), (q159, .inl (eA ε 0, 280, .inl (fun _ => 0))), (q167, .inl (eA ε 0, 14, .inl (fun _ => 0))), (q175, .inl (eA ε 0, 6, .inl (fun _ => 0))), (q183, .inl (eA ε 0, 6, .inl (fun _ => 0)))]) C K hin fdX8_75 rfl (by decide) rfl rfl (dcX8 29) ⟨_, _, rfl⟩ rfl dX8_init_185 ?_
  refine g_aload_n (pc := 188) (i := 0) (j := 0) C dX8_init_188 rfl rfl ?_
  refine g_bipush (pc := 189) C dX8_init_189 cb_6 ?_
  refine c_newa (pc := 191) (atype := .int) (t := 0) (N := 6) (a0 := (6, .inl (fun _ => 0))) C K hA ac_int rfl (fun _ => rfl) (by decide) rfl (Nat.le_of_ble_eq_true rfl) (Nat.le_of_ble_eq_true rfl) (Nat.le_of_ble_eq_true rfl) dX8_init_191 (fun q191 => ?_)
  replace C := C.up (a := 1) (b := 6) (Nat.le_of_ble_eq_true rfl) (Nat.le_of_ble_eq_true rfl)
  show G _ (Vc _ ε [(h0, .inr (6, [.ref q7, .int 0, .ref q15, .ref q23, .ref q31, .ref q39, .ref q47, .ref q55, .ref q63, .ref q71, .ref q79, .int 0, .int 0, .int 0, .long 0, .ref q87, .int 0, .ref q96, .ref q105, .ref q114, .ref q123, .ref q132, .ref q141, .ref q150, .ref q159, .ref q167, .int 0, .int 0, .ref q175, .ref q183, .null, .int 0, .int 0, .int 0, .null, .null, .null, .int 0, .int 0, .long 0, .null, .null, .long 0, .int 0, .int 0, .long 0, .int 0])), (q7, .inl (eA ε 0, 60, .inl (fun _ => 0))), (q15, .inl (eA ε 0, 10, .inl (fun _ => 0))), (q23, .inl (eA ε 0, 10, .inl (fun _ => 0))), (q31, .inl (eA ε 0, 11, .inl (fun _ => 0))), (q39, .inl (eA ε 0, 11, .inl (fun _ => 0))), (q47, .inl (eA ε 0, 66, .inl (fun _ => 0))), (q55, .inl (eA ε 0, 66, .inl (fun _ => 0))), (q63, .inl (eA ε 1, 66, .inr (.inl (fun _ => 0)))), (q71, .inl (eA ε 0, 20, .inl (fun _ => 0))), (q79, .inl (eA ε 2, 20, .inl (fun _ => 0))), (q87, .inl (eA ε 0, 6, .inl (fun _ => 0))), (q96, .inl (eA ε 0, 140, .inl (fun _ => 0))), (q105, .inl (eA ε 0, 140, .inl (fun _ => 0))), (q114, .inl (eA ε 0, 154, .inl (fun _ => 0))), (q123, .inl (eA ε 0, 154, .inl (fun _ => 0))), (q132, .inl (eA ε 0, 924, .inl (fun _ => 0))), (q141, .inl (eA ε 0, 924, .inl (fun _ => 0))), (q150, .inl (eA ε 1, 924, .inr (.inl (fun _ => 0)))), (q159, .inl (eA ε 0, 280, .inl (fun _ => 0))), (q167, .inl (eA ε 0, 14, .inl (fun _ => 0))), (q175, .inl (eA ε 0, 6, .inl (fun _ => 0))), (q183, .inl (eA ε 0, 6, .inl (fun _ => 0))), (q191, .inl (eA ε 0, 6, .inl (fun _ => 0)))] _) 2 193 [(0, .ref h0)] [.ref q191, .ref h0]
  refine c_putF (pc := 193) (q0 := 0) (v := .ref q191) (ws' := [(h0, .inr (6, [.ref q7, .int 0, .ref q15, .ref q23, .ref q31, .ref q39, .ref q47, .ref q55, .ref q63, .ref q71, .ref q79, .int 0, .int 0, .int 0, .long 0, .ref q87, .int 0, .ref q96, .ref q105, .ref q114, .ref q123, .ref q132, .ref q141, .ref q150, .ref q159, .ref q167, .int 0, .int 0, .ref q175, .ref q183, .ref q191, .int 0, .int 0, .int 0, .null, .null, .null, .int 0, .int 0, .long 0, .null, .null, .long 0, .int 0, .int 0, .long 0, .int 0])), (q7, .inl (eA ε 0, 60, .inl (fun _ => 0))), (q15, .inl (eA ε 0, 10, .inl (fun _ => 0))), (q23, .inl (eA ε 0, 10, .inl (fun _ => 0))), (q31, .inl (eA ε 0, 11, .inl (fun _ => 0))), (q39, .inl (eA ε 0, 11, .inl (fun _ => 0))), (q47, .inl (eA ε 0, 66, .inl (fun _ => 0))), (q55, .inl (eA ε 0, 66, .inl (fun _ => 0))), (q63, .inl (eA ε 1, 66, .inr (.inl (fun _ => 0)))), (q71, .inl (eA ε 0, 20, .inl (fun _ => 0))), (q79, .inl (eA ε 2, 20, .inl (fun _ => 0))), (q87, .inl (eA ε 0, 6, .inl (fun _ => 0))), (q96, .inl (eA ε 0, 140, .inl (fun _ => 0))), (q105, .inl (eA ε 0, 140, .inl (fun _ => 0))), (q114, .inl (eA ε 0, 154, .inl (fun _ => 0))), (q123, .inl (eA ε 0, 154, .inl (fun _ => 0))), (q132, .inl (eA ε 0, 924, .inl (fun _ => 0))), (q141, .inl (eA ε 0, 924, .inl (fun _ => 0))), (q150, .inl (eA ε 1, 924, .inr (.inl (fun _ => 0)))), (q159, .inl (eA ε 0, 280, .inl (fun _ => 0))), (q167, .inl (eA ε 0, 14, .inl (fun _ => 0))), (q175, .inl (eA ε 0, 6, .inl (fun _ => 0))), (q183, .inl (eA ε 0, 6, .inl (fun _ => 0))), (q191, .inl (eA ε 0, 6, .inl (fun _ => 0)))]) C K hin fdX8_78 rfl (by decide) rfl rfl (dcX8 30) ⟨_, _, rfl⟩ rfl dX8_init_193 ?_
  refine g_aload_n (pc := 196) (i := 0) (j := 0) C dX8_init_196 rfl rfl ?_
  refine g_bipush (pc := 197) C dX8_init_197 cb_6 ?_
  refine c_newa (pc := 199) (atype := .int) (t := 0) (N := 6) (a0 := (6, .inl (fun _ => 0))) C K hA ac_int rfl (fun _ => rfl) (by decide) rfl (Nat.le_of_ble_eq_true rfl) (Nat.le_of_ble_eq_true rfl) (Nat.le_of_ble_eq_true rfl) dX8_init_199 (fun q199 => ?_)
  replace C := C.up (a := 1) (b := 6) (Nat.le_of_ble_eq_true rfl) (Nat.le_of_ble_eq_true rfl)
  show G _ (Vc _ ε [(h0, .inr (6, [.ref q7, .int 0, .ref q15, .ref q23, .ref q31, .ref q39, .ref q47, .ref q55, .ref q63, .ref q71, .ref q79, .int 0, .int 0, .int 0, .long 0, .ref q87, .int 0, .ref q96, .ref q105, .ref q114, .ref q123, .ref q132, .ref q141, .ref q150, .ref q159, .ref q167, .int 0, .int 0, .ref q175, .ref q183, .ref q191, .int 0, .int 0, .int 0, .null, .null, .null, .int 0, .int 0, .long 0, .null, .null, .long 0, .int 0, .int 0, .long 0, .int 0])), (q7, .inl (eA ε 0, 60, .inl (fun _ => 0))), (q15, .inl (eA ε 0, 10, .inl (fun _ => 0))), (q23, .inl (eA ε 0, 10, .inl (fun _ => 0))), (q31, .inl (eA ε 0, 11, .inl (fun _ => 0))), (q39, .inl (eA ε 0, 11, .inl (fun _ => 0))), (q47, .inl (eA ε 0, 66, .inl (fun _ => 0))), (q55, .inl (eA ε 0, 66, .inl (fun _ => 0))), (q63, .inl (eA ε 1, 66, .inr (.inl (fun _ => 0)))), (q71, .inl (eA ε 0, 20, .inl (fun _ => 0))), (q79, .inl (eA ε 2, 20, .inl (fun _ => 0))), (q87, .inl (eA ε 0, 6, .inl (fun _ => 0))), (q96, .inl (eA ε 0, 140, .inl (fun _ => 0))), (q105, .inl (eA ε 0, 140, .inl (fun _ => 0))), (q114, .inl (eA ε 0, 154, .inl (fun _ => 0))), (q123, .inl (eA ε 0, 154, .inl (fun _ => 0))), (q132, .inl (eA ε 0, 924, .inl (fun _ => 0))), (q141, .inl (eA ε 0, 924, .inl (fun _ => 0))), (q150, .inl (eA ε 1, 924, .inr (.inl (fun _ => 0)))), (q159, .inl (eA ε 0, 280, .inl (fun _ => 0))), (q167, .inl (eA ε 0, 14, .inl (fun _ => 0))), (q175, .inl (eA ε 0, 6, .inl (fun _ => 0))), (q183, .inl (eA ε 0, 6, .inl (fun _ => 0))), (q191, .inl (eA ε 0, 6, .inl (fun _ => 0))), (q199, .inl (eA ε 0, 6, .inl (fun _ => 0)))] _) 2 201 [(0, .ref h0)] [.ref q199, .ref h0]
  refine c_putF (pc := 201) (q0 := 0) (v := .ref q199) (ws' := [(h0, .inr (6, [.ref q7, .int 0, .ref q15, .ref q23, .ref q31, .ref q39, .ref q47, .ref q55, .ref q63, .ref q71, .ref q79, .int 0, .int 0, .int 0, .long 0, .ref q87, .int 0, .ref q96, .ref q105, .ref q114, .ref q123, .ref q132, .ref q141, .ref q150, .ref q159, .ref q167, .int 0, .int 0, .ref q175, .ref q183, .ref q191, .int 0, .int 0, .int 0, .ref q199, .null, .null, .int 0, .int 0, .long 0, .null, .null, .long 0, .int 0, .int 0, .long 0, .int 0])), (q7, .inl (eA ε 0, 60, .inl (fun _ => 0))), (q15, .inl (eA ε 0, 10, .inl (fun _ => 0))), (q23, .inl (eA ε 0, 10, .inl (fun _ => 0))), (q31, .inl (eA ε 0, 11, .inl (fun _ => 0))), (q39, .inl (eA ε 0, 11, .inl (fun _ => 0))), (q47, .inl (eA ε 0, 66, .inl (fun _ => 0))), (q55, .inl (eA ε 0, 66, .inl (fun _ => 0))), (q63, .inl (eA ε 1, 66, .inr (.inl (fun _ => 0)))), (q71, .inl (eA ε 0, 20, .inl (fun _ => 0))), (q79, .inl (eA ε 2, 20, .inl (fun _ => 0))), (q87, .inl (eA ε 0, 6, .inl (fun _ => 0))), (q96, .inl (eA ε 0, 140, .inl (fun _ => 0))), (q105, .inl (eA ε 0, 140, .inl (fun _ => 0))), (q114, .inl (eA ε 0, 154, .inl (fun _ => 0))), (q123, .inl (eA ε 0, 154, .inl (fun _ => 0))), (q132, .inl (eA ε 0, 924, .inl (fun _ => 0))), (q141, .inl (eA ε 0, 924, .inl (fun _ => 0))), (q150, .inl (eA ε 1, 924, .inr (.inl (fun _ => 0)))), (q159, .inl (eA ε 0, 280, .inl (fun _ => 0))), (q167, .inl (eA ε 0, 14, .inl (fun _ => 0))), (q175, .inl (eA ε 0, 6, .inl (fun _ => 0))), (q183, .inl (eA ε 0, 6, .inl (fun _ => 0))), (q191, .inl (eA ε 0, 6, .inl (fun _ => 0))), (q199, .inl (eA ε 0, 6, .inl (fun _ => 0)))]) C K hin fdX8_81 rfl (by decide) rfl rfl (dcX8 34) ⟨_, _, rfl⟩ rfl dX8_init_201 ?_
  refine g_aload_n (pc := 204) (i := 0) (j := 0) C dX8_init_204 rfl rfl ?_
  refine g_bipush (pc := 205) C dX8_init_205 cb_6 ?_
  refine c_newa (pc := 207) (atype := .int) (t := 0) (N := 6) (a0 := (6, .inl (fun _ => 0))) C K hA ac_int rfl (fun _ => rfl) (by decide) rfl (Nat.le_of_ble_eq_true rfl) (Nat.le_of_ble_eq_true rfl) (Nat.le_of_ble_eq_true rfl) dX8_init_207 (fun q207 => ?_)
  replace C := C.up (a := 1) (b := 6) (Nat.le_of_ble_eq_true rfl) (Nat.le_of_ble_eq_true rfl)
  show G _ (Vc _ ε [(h0, .inr (6, [.ref q7, .int 0, .ref q15, .ref q23, .ref q31, .ref q39, .ref q47, .ref q55, .ref q63, .ref q71, .ref q79, .int 0, .int 0, .int 0, .long 0, .ref q87, .int 0, .ref q96, .ref q105, .ref q114, .ref q123, .ref q132, .ref q141, .ref q150, .ref q159, .ref q167, .int 0, .int 0, .ref q175, .ref q183, .ref q191, .int 0, .int 0, .int 0, .ref q199, .null, .null, .int 0, .int 0, .long 0, .null, .null, .long 0, .int 0, .int 0, .long 0, .int 0])), (q7, .inl (eA ε 0, 60, .inl (fun _ => 0))), (q15, .inl (eA ε 0, 10, .inl (fun _ => 0))), (q23, .inl (eA ε 0, 10, .inl (fun _ => 0))), (q31, .inl (eA ε 0, 11, .inl (fun _ => 0))), (q39, .inl (eA ε 0, 11, .inl (fun _ => 0))), (q47, .inl (eA ε 0, 66, .inl (fun _ => 0))), (q55, .inl (eA ε 0, 66, .inl (fun _ => 0))), (q63, .inl (eA ε 1, 66, .inr (.inl (fun _ => 0)))), (q71, .inl (eA ε 0, 20, .inl (fun _ => 0))), (q79, .inl (eA ε 2, 20, .inl (fun _ => 0))), (q87, .inl (eA ε 0, 6, .inl (fun _ => 0))), (q96, .inl (eA ε 0, 140, .inl (fun _ => 0))), (q105, .inl (eA ε 0, 140, .inl (fun _ => 0))), (q114, .inl (eA ε 0, 154, .inl (fun _ => 0))), (q123, .inl (eA ε 0, 154, .inl (fun _ => 0))), (q132, .inl (eA ε 0, 924, .inl (fun _ => 0))), (q141, .inl (eA ε 0, 924, .inl (fun _ => 0))), (q150, .inl (eA ε 1, 924, .inr (.inl (fun _ => 0)))), (q159, .inl (eA ε 0, 280, .inl (fun _ => 0))), (q167, .inl (eA ε 0, 14, .inl (fun _ => 0))), (q175, .inl (eA ε 0, 6, .inl (fun _ => 0))), (q183, .inl (eA ε 0, 6, .inl (fun _ => 0))), (q191, .inl (eA ε 0, 6, .inl (fun _ => 0))), (q199, .inl (eA ε 0, 6, .inl (fun _ => 0))), (q207, .inl (eA ε 0, 6, .inl (fun _ => 0)))] _) 2 209 [(0, .ref h0)] [.ref q207, .ref h0]
  refine c_putF (pc := 209) (q0 := 0) (v := .ref q207) (ws' := [(h0, .inr (6, [.ref q7, .int 0, .ref q15, .ref q23, .ref q31, .ref q39, .ref q47, .ref q55, .ref q63, .ref q71, .ref q79, .int 0, .int 0, .int 0, .long 0, .ref q87, .int 0, .ref q96, .ref q105, .ref q114, .ref q123, .ref q132, .ref q141, .ref q150, .ref q159, .ref q167, .int 0, .int 0, .ref q175, .ref q183, .ref q191, .int 0, .int 0, .int 0, .ref q199, .ref q207, .null, .int 0, .int 0, .long 0, .null, .null, .long 0, .int 0, .int 0, .long 0, .int 0])), (q7, .inl (eA ε 0, 60, .inl (fun _ => 0))), (q15, .inl (eA ε 0, 10, .inl (fun _ => 0))), (q23, .inl (eA ε 0, 10, .inl (fun _ => 0))), (q31, .inl (eA ε 0, 11, .inl (fun _ => 0))), (q39, .inl (eA ε 0, 11, .inl (fun _ => 0))), (q47, .inl (eA ε 0, 66, .inl (fun _ => 0))), (q55, .inl (eA ε 0, 66, .inl (fun _ => 0))), (q63, .inl (eA ε 1, 66, .inr (.inl (fun _ => 0)))), (q71, .inl (eA ε 0, 20, .inl (fun _ => 0))), (q79, .inl (eA ε 2, 20, .inl (fun _ => 0))), (q87, .inl (eA ε 0, 6, .inl (fun _ => 0))), (q96, .inl (eA ε 0, 140, .inl (fun _ => 0))), (q105, .inl (eA ε 0, 140, .inl (fun _ => 0))), (q114, .inl (eA ε 0, 154, .inl (fun _ => 0))), (q123, .inl (eA ε 0, 154, .inl (fun _ => 0))), (q132, .inl (eA ε 0, 924, .inl (fun _ => 0))), (q141, .inl (eA ε 0, 924, .inl (fun _ => 0))), (q150, .inl (eA ε 1, 924, .inr (.inl (fun _ => 0)))), (q159, .inl (eA ε 0, 280, .inl (fun _ => 0))), (q167, .inl (eA ε 0, 14, .inl (fun _ => 0))), (q175, .inl (eA ε 0, 6, .inl (fun _ => 0))), (q183, .inl (eA ε 0, 6, .inl (fun _ => 0))), (q191, .inl (eA ε 0, 6, .inl (fun _ => 0))), (q199, .inl (eA ε 0, 6, .inl (fun _ => 0))), (q207, .inl (eA ε 0, 6, .inl (fun _ => 0)))]) C K hin fdX8_84 rfl (by decide) rfl rfl (dcX8 35) ⟨_, _, rfl⟩ rfl dX8_init_209 ?_
  refine g_aload_n (pc := 212) (i := 0) (j := 0) C dX8_init_212 rfl rfl ?_
  refine g_bipush (pc := 213) C dX8_init_213 cb_6 ?_
  refine c_newa (pc := 215) (atype := .long) (t := 1) (N := 6) (a0 := (6, .inr (.inl (fun _ => 0)))) C K hA ac_long rfl (fun _ => rfl) (by decide) rfl (Nat.le_of_ble_eq_true rfl) (Nat.le_of_ble_eq_true rfl) (Nat.le_of_ble_eq_true rfl) dX8_init_215 (fun q215 => ?_)
  replace C := C.up (a := 1) (b := 6) (Nat.le_of_ble_eq_true rfl) (Nat.le_of_ble_eq_true rfl)
  show G _ (Vc _ ε [(h0, .inr (6, [.ref q7, .int 0, .ref q15, .ref q23, .ref q31, .ref q39, .ref q47, .ref q55, .ref q63, .ref q71, .ref q79, .int 0, .int 0, .int 0, .long 0, .ref q87, .int 0, .ref q96, .ref q105, .ref q114, .ref q123, .ref q132, .ref q141, .ref q150, .ref q159, .ref q167, .int 0, .int 0, .ref q175, .ref q183, .ref q191, .int 0, .int 0, .int 0, .ref q199, .ref q207, .null, .int 0, .int 0, .long 0, .null, .null, .long 0, .int 0, .int 0, .long 0, .int 0])), (q7, .inl (eA ε 0, 60, .inl (fun _ => 0))), (q15, .inl (eA ε 0, 10, .inl (fun _ => 0))), (q23, .inl (eA ε 0, 10, .inl (fun _ => 0))), (q31, .inl (eA ε 0, 11, .inl (fun _ => 0))), (q39, .inl (eA ε 0, 11, .inl (fun _ => 0))), (q47, .inl (eA ε 0, 66, .inl (fun _ => 0))), (q55, .inl (eA ε 0, 66, .inl (fun _ => 0))), (q63, .inl (eA ε 1, 66, .inr (.inl (fun _ => 0)))), (q71, .inl (eA ε 0, 20, .inl (fun _ => 0))), (q79, .inl (eA ε 2, 20, .inl (fun _ => 0))), (q87, .inl (eA ε 0, 6, .inl (fun _ => 0))), (q96, .inl (eA ε 0, 140, .inl (fun _ => 0))), (q105, .inl (eA ε 0, 140, .inl (fun _ => 0))), (q114, .inl (eA ε 0, 154, .inl (fun _ => 0))), (q123, .inl (eA ε 0, 154, .inl (fun _ => 0))), (q132, .inl (eA ε 0, 924, .inl (fun _ => 0))), (q141, .inl (eA ε 0, 924, .inl (fun _ => 0))), (q150, .inl (eA ε 1, 924, .inr (.inl (fun _ => 0)))), (q159, .inl (eA ε 0, 280, .inl (fun _ => 0))), (q167, .inl (eA ε 0, 14, .inl (fun _ => 0))), (q175, .inl (eA ε 0, 6, .inl (fun _ => 0))), (q183, .inl (eA ε 0, 6, .inl (fun _ => 0))), (q191, .inl (eA ε 0, 6, .inl (fun _ => 0))), (q199, .inl (eA ε 0, 6, .inl (fun _ => 0))), (q207, .inl (eA ε 0, 6, .inl (fun _ => 0))), (q215, .inl (eA ε 1, 6, .inr (.inl (fun _ => 0))))] _) 2 217 [(0, .ref h0)] [.ref q215, .ref h0]
  refine c_putF (pc := 217) (q0 := 0) (v := .ref q215) (ws' := [(h0, .inr (6, [.ref q7, .int 0, .ref q15, .ref q23, .ref q31, .ref q39, .ref q47, .ref q55, .ref q63, .ref q71, .ref q79, .int 0, .int 0, .int 0, .long 0, .ref q87, .int 0, .ref q96, .ref q105, .ref q114, .ref q123, .ref q132, .ref q141, .ref q150, .ref q159, .ref q167, .int 0, .int 0, .ref q175, .ref q183, .ref q191, .int 0, .int 0, .int 0, .ref q199, .ref q207, .ref q215, .int 0, .int 0, .long 0, .null, .null, .long 0, .int 0, .int 0, .long 0, .int 0])), (q7, .inl (eA ε 0, 60, .inl (fun _ => 0))), (q15, .inl (eA ε 0, 10, .inl (fun _ => 0))), (q23, .inl (eA ε 0, 10, .inl (fun _ => 0))), (q31, .inl (eA ε 0, 11, .inl (fun _ => 0))), (q39, .inl (eA ε 0, 11, .inl (fun _ => 0))), (q47, .inl (eA ε 0, 66, .inl (fun _ => 0))), (q55, .inl (eA ε 0, 66, .inl (fun _ => 0))), (q63, .inl (eA ε 1, 66, .inr (.inl (fun _ => 0)))), (q71, .inl (eA ε 0, 20, .inl (fun _ => 0))), (q79, .inl (eA ε 2, 20, .inl (fun _ => 0))), (q87, .inl (eA ε 0, 6, .inl (fun _ => 0))), (q96, .inl (eA ε 0, 140, .inl (fun _ => 0))), (q105, .inl (eA ε 0, 140, .inl (fun _ => 0))), (q114, .inl (eA ε 0, 154, .inl (fun _ => 0))), (q123, .inl (eA ε 0, 154, .inl (fun _ => 0))), (q132, .inl (eA ε 0, 924, .inl (fun _ => 0))), (q141, .inl (eA ε 0, 924, .inl (fun _ => 0))), (q150, .inl (eA ε 1, 924, .inr (.inl (fun _ => 0)))), (q159, .inl (eA ε 0, 280, .inl (fun _ => 0))), (q167, .inl (eA ε 0, 14, .inl (fun _ => 0))), (q175, .inl (eA ε 0, 6, .inl (fun _ => 0))), (q183, .inl (eA ε 0, 6, .inl (fun _ => 0))), (q191, .inl (eA ε 0, 6, .inl (fun _ => 0))), (q199, .inl (eA ε 0, 6, .inl (fun _ => 0))), (q207, .inl (eA ε 0, 6, .inl (fun _ => 0))), (q215, .inl (eA ε 1, 6, .inr (.inl (fun _ => 0))))]) C K hin fdX8_87 rfl (by decide) rfl rfl (dcX8 36) ⟨_, _, rfl⟩ rfl dX8_init_217 ?_
  refine g_aload_n (pc := 220) (i := 0) (j := 0) C dX8_init_220 rfl rfl ?_
  refine g_bipush (pc := 221) C dX8_init_221 cb_64 ?_
  refine c_newa (pc := 223) (atype := .long) (t := 1) (N := 64) (a0 := (64, .inr (.inl (fun _ => 0)))) C K hA ac_long rfl (fun _ => rfl) (by decide) rfl (Nat.le_of_ble_eq_true rfl) (Nat.le_of_ble_eq_true rfl) (Nat.le_of_ble_eq_true rfl) dX8_init_223 (fun q223 => ?_)
  replace C := C.up (a := 1) (b := 64) (Nat.le_of_ble_eq_true rfl) (Nat.le_of_ble_eq_true rfl)
  show G _ (Vc _ ε [(h0, .inr (6, [.ref q7, .int 0, .ref q15, .ref q23, .ref q31, .ref q39, .ref q47, .ref q55, .ref q63, .ref q71, .ref q79, .int 0, .int 0, .int 0, .long 0, .ref q87, .int 0, .ref q96, .ref q105, .ref q114, .ref q123, .ref q132, .ref q141, .ref q150, .ref q159, .ref q167, .int 0, .int 0, .ref q175, .ref q183, .ref q191, .int 0, .int 0, .int 0, .ref q199, .ref q207, .ref q215, .int 0, .int 0, .long 0, .null, .null, .long 0, .int 0, .int 0, .long 0, .int 0])), (q7, .inl (eA ε 0, 60, .inl (fun _ => 0))), (q15, .inl (eA ε 0, 10, .inl (fun _ => 0))), (q23, .inl (eA ε 0, 10, .inl (fun _ => 0))), (q31, .inl (eA ε 0, 11, .inl (fun _ => 0))), (q39, .inl (eA ε 0, 11, .inl (fun _ => 0))), (q47, .inl (eA ε 0, 66, .inl (fun _ => 0))), (q55, .inl (eA ε 0, 66, .inl (fun _ => 0))), (q63, .inl (eA ε 1, 66, .inr (.inl (fun _ => 0)))), (q71, .inl (eA ε 0, 20, .inl (fun _ => 0))), (q79, .inl (eA ε 2, 20, .inl (fun _ => 0))), (q87, .inl (eA ε 0, 6, .inl (fun _ => 0))), (q96, .inl (eA ε 0, 140, .inl (fun _ => 0))), (q105, .inl (eA ε 0, 140, .inl (fun _ => 0))), (q114, .inl (eA ε 0, 154, .inl (fun _ => 0))), (q123, .inl (eA ε 0, 154, .inl (fun _ => 0))), (q132, .inl (eA ε 0, 924, .inl (fun _ => 0))), (q141, .inl (eA ε 0, 924, .inl (fun _ => 0))), (q150, .inl (eA ε 1, 924, .inr (.inl (fun _ => 0)))), (q159, .inl (eA ε 0, 280, .inl (fun _ => 0))), (q167, .inl (eA ε 0, 14, .inl (fun _ => 0))), (q175, .inl (eA ε 0, 6, .inl (fun _ => 0))), (q183, .inl (eA ε 0, 6, .inl (fun _ => 0))), (q191, .inl (eA ε 0, 6, .inl (fun _ => 0))), (q199, .inl (eA ε 0, 6, .inl (fun _ => 0))), (q207, .inl (eA ε 0, 6, .inl (fun _ => 0))), (q215, .inl (eA ε 1, 6, .inr (.inl (fun _ => 0)))), (q223, .inl (eA ε 1, 64, .inr (.inl (fun _ => 0))))] _) 2 225 [(0, .ref h0)] [.ref q223, .ref h0]
  refine c_putF (pc := 225) (q0 := 0) (v := .ref q223) (ws' := [(h0, .inr (6, [.ref q7, .int 0, .ref q15, .ref q23, .ref q31, .ref q39, .ref q47, .ref q55, .ref q63, .ref q71, .ref q79, .int 0, .int 0, .int 0, .long 0, .ref q87, .int 0, .ref q96, .ref q105, .ref q114, .ref q123, .ref q132, .ref q141, .ref q150, .ref q159, .ref q167, .int 0, .int 0, .ref q175, .ref q183, .ref q191, .int 0, .int 0, .int 0, .ref q199, .ref q207, .ref q215, .int 0, .int 0, .long 0, .ref q223, .null, .long 0, .int 0, .int 0, .long 0, .int 0])), (q7, .inl (eA ε 0, 60, .inl (fun _ => 0))), (q15, .inl (eA ε 0, 10, .inl (fun _ => 0))), (q23, .inl (eA ε 0, 10, .inl (fun _ => 0))), (q31, .inl (eA ε 0, 11, .inl (fun _ => 0))), (q39, .inl (eA ε 0, 11, .inl (fun _ => 0))), (q47, .inl (eA ε 0, 66, .inl (fun _ => 0))), (q55, .inl (eA ε 0, 66, .inl (fun _ => 0))), (q63, .inl (eA ε 1, 66, .inr (.inl (fun _ => 0)))), (q71, .inl (eA ε 0, 20, .inl (fun _ => 0))), (q79, .inl (eA ε 2, 20, .inl (fun _ => 0))), (q87, .inl (eA ε 0, 6, .inl (fun _ => 0))), (q96, .inl (eA ε 0, 140, .inl (fun _ => 0))), (q105, .inl (eA ε 0, 140, .inl (fun _ => 0))), (q114, .inl (eA ε 0, 154, .inl (fun _ => 0))), (q123, .inl (eA ε 0, 154, .inl (fun _ => 0))), (q132, .inl (eA ε 0, 924, .inl (fun _ => 0))), (q141, .inl (eA ε 0, 924, .inl (fun _ => 0))), (q150, .inl (eA ε 1, 924, .inr (.inl (fun _ => 0)))), (q159, .inl (eA ε 0, 280, .inl (fun _ => 0))), (q167, .inl (eA ε 0, 14, .inl (fun _ => 0))), (q175, .inl (eA ε 0, 6, .inl (fun _ => 0))), (q183, .inl (eA ε 0, 6, .inl (fun _ => 0))), (q191, .inl (eA ε 0, 6, .inl (fun _ => 0))), (q199, .inl (eA ε 0, 6, .inl (fun _ => 0))), (q207, .inl (eA ε 0, 6, .inl (fun _ => 0))), (q215, .inl (eA ε 1, 6, .inr (.inl (fun _ => 0)))), (q223, .inl (eA ε 1, 64, .inr (.inl (fun _ => 0))))]) C K hin fdX8_90 rfl (by decide) rfl rfl (dcX8 40) ⟨_, _, rfl⟩ rfl dX8_init_225 ?_
  refine g_aload_n (pc := 228) (i := 0) (j := 0) C dX8_init_228 rfl rfl ?_
  refine g_bipush (pc := 229) C dX8_init_229 cb_8 ?_
  refine c_newa (pc := 231) (atype := .int) (t := 0) (N := 8) (a0 := (8, .inl (fun _ => 0))) C K hA ac_int rfl (fun _ => rfl) (by decide) rfl (Nat.le_of_ble_eq_true rfl) (Nat.le_of_ble_eq_true rfl) (Nat.le_of_ble_eq_true rfl) dX8_init_231 (fun q231 => ?_)
  replace C := C.up (a := 1) (b := 8) (Nat.le_of_ble_eq_true rfl) (Nat.le_of_ble_eq_true rfl)
  show G _ (Vc _ ε [(h0, .inr (6, [.ref q7, .int 0, .ref q15, .ref q23, .ref q31, .ref q39, .ref q47, .ref q55, .ref q63, .ref q71, .ref q79, .int 0, .int 0, .int 0, .long 0, .ref q87, .int 0, .ref q96, .ref q105, .ref q114, .ref q123, .ref q132, .ref q141, .ref q150, .ref q159, .ref q167, .int 0, .int 0, .ref q175, .ref q183, .ref q191, .int 0, .int 0, .int 0, .ref q199, .ref q207, .ref q215, .int 0, .int 0, .long 0, .ref q223, .null, .long 0, .int 0, .int 0, .long 0, .int 0])), (q7, .inl (eA ε 0, 60, .inl (fun _ => 0))), (q15, .inl (eA ε 0, 10, .inl (fun _ => 0))), (q23, .inl (eA ε 0, 10, .inl (fun _ => 0))), (q31, .inl (eA ε 0, 11, .inl (fun _ => 0))), (q39, .inl (eA ε 0, 11, .inl (fun _ => 0))), (q47, .inl (eA ε 0, 66, .inl (fun _ => 0))), (q55, .inl (eA ε 0, 66, .inl (fun _ => 0))), (q63, .inl (eA ε 1, 66, .inr (.inl (fun _ => 0)))), (q71, .inl (eA ε 0, 20, .inl (fun _ => 0))), (q79, .inl (eA ε 2, 20, .inl (fun _ => 0))), (q87, .inl (eA ε 0, 6, .inl (fun _ => 0))), (q96, .inl (eA ε 0, 140, .inl (fun _ => 0))), (q105, .inl (eA ε 0, 140, .inl (fun _ => 0))), (q114, .inl (eA ε 0, 154, .inl (fun _ => 0))), (q123, .inl (eA ε 0, 154, .inl (fun _ => 0))), (q132, .inl (eA ε 0, 924, .inl (fun _ => 0))), (q141, .inl (eA ε 0, 924, .inl (fun _ => 0))), (q150, .inl (eA ε 1, 924, .inr (.inl (fun _ => 0)))), (q159, .inl (eA ε 0, 280, .inl (fun _ => 0))), (q167, .inl (eA ε 0, 14, .inl (fun _ => 0))), (q175, .inl (eA ε 0, 6, .inl (fun _ => 0))), (q183, .inl (eA ε 0, 6, .inl (fun _ => 0))), (q191, .inl (eA ε 0, 6, .inl (fun _ => 0))), (q199, .inl (eA ε 0, 6, .inl (fun _ => 0))), (q207, .inl (eA ε 0, 6, .inl (fun _ => 0))), (q215, .inl (eA ε 1, 6, .inr (.inl (fun _ => 0)))), (q223, .inl (eA ε 1, 64, .inr (.inl (fun _ => 0)))), (q231, .inl (eA ε 0, 8, .inl (fun _ => 0)))] _) 2 233 [(0, .ref h0)] [.ref q231, .ref h0]
  refine c_putF (pc := 233) (q0 := 0) (v := .ref q231) (ws' := [(h0, .inr (6, [.ref q7, .int 0, .ref q15, .ref q23, .ref q31, .ref q39, .ref q47, .ref q55, .ref q63, .ref q71, .ref q79, .int 0, .int 0, .int 0, .long 0, .ref q87, .int 0, .ref q96, .ref q105, .ref q114, .ref q123, .ref q132, .ref q141, .ref q150, .ref q159, .ref q167, .int 0, .int 0, .ref q175, .ref q183, .ref q191, .int 0, .int 0, .int 0, .ref q199, .ref q207, .ref q215, .int 0, .int 0, .long 0, .ref q223, .ref q231, .long 0, .int 0, .int 0, .long 0, .int 0])), (q7, .inl (eA ε 0, 60, .inl (fun _ => 0))), (q15, .inl (eA ε 0, 10, .inl (fun _ => 0))), (q23, .inl (eA ε 0, 10, .inl (fun _ => 0))), (q31, .inl (eA ε 0, 11, .inl (fun _ => 0))), (q39, .inl (eA ε 0, 11, .inl (fun _ => 0))), (q47, .inl (eA ε 0, 66, .inl (fun _ => 0))), (q55, .inl (eA ε 0, 66, .inl (fun _ => 0))), (q63, .inl (eA ε 1, 66, .inr (.inl (fun _ => 0)))), (q71, .inl (eA ε 0, 20, .inl (fun _ => 0))), (q79, .inl (eA ε 2, 20, .inl (fun _ => 0))), (q87, .inl (eA ε 0, 6, .inl (fun _ => 0))), (q96, .inl (eA ε 0, 140, .inl (fun _ => 0))), (q105, .inl (eA ε 0, 140, .inl (fun _ => 0))), (q114, .inl (eA ε 0, 154, .inl (fun _ => 0))), (q123, .inl (eA ε 0, 154, .inl (fun _ => 0))), (q132, .inl (eA ε 0, 924, .inl (fun _ => 0))), (q141, .inl (eA ε 0, 924, .inl (fun _ => 0))), (q150, .inl (eA ε 1, 924, .inr (.inl (fun _ => 0)))), (q159, .inl (eA ε 0, 280, .inl (fun _ => 0))), (q167, .inl (eA ε 0, 14, .inl (fun _ => 0))), (q175, .inl (eA ε 0, 6, .inl (fun _ => 0))), (q183, .inl (eA ε 0, 6, .inl (fun _ => 0))), (q191, .inl (eA ε 0, 6, .inl (fun _ => 0))), (q199, .inl (eA ε 0, 6, .inl (fun _ => 0))), (q207, .inl (eA ε 0, 6, .inl (fun _ => 0))), (q215, .inl (eA ε 1, 6, .inr (.inl (fun _ => 0)))), (q223, .inl (eA ε 1, 64, .inr (.inl (fun _ => 0)))), (q231, .inl (eA ε 0, 8, .inl (fun _ => 0)))]) C K hin fdX8_93 rfl (by decide) rfl rfl (dcX8 41) ⟨_, _, rfl⟩ rfl dX8_init_233 ?_
  refine g_iconst (pc := 236) C dX8_init_236 ci_0 ?_
  refine g_istore_n (pc := 237) (i := 1) (L' := [(1, .int 0), (0, .ref h0)]) C dX8_init_237 rfl (by decide) rfl ?_
  sorry
