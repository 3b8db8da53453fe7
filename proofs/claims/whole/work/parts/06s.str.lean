/-! the text constant: rows over Sx -/
abbrev sK (ε : Ev) : Nat := ε.2.2.2.1 0
abbrev sV (ε : Ev) : Nat := ε.2.2.2.2 0
def sByte (j : Nat) : Int32 := (([[122, 98, 99, 115, 105, 106, 102, 100]] : List (List Int32)).getD 0 []).getD j 0
section R
variable {κ : Kx} {nL pc : Nat} {L : List (Nat × Value)} {st : List Value} {cc : ByteArray} {own : String} {ret : Option FieldType} {d : Nat} {ε : Ev} {lay : List Sh} {μ : Mm} {idx : Nat}
theorem g_ldcS (C : Cf κ cc nL "WidenDesk$Reader" ret d) (E : En ε lay (kS κ)) (hd : decode cc pc = .ok (.ldc 54, 2)) (kk : G κ (Vw κ ε lay μ) nL (pc + 2) L (.ref (sK ε) :: st)) : G κ (Vw κ ε lay μ) nL pc L st :=
  fun H locs ls hV hl => va_ldcS C.1.1 C.1.2.1 C.1.2.2.2.1 E.2.2.1 hd (kk H locs ls hV hl)
theorem g_scod (C : Cf κ cc nL own ret d) (E : En ε lay (kS κ)) (hw : Cond.fieldLink own idx "java/lang/String" "coder" "B" ∈ TT) (hd : decode cc pc = .ok (.getfield idx, 3)) (kk : G κ (Vw κ ε lay μ) nL (pc + 3) L (.int 0 :: st)) : G κ (Vw κ ε lay μ) nL pc L (.ref (sK ε) :: st) :=
  fun H locs ls hV hl => vk_getf (A := Aw lay ε) C.1.1 C.1.2.1 (E.2.2.2.1.1 0 (by decide)).2.1 hV.2 C.1.2.2.2.1 (C.1.2.2.2.2 _ hw) (fun _ h => h) hd (kk H locs ls hV hl)
theorem g_sval (C : Cf κ cc nL own ret d) (E : En ε lay (kS κ)) (hw : Cond.fieldLink own idx "java/lang/String" "value" "[B" ∈ TT) (hd : decode cc pc = .ok (.getfield idx, 3)) (kk : G κ (Vw κ ε lay μ) nL (pc + 3) L (.ref (sV ε) :: st)) : G κ (Vw κ ε lay μ) nL pc L (.ref (sK ε) :: st) :=
  fun H locs ls hV hl => vk_getf (A := Aw lay ε) C.1.1 C.1.2.1 (E.2.2.2.1.1 0 (by decide)).2.2.1 hV.2 C.1.2.2.2.1 (C.1.2.2.2.2 _ hw) (fun _ h => h) hd (kk H locs ls hV hl)
theorem g_gets (C : Cf κ cc nL own ret d) (E : En ε lay (kS κ)) (hw : Cond.fieldLink own idx "java/lang/String" "COMPACT_STRINGS" "Z" ∈ TT) (hd : decode cc pc = .ok (.getstatic idx, 3)) (kk : G κ (Vw κ ε lay μ) nL (pc + 3) L (.int 1 :: st)) : G κ (Vw κ ε lay μ) nL pc L st :=
  fun H locs ls hV hl => va_gets (A := Aw lay ε) C.1.1 C.1.2.1 E.2.2.2.2 hV.2 C.1.2.2.2.1 (C.1.2.2.2.2 _ hw) (fun _ h => h) hd (kk H locs ls hV hl)
theorem g_slen (C : Cf κ cc nL own ret d) (E : En ε lay (kS κ)) (hd : decode cc pc = .ok (.arraylength, 1)) (kk : G κ (Vw κ ε lay μ) nL (pc + 1) L (.int 8 :: st)) : G κ (Vw κ ε lay μ) nL pc L (.ref (sV ε) :: st) :=
  fun H locs ls hV hl => va_tlen (A := Aw lay ε) C.1.1 C.1.2.1 (E.2.2.2.1.1 0 (by decide)).2.2.2 hV.2 rfl hd (kk H locs ls hV hl)
theorem g_sald (C : Cf κ cc nL own ret d) (E : En ε lay (kS κ)) {i : Int32} {α : Type} {A : Option α} {out : α} (hd : decode cc pc = .ok (.baload, 1)) (hf : (if inb i 8 = true then A else none) = some out) (kk : A = some out → G κ (Vw κ ε lay μ) nL (pc + 1) L (.int (sByte i.toNatClampNeg) :: st)) : G κ (Vw κ ε lay μ) nL pc L (.int i :: .ref (sV ε) :: st) := by
  obtain ⟨hz, hf⟩ := ite_some hf
  exact fun H locs ls hV hl => va_tb (A := Aw lay ε) C.1.1 C.1.2.1 (E.2.2.2.1.1 0 (by decide)).2.2.2 hV.2 (inb_in hz) rfl hd (kk hf H locs ls hV hl)
def q_LkT (own : String) (idx : Nat) (y : MethodName) (bytes : ByteArray) (maxL : Nat) (ret : Option FieldType) (n : Nat) : Prop :=
  (Cond.code y bytes maxL ret ∈ TT ∧ Cond.methodLink own idx y ∈ TT ∧ Cond.initialized y.cls ∈ TT ∧ (y.cls ≠ "java/lang/invoke/MethodHandle" ∧ y.cls ≠ "java/lang/invoke/VarHandle") ∧ (parseMethodDescriptor y.desc).map (fun d => d.parameters.length) = some n ∧ maxL ≤ 100) ∧ Cond.instanceMethod y ∈ TT ∧ Cond.selects y.cls y y ∈ TT ∧ y.cls = "java/lang/String"
theorem g_cti (C : Cf κ cc nL own ret d) (E : En ε lay (kS κ)) {y : MethodName} {bytes : ByteArray} {maxL n d' : Nat} {r' : Option FieldType} (K : q_LkT own idx y bytes maxL r' n) {As st0 : List Value} (hn : As.length = n) {f : Option Int32} (hM : ∀ out, f = some out → Sp (kl κ) ε lay y bytes maxL r' d' (.ref (sK ε) :: As) (some (.int out)) μ μ) (hdd : d' + 1 ≤ d) (hst : As.reverse ++ .ref (sK ε) :: st = st0) (hW : (st.map fun v => v.category).sum ≤ 8) (hd : decode cc pc = .ok (.invokevirtual idx, 3)) {α : Type} {g : Int32 → Option α} {out : α} (hf : f.bind g = some out) (kk : ∀ r, f = some r → g r = some out → G κ (Vw κ ε lay μ) nL (pc + 3) L (.int r :: st)) : G κ (Vw κ ε lay μ) nL pc L st0 := by
  obtain ⟨r, h1, h2⟩ := bind_some hf
  obtain ⟨K1, k2, k3, k4⟩ := K
  intro H locs ls hV hl
  refine q_after (g := F0 (km κ) pc ls st0) hV.2 hl (va_runV (n := n) (C := y.cls) (As := As) (b := sK ε) (rest := st) C.1 (hM r h1) ⟨q_cb ⟨C.2.2.2.2.1, C.2.2.2.2.2.1⟩ hdd C.1.2.2.2.2 K1, C.1.2.2.2.2 _ k2, C.1.2.2.2.2 _ k3⟩ ⟨Pw_blind, by rw [k4]; exact vk_recv (A := Aw lay ε) E.2.2.2.1 (by decide) hV.2, fun U hU hWU => ⟨rfl, E.go hV.2 hU hWU, C.2.2.2.1.warm hWU, by rw [hU]; exact hV.1⟩⟩ rfl hn hl.1 hst.symm (lv_room hW) hd ⟨C.2.2.2.2.2.2.1, C.2.2.2.2.2.2.2⟩) (kk r h1 h2)
theorem rbz_narrowB {v : Int32} (h : rbz v = true) : narrow .byte (.int v) = .int v := by
  rcases rbz_of h with rfl | rfl <;> rfl
theorem g_bret1r (C : Cf κ cc nL own (some .byte) d) {v out : Int32} (hz : rbz v = true) (hQ : Rw κ ε lay (some (.int out)) μ) (hd : decode cc pc = .ok (.ireturn, 1)) (hf : some v = some out) : G κ (Vw κ ε lay μ) nL pc L [.int v] := by
  cases hf
  intro H locs ls hV hl
  show W _ _ _ _ _ _ _ _ _ _ _ _ _ _ (kQ κ) _
  rw [hQ]
  exact W.zret C.1.1 C.1.2.1 C.2.1 (rbz_narrowB hz) (fun t ht hW => ⟨rfl, by rw [ht]; exact hV.1, hV.2.F ht⟩) hV.2.2.2 hd C.2.2.1
end R

theorem sfJ0_9 : Cond.fieldLink RJ0 9 "java/lang/String" "value" "[B" ∈ TT := TT_in 1365 (by decide +kernel) rfl
theorem sfJ0_15 : Cond.fieldLink RJ0 15 "java/lang/String" "coder" "B" ∈ TT := TT_in 1364 (by decide +kernel) rfl
theorem sfJ0_38 : Cond.fieldLink RJ0 38 "java/lang/String" "COMPACT_STRINGS" "Z" ∈ TT := TT_in 285 (by decide +kernel) rfl
theorem lkX3_56 : q_LkT RX3 56 yJ0_indexOf_0f7a4 cJ0_indexOf_0f7a4 2 (some .int) 1 := ⟨⟨TT_in 276 (by decide +kernel) rfl, TT_in 273 (by decide +kernel) rfl, TT_in 64 (by decide +kernel) rfl, ⟨by decide, by decide⟩, by decide +kernel, by decide⟩, TT_in 274 (by decide +kernel) rfl, TT_in 275 (by decide +kernel) rfl, rfl⟩
theorem lkJ0_335 : q_LkT RJ0 335 yJ0_coder_7d493 cJ0_coder_7d493 1 (some .byte) 0 := ⟨⟨TT_in 294 (by decide +kernel) rfl, TT_in 291 (by decide +kernel) rfl, TT_in 64 (by decide +kernel) rfl, ⟨by decide, by decide⟩, by decide +kernel, by decide⟩, TT_in 292 (by decide +kernel) rfl, TT_in 293 (by decide +kernel) rfl, rfl⟩
theorem lkJ0_492 : q_LkT RJ0 492 yJ0_isLatin1_aae02 cJ0_isLatin1_aae02 1 (some .boolean) 0 := ⟨⟨TT_in 284 (by decide +kernel) rfl, TT_in 281 (by decide +kernel) rfl, TT_in 64 (by decide +kernel) rfl, ⟨by decide, by decide⟩, by decide +kernel, by decide⟩, TT_in 282 (by decide +kernel) rfl, TT_in 283 (by decide +kernel) rfl, rfl⟩
theorem lkJ0_505 : q_LkT RJ0 505 yJ0_length_8abf5 cJ0_length_8abf5 1 (some .int) 0 := ⟨⟨TT_in 290 (by decide +kernel) rfl, TT_in 287 (by decide +kernel) rfl, TT_in 64 (by decide +kernel) rfl, ⟨by decide, by decide⟩, by decide +kernel, by decide⟩, TT_in 288 (by decide +kernel) rfl, TT_in 289 (by decide +kernel) rfl, rfl⟩
theorem lkJ0_633 : q_LkT RJ0 633 yJ0_indexOf_7cf53 cJ0_indexOf_7cf53 3 (some .int) 2 := ⟨⟨TT_in 280 (by decide +kernel) rfl, TT_in 277 (by decide +kernel) rfl, TT_in 64 (by decide +kernel) rfl, ⟨by decide, by decide⟩, by decide +kernel, by decide⟩, TT_in 278 (by decide +kernel) rfl, TT_in 279 (by decide +kernel) rfl, rfl⟩
theorem lkJ0_637 : q_LkS RJ0 637 yJ1_indexOf_4cfef cJ1_indexOf_4cfef 4 (some .int) 4 := ⟨⟨TT_in 297 (by decide +kernel) rfl, TT_in 295 (by decide +kernel) rfl, TT_in 65 (by decide +kernel) rfl, ⟨by decide, by decide⟩, by decide +kernel, by decide⟩, TT_in 296 (by decide +kernel) rfl⟩
theorem lkJ1_38 : q_LkS RJ1 38 yJ9_min_7cf53 cJ9_min_7cf53 2 (some .int) 2 := ⟨⟨TT_in 306 (by decide +kernel) rfl, TT_in 304 (by decide +kernel) rfl, TT_in 66 (by decide +kernel) rfl, ⟨by decide, by decide⟩, by decide +kernel, by decide⟩, TT_in 305 (by decide +kernel) rfl⟩
theorem lkJ1_88 : q_LkS RJ1 88 yJ1_canEncode_9a6ad cJ1_canEncode_9a6ad 1 (some .boolean) 1 := ⟨⟨TT_in 300 (by decide +kernel) rfl, TT_in 298 (by decide +kernel) rfl, TT_in 65 (by decide +kernel) rfl, ⟨by decide, by decide⟩, by decide +kernel, by decide⟩, TT_in 299 (by decide +kernel) rfl⟩
theorem lkJ1_92 : q_LkS RJ1 92 yJ9_max_7cf53 cJ9_max_7cf53 2 (some .int) 2 := ⟨⟨TT_in 303 (by decide +kernel) rfl, TT_in 301 (by decide +kernel) rfl, TT_in 66 (by decide +kernel) rfl, ⟨by decide, by decide⟩, by decide +kernel, by decide⟩, TT_in 302 (by decide +kernel) rfl⟩
theorem lkJ1_95 : q_LkS RJ1 95 yJ1_indexOfChar_4cfef cJ1_indexOfChar_4cfef 6 (some .int) 4 := ⟨⟨TT_in 309 (by decide +kernel) rfl, TT_in 307 (by decide +kernel) rfl, TT_in 65 (by decide +kernel) rfl, ⟨by decide, by decide⟩, by decide +kernel, by decide⟩, TT_in 308 (by decide +kernel) rfl⟩
theorem dJ0_coder_7d493_0 : decode cJ0_coder_7d493 0 = .ok (.getstatic 38, 3) := by decide +kernel
theorem dJ0_coder_7d493_3 : decode cJ0_coder_7d493 3 = .ok (.ifCond .eq 10, 3) := by decide +kernel
theorem dJ0_coder_7d493_6 : decode cJ0_coder_7d493 6 = .ok (.aload_n 0, 1) := by decide +kernel
theorem dJ0_coder_7d493_7 : decode cJ0_coder_7d493 7 = .ok (.getfield 15, 3) := by decide +kernel
theorem dJ0_coder_7d493_10 : decode cJ0_coder_7d493 10 = .ok (.goto 4, 3) := by decide +kernel
theorem dJ0_coder_7d493_13 : decode cJ0_coder_7d493 13 = .ok (.iconst 1, 1) := by decide +kernel
theorem dJ0_coder_7d493_14 : decode cJ0_coder_7d493 14 = .ok (.ireturn, 1) := by decide +kernel
def fJ0_coder_7d493  (μ : Mm) : Option Int32 := (if (1 : Int32) = 0 then some (1 : Int32) else some (0 : Int32))
set_option maxRecDepth 100000 in
set_option maxHeartbeats 4000000 in
theorem kJ0_coder_7d493 (l : Launch) (ε : Ev)  (μ : Mm) (out : Int32) (hf : fJ0_coder_7d493 μ = some out) : Sp l ε layX yJ0_coder_7d493 cJ0_coder_7d493 1 (some .byte) 0 [.ref (sK ε)] (some (.int out)) μ μ := by
  refine Sp.of [(0, .ref (sK ε))] rfl (by decide +kernel) (Nat.le_of_ble_eq_true rfl) ?_
  intro κ hκ C E hQ
  subst hκ
  replace C : Cf κ cJ0_coder_7d493 1 RJ0 (some .byte) 0 := C
  refine g_gets (pc := 0) C E sfJ0_38 dJ0_coder_7d493_0 ?_
  refine g_if_eq (pc := 3) (tgt := 13) C dJ0_coder_7d493_3 rfl hf (fun _ hf => ?_) (fun _ hf => ?_)
  · refine g_iconst (pc := 13) C dJ0_coder_7d493_13 ci_1 ?_
    exact g_bret1r (pc := 14) C rfl hQ dJ0_coder_7d493_14 hf
  · refine g_aload_n (pc := 6) (i := 0) (j := 0) C dJ0_coder_7d493_6 rfl rfl ?_
    refine g_scod (pc := 7) C E sfJ0_15 dJ0_coder_7d493_7 ?_
    refine g_goto (pc := 10) (tgt := 14) C dJ0_coder_7d493_10 rfl ?_
    exact g_bret1r (pc := 14) C rfl hQ dJ0_coder_7d493_14 hf
theorem dJ0_isLatin1_aae02_0 : decode cJ0_isLatin1_aae02 0 = .ok (.getstatic 38, 3) := by decide +kernel
theorem dJ0_isLatin1_aae02_3 : decode cJ0_isLatin1_aae02 3 = .ok (.ifCond .eq 14, 3) := by decide +kernel
theorem dJ0_isLatin1_aae02_6 : decode cJ0_isLatin1_aae02 6 = .ok (.aload_n 0, 1) := by decide +kernel
theorem dJ0_isLatin1_aae02_7 : decode cJ0_isLatin1_aae02 7 = .ok (.getfield 15, 3) := by decide +kernel
theorem dJ0_isLatin1_aae02_10 : decode cJ0_isLatin1_aae02 10 = .ok (.ifCond .ne 7, 3) := by decide +kernel
theorem dJ0_isLatin1_aae02_13 : decode cJ0_isLatin1_aae02 13 = .ok (.iconst 1, 1) := by decide +kernel
theorem dJ0_isLatin1_aae02_14 : decode cJ0_isLatin1_aae02 14 = .ok (.goto 4, 3) := by decide +kernel
theorem dJ0_isLatin1_aae02_17 : decode cJ0_isLatin1_aae02 17 = .ok (.iconst 0, 1) := by decide +kernel
theorem dJ0_isLatin1_aae02_18 : decode cJ0_isLatin1_aae02 18 = .ok (.ireturn, 1) := by decide +kernel
def fJ0_isLatin1_aae02  (μ : Mm) : Option Int32 := (if (1 : Int32) = 0 then some (0 : Int32) else (if (0 : Int32) = 0 then some (1 : Int32) else some (0 : Int32)))
set_option maxRecDepth 100000 in
set_option maxHeartbeats 4000000 in
theorem kJ0_isLatin1_aae02 (l : Launch) (ε : Ev)  (μ : Mm) (out : Int32) (hf : fJ0_isLatin1_aae02 μ = some out) : Sp l ε layX yJ0_isLatin1_aae02 cJ0_isLatin1_aae02 1 (some .boolean) 0 [.ref (sK ε)] (some (.int out)) μ μ := by
  refine Sp.of [(0, .ref (sK ε))] rfl (by decide +kernel) (Nat.le_of_ble_eq_true rfl) ?_
  intro κ hκ C E hQ
  subst hκ
  replace C : Cf κ cJ0_isLatin1_aae02 1 RJ0 (some .boolean) 0 := C
  refine g_gets (pc := 0) C E sfJ0_38 dJ0_isLatin1_aae02_0 ?_
  refine g_if_eq (pc := 3) (tgt := 17) C dJ0_isLatin1_aae02_3 rfl hf (fun _ hf => ?_) (fun _ hf => ?_)
  · refine g_iconst (pc := 17) C dJ0_isLatin1_aae02_17 ci_0 ?_
    exact g_zret1r (pc := 18) C rfl hQ dJ0_isLatin1_aae02_18 hf
  · refine g_aload_n (pc := 6) (i := 0) (j := 0) C dJ0_isLatin1_aae02_6 rfl rfl ?_
    refine g_scod (pc := 7) C E sfJ0_15 dJ0_isLatin1_aae02_7 ?_
    refine g_if_ne (pc := 10) (tgt := 17) C dJ0_isLatin1_aae02_10 rfl hf (fun _ hf => ?_) (fun _ hf => ?_)
    · refine g_iconst (pc := 17) C dJ0_isLatin1_aae02_17 ci_0 ?_
      exact g_zret1r (pc := 18) C rfl hQ dJ0_isLatin1_aae02_18 hf
    · refine g_iconst (pc := 13) C dJ0_isLatin1_aae02_13 ci_1 ?_
      refine g_goto (pc := 14) (tgt := 18) C dJ0_isLatin1_aae02_14 rfl ?_
      exact g_zret1r (pc := 18) C rfl hQ dJ0_isLatin1_aae02_18 hf
theorem dJ0_length_8abf5_0 : decode cJ0_length_8abf5 0 = .ok (.aload_n 0, 1) := by decide +kernel
theorem dJ0_length_8abf5_1 : decode cJ0_length_8abf5 1 = .ok (.getfield 9, 3) := by decide +kernel
theorem dJ0_length_8abf5_4 : decode cJ0_length_8abf5 4 = .ok (.arraylength, 1) := by decide +kernel
theorem dJ0_length_8abf5_5 : decode cJ0_length_8abf5 5 = .ok (.aload_n 0, 1) := by decide +kernel
theorem dJ0_length_8abf5_6 : decode cJ0_length_8abf5 6 = .ok (.invokevirtual 335, 3) := by decide +kernel
theorem dJ0_length_8abf5_9 : decode cJ0_length_8abf5 9 = .ok (.ishr, 1) := by decide +kernel
theorem dJ0_length_8abf5_10 : decode cJ0_length_8abf5 10 = .ok (.ireturn, 1) := by decide +kernel
def fJ0_length_8abf5  (μ : Mm) : Option Int32 := ((fJ0_coder_7d493 μ).bind fun r6 => some (jshr (8 : Int32) r6))
set_option maxRecDepth 100000 in
set_option maxHeartbeats 4000000 in
theorem kJ0_length_8abf5 (l : Launch) (ε : Ev)  (μ : Mm) (out : Int32) (hf : fJ0_length_8abf5 μ = some out) : Sp l ε layX yJ0_length_8abf5 cJ0_length_8abf5 1 (some .int) 1 [.ref (sK ε)] (some (.int out)) μ μ := by
  refine Sp.of [(0, .ref (sK ε))] rfl (by decide +kernel) (Nat.le_of_ble_eq_true rfl) ?_
  intro κ hκ C E hQ
  subst hκ
  replace C : Cf κ cJ0_length_8abf5 1 RJ0 (some .int) 1 := C
  refine g_aload_n (pc := 0) (i := 0) (j := 0) C dJ0_length_8abf5_0 rfl rfl ?_
  refine g_sval (pc := 1) C E sfJ0_9 dJ0_length_8abf5_1 ?_
  refine g_slen (pc := 4) C E dJ0_length_8abf5_4 ?_
  refine g_aload_n (pc := 5) (i := 0) (j := 0) C dJ0_length_8abf5_5 rfl rfl ?_
  refine g_cti (pc := 6) (st := [.int (8 : Int32)]) C E lkJ0_335 (As := []) rfl (fun out h => kJ0_coder_7d493 (kl κ) ε μ out h) (by decide) rfl (Nat.le_of_ble_eq_true rfl) dJ0_length_8abf5_6 hf (fun r6 _ hf => ?_)
  refine g_ishr (pc := 9) C dJ0_length_8abf5_9 ?_
  exact g_iretr (pc := 10) C hQ dJ0_length_8abf5_10 hf
theorem dJ1_indexOfChar_4cfef_0 : decode cJ1_indexOfChar_4cfef 0 = .ok (.iload_n 1, 1) := by decide +kernel
theorem dJ1_indexOfChar_4cfef_1 : decode cJ1_indexOfChar_4cfef 1 = .ok (.i2b, 1) := by decide +kernel
theorem dJ1_indexOfChar_4cfef_2 : decode cJ1_indexOfChar_4cfef 2 = .ok (.istore 4, 2) := by decide +kernel
theorem dJ1_indexOfChar_4cfef_4 : decode cJ1_indexOfChar_4cfef 4 = .ok (.iload_n 2, 1) := by decide +kernel
theorem dJ1_indexOfChar_4cfef_5 : decode cJ1_indexOfChar_4cfef 5 = .ok (.istore 5, 2) := by decide +kernel
theorem dJ1_indexOfChar_4cfef_7 : decode cJ1_indexOfChar_4cfef 7 = .ok (.iload 5, 2) := by decide +kernel
theorem dJ1_indexOfChar_4cfef_9 : decode cJ1_indexOfChar_4cfef 9 = .ok (.iload_n 3, 1) := by decide +kernel
theorem dJ1_indexOfChar_4cfef_10 : decode cJ1_indexOfChar_4cfef 10 = .ok (.if_icmp .ge 21, 3) := by decide +kernel
theorem dJ1_indexOfChar_4cfef_13 : decode cJ1_indexOfChar_4cfef 13 = .ok (.aload_n 0, 1) := by decide +kernel
theorem dJ1_indexOfChar_4cfef_14 : decode cJ1_indexOfChar_4cfef 14 = .ok (.iload 5, 2) := by decide +kernel
theorem dJ1_indexOfChar_4cfef_16 : decode cJ1_indexOfChar_4cfef 16 = .ok (.baload, 1) := by decide +kernel
theorem dJ1_indexOfChar_4cfef_17 : decode cJ1_indexOfChar_4cfef 17 = .ok (.iload 4, 2) := by decide +kernel
theorem dJ1_indexOfChar_4cfef_19 : decode cJ1_indexOfChar_4cfef 19 = .ok (.if_icmp .ne 6, 3) := by decide +kernel
theorem dJ1_indexOfChar_4cfef_22 : decode cJ1_indexOfChar_4cfef 22 = .ok (.iload 5, 2) := by decide +kernel
theorem dJ1_indexOfChar_4cfef_24 : decode cJ1_indexOfChar_4cfef 24 = .ok (.ireturn, 1) := by decide +kernel
theorem dJ1_indexOfChar_4cfef_25 : decode cJ1_indexOfChar_4cfef 25 = .ok (.iinc 5 1, 3) := by decide +kernel
theorem dJ1_indexOfChar_4cfef_28 : decode cJ1_indexOfChar_4cfef 28 = .ok (.goto (-21), 3) := by decide +kernel
theorem dJ1_indexOfChar_4cfef_31 : decode cJ1_indexOfChar_4cfef 31 = .ok (.iconst (-1), 1) := by decide +kernel
theorem dJ1_indexOfChar_4cfef_32 : decode cJ1_indexOfChar_4cfef 32 = .ok (.ireturn, 1) := by decide +kernel
def fJ1_indexOfChar_4cfef_b7 (μ : Mm) : Nat → Int32 → Int32 → Int32 → Option Int32
  | 0, _, _, _ => none
  | n + 1, v3, v4, v5 => (if v3 ≤ v5 then some (-1 : Int32) else (if inb v5 8 = true then (if (sByte (Int32.toNatClampNeg v5)) = v4 then some v5 else (fJ1_indexOfChar_4cfef_b7 μ n) v3 v4 (v5 + (1 : Int32))) else none))
def fJ1_indexOfChar_4cfef (p2 : Int32) (p3 : Int32) (p4 : Int32) (μ : Mm) : Option Int32 := fJ1_indexOfChar_4cfef_b7 μ 100 p4 (ji2b p2) p3
set_option maxRecDepth 100000 in
set_option maxHeartbeats 4000000 in
theorem kJ1_indexOfChar_4cfef (l : Launch) (ε : Ev) (p2 : Int32) (p3 : Int32) (p4 : Int32) (μ : Mm) (out : Int32) (hf : fJ1_indexOfChar_4cfef p2 p3 p4 μ = some out) : Sp l ε layX yJ1_indexOfChar_4cfef cJ1_indexOfChar_4cfef 6 (some .int) 0 [.ref (sV ε), .int p2, .int p3, .int p4] (some (.int out)) μ μ := by
  refine Sp.of [(0, .ref (sV ε)), (1, .int p2), (2, .int p3), (3, .int p4)] rfl (by decide +kernel) (Nat.le_of_ble_eq_true rfl) ?_
  intro κ hκ C E hQ
  subst hκ
  replace C : Cf κ cJ1_indexOfChar_4cfef 6 RJ1 (some .int) 0 := C
  have b7 : ∀ (n : Nat) (v3 : Int32) (v4 : Int32) (v5 : Int32) , fJ1_indexOfChar_4cfef_b7 μ n v3 v4 v5 = some out → G κ (Vw κ ε layX μ) 6 7 [(0, .ref (sV ε)), (3, .int v3), (4, .int v4), (5, .int v5)] [] := by
    intro n
    induction n with
    | zero => intro v3 v4 v5 hf; exact none_ne hf
    | succ n ih =>
      intro v3 v4 v5 hf
      refine g_iload (pc := 7) (i := 5) (j := 3) C dJ1_indexOfChar_4cfef_7 rfl ?_
      refine g_iload_n (pc := 9) (i := 3) (j := 1) C dJ1_indexOfChar_4cfef_9 rfl rfl ?_
      refine g_icmp_ge (pc := 10) (tgt := 31) C dJ1_indexOfChar_4cfef_10 rfl hf (fun _ hf => ?_) (fun _ hf => ?_)
      · refine g_iconst (pc := 31) C dJ1_indexOfChar_4cfef_31 ci_m1 ?_
        exact g_iretr (pc := 32) C hQ dJ1_indexOfChar_4cfef_32 hf
      · refine g_aload_n (pc := 13) (i := 0) (j := 0) C dJ1_indexOfChar_4cfef_13 rfl rfl ?_
        refine g_iload (pc := 14) (i := 5) (j := 3) C dJ1_indexOfChar_4cfef_14 rfl ?_
        refine g_sald (pc := 16) C E dJ1_indexOfChar_4cfef_16 hf (fun hf => ?_)
        refine g_iload (pc := 17) (i := 4) (j := 2) C dJ1_indexOfChar_4cfef_17 rfl ?_
        refine g_icmp_ne (pc := 19) (tgt := 25) C dJ1_indexOfChar_4cfef_19 rfl hf (fun _ hf => ?_) (fun _ hf => ?_)
        · refine g_iinc (pc := 25) (i := 5) (j := 3) (v := (v5 + (1 : Int32))) (L' := [(5, .int (v5 + (1 : Int32))), (0, .ref (sV ε)), (3, .int v3), (4, .int v4)]) C dJ1_indexOfChar_4cfef_25 rfl (cx_1 _) (by decide) rfl ?_
          refine g_goto (pc := 28) (tgt := 7) C dJ1_indexOfChar_4cfef_28 rfl ?_
          exact g_at [1, 2, 3, 0] rfl (ih v3 v4 (v5 + (1 : Int32)) hf)
        · refine g_iload (pc := 22) (i := 5) (j := 3) C dJ1_indexOfChar_4cfef_22 rfl ?_
          exact g_iretr (pc := 24) C hQ dJ1_indexOfChar_4cfef_24 hf
  refine g_iload_n (pc := 0) (i := 1) (j := 1) C dJ1_indexOfChar_4cfef_0 rfl rfl ?_
  refine g_i2b (pc := 1) C dJ1_indexOfChar_4cfef_1 ?_
  refine g_istore (pc := 2) (i := 4) (L' := [(4, .int (ji2b p2)), (0, .ref (sV ε)), (1, .int p2), (2, .int p3), (3, .int p4)]) C dJ1_indexOfChar_4cfef_2 (by decide) rfl ?_
  refine g_iload_n (pc := 4) (i := 2) (j := 3) C dJ1_indexOfChar_4cfef_4 rfl rfl ?_
  refine g_istore (pc := 5) (i := 5) (L' := [(5, .int p3), (4, .int (ji2b p2)), (0, .ref (sV ε)), (1, .int p2), (2, .int p3), (3, .int p4)]) C dJ1_indexOfChar_4cfef_5 (by decide) rfl ?_
  exact g_at [2, 5, 1, 0] rfl (b7 100 p4 (ji2b p2) p3 hf)
theorem dJ1_indexOf_4cfef_0 : decode cJ1_indexOf_4cfef 0 = .ok (.iload_n 1, 1) := by decide +kernel
theorem dJ1_indexOf_4cfef_1 : decode cJ1_indexOf_4cfef 1 = .ok (.invokestatic 88, 3) := by decide +kernel
theorem dJ1_indexOf_4cfef_4 : decode cJ1_indexOf_4cfef 4 = .ok (.ifCond .ne 5, 3) := by decide +kernel
theorem dJ1_indexOf_4cfef_7 : decode cJ1_indexOf_4cfef 7 = .ok (.iconst (-1), 1) := by decide +kernel
theorem dJ1_indexOf_4cfef_8 : decode cJ1_indexOf_4cfef 8 = .ok (.ireturn, 1) := by decide +kernel
theorem dJ1_indexOf_4cfef_9 : decode cJ1_indexOf_4cfef 9 = .ok (.iload_n 2, 1) := by decide +kernel
theorem dJ1_indexOf_4cfef_10 : decode cJ1_indexOf_4cfef 10 = .ok (.iconst 0, 1) := by decide +kernel
theorem dJ1_indexOf_4cfef_11 : decode cJ1_indexOf_4cfef 11 = .ok (.invokestatic 92, 3) := by decide +kernel
theorem dJ1_indexOf_4cfef_14 : decode cJ1_indexOf_4cfef 14 = .ok (.istore_n 2, 1) := by decide +kernel
theorem dJ1_indexOf_4cfef_15 : decode cJ1_indexOf_4cfef 15 = .ok (.iload_n 3, 1) := by decide +kernel
theorem dJ1_indexOf_4cfef_16 : decode cJ1_indexOf_4cfef 16 = .ok (.aload_n 0, 1) := by decide +kernel
theorem dJ1_indexOf_4cfef_17 : decode cJ1_indexOf_4cfef 17 = .ok (.arraylength, 1) := by decide +kernel
theorem dJ1_indexOf_4cfef_18 : decode cJ1_indexOf_4cfef 18 = .ok (.invokestatic 38, 3) := by decide +kernel
theorem dJ1_indexOf_4cfef_21 : decode cJ1_indexOf_4cfef 21 = .ok (.istore_n 3, 1) := by decide +kernel
theorem dJ1_indexOf_4cfef_22 : decode cJ1_indexOf_4cfef 22 = .ok (.iload_n 2, 1) := by decide +kernel
theorem dJ1_indexOf_4cfef_23 : decode cJ1_indexOf_4cfef 23 = .ok (.iload_n 3, 1) := by decide +kernel
theorem dJ1_indexOf_4cfef_24 : decode cJ1_indexOf_4cfef 24 = .ok (.if_icmp .lt 5, 3) := by decide +kernel
theorem dJ1_indexOf_4cfef_27 : decode cJ1_indexOf_4cfef 27 = .ok (.iconst (-1), 1) := by decide +kernel
theorem dJ1_indexOf_4cfef_28 : decode cJ1_indexOf_4cfef 28 = .ok (.ireturn, 1) := by decide +kernel
theorem dJ1_indexOf_4cfef_29 : decode cJ1_indexOf_4cfef 29 = .ok (.aload_n 0, 1) := by decide +kernel
theorem dJ1_indexOf_4cfef_30 : decode cJ1_indexOf_4cfef 30 = .ok (.iload_n 1, 1) := by decide +kernel
theorem dJ1_indexOf_4cfef_31 : decode cJ1_indexOf_4cfef 31 = .ok (.iload_n 2, 1) := by decide +kernel
theorem dJ1_indexOf_4cfef_32 : decode cJ1_indexOf_4cfef 32 = .ok (.iload_n 3, 1) := by decide +kernel
theorem dJ1_indexOf_4cfef_33 : decode cJ1_indexOf_4cfef 33 = .ok (.invokestatic 95, 3) := by decide +kernel
theorem dJ1_indexOf_4cfef_36 : decode cJ1_indexOf_4cfef 36 = .ok (.ireturn, 1) := by decide +kernel
def fJ1_indexOf_4cfef (p2 : Int32) (p3 : Int32) (p4 : Int32) (μ : Mm) : Option Int32 := ((fJ1_canEncode_9a6ad p2).bind fun r1 => (if r1 = 0 then some (-1 : Int32) else ((fJ9_max_7cf53 p3 (0 : Int32)).bind fun r11 => ((fJ9_min_7cf53 p4 (8 : Int32)).bind fun r18 => (if r11 < r18 then ((fJ1_indexOfChar_4cfef p2 r11 r18 μ).bind fun r33 => some r33) else some (-1 : Int32))))))
set_option maxRecDepth 100000 in
set_option maxHeartbeats 4000000 in
theorem kJ1_indexOf_4cfef (l : Launch) (ε : Ev) (p2 : Int32) (p3 : Int32) (p4 : Int32) (μ : Mm) (out : Int32) (hf : fJ1_indexOf_4cfef p2 p3 p4 μ = some out) : Sp l ε layX yJ1_indexOf_4cfef cJ1_indexOf_4cfef 4 (some .int) 1 [.ref (sV ε), .int p2, .int p3, .int p4] (some (.int out)) μ μ := by
  refine Sp.of [(0, .ref (sV ε)), (1, .int p2), (2, .int p3), (3, .int p4)] rfl (by decide +kernel) (Nat.le_of_ble_eq_true rfl) ?_
  intro κ hκ C E hQ
  subst hκ
  replace C : Cf κ cJ1_indexOf_4cfef 4 RJ1 (some .int) 1 := C
  refine g_iload_n (pc := 0) (i := 1) (j := 1) C dJ1_indexOf_4cfef_0 rfl rfl ?_
  refine g_cpi (pc := 1) (st := []) C lkJ1_88 (As := [.int p2]) rfl (fun out h => kJ1_canEncode_9a6ad (kl κ) p2 out h) (by decide) rfl (Nat.le_of_ble_eq_true rfl) dJ1_indexOf_4cfef_1 hf (fun r1 _ hf => ?_)
  refine g_if_ne (pc := 4) (tgt := 9) C dJ1_indexOf_4cfef_4 rfl hf (fun _ hf => ?_) (fun _ hf => ?_)
  · refine g_iload_n (pc := 9) (i := 2) (j := 2) C dJ1_indexOf_4cfef_9 rfl rfl ?_
    refine g_iconst (pc := 10) C dJ1_indexOf_4cfef_10 ci_0 ?_
    refine g_cpi (pc := 11) (st := []) C lkJ1_92 (As := [.int p3, .int (0 : Int32)]) rfl (fun out h => kJ9_max_7cf53 (kl κ) p3 (0 : Int32) out h) (by decide) rfl (Nat.le_of_ble_eq_true rfl) dJ1_indexOf_4cfef_11 hf (fun r11 _ hf => ?_)
    refine g_istore_n (pc := 14) (i := 2) (L' := [(2, .int r11), (0, .ref (sV ε)), (1, .int p2), (3, .int p4)]) C dJ1_indexOf_4cfef_14 rfl (by decide) rfl ?_
    refine g_iload_n (pc := 15) (i := 3) (j := 3) C dJ1_indexOf_4cfef_15 rfl rfl ?_
    refine g_aload_n (pc := 16) (i := 0) (j := 1) C dJ1_indexOf_4cfef_16 rfl rfl ?_
    refine g_slen (pc := 17) C E dJ1_indexOf_4cfef_17 ?_
    refine g_cpi (pc := 18) (st := []) C lkJ1_38 (As := [.int p4, .int (8 : Int32)]) rfl (fun out h => kJ9_min_7cf53 (kl κ) p4 (8 : Int32) out h) (by decide) rfl (Nat.le_of_ble_eq_true rfl) dJ1_indexOf_4cfef_18 hf (fun r18 _ hf => ?_)
    refine g_istore_n (pc := 21) (i := 3) (L' := [(3, .int r18), (2, .int r11), (0, .ref (sV ε)), (1, .int p2)]) C dJ1_indexOf_4cfef_21 rfl (by decide) rfl ?_
    refine g_iload_n (pc := 22) (i := 2) (j := 1) C dJ1_indexOf_4cfef_22 rfl rfl ?_
    refine g_iload_n (pc := 23) (i := 3) (j := 0) C dJ1_indexOf_4cfef_23 rfl rfl ?_
    refine g_icmp_lt (pc := 24) (tgt := 29) C dJ1_indexOf_4cfef_24 rfl hf (fun _ hf => ?_) (fun _ hf => ?_)
    · refine g_aload_n (pc := 29) (i := 0) (j := 2) C dJ1_indexOf_4cfef_29 rfl rfl ?_
      refine g_iload_n (pc := 30) (i := 1) (j := 3) C dJ1_indexOf_4cfef_30 rfl rfl ?_
      refine g_iload_n (pc := 31) (i := 2) (j := 1) C dJ1_indexOf_4cfef_31 rfl rfl ?_
      refine g_iload_n (pc := 32) (i := 3) (j := 0) C dJ1_indexOf_4cfef_32 rfl rfl ?_
      refine g_cswi (pc := 33) (st := []) C E lkJ1_95 (As := [.ref (sV ε), .int p2, .int r11, .int r18]) rfl (fun out h => kJ1_indexOfChar_4cfef (kl κ) ε p2 r11 r18 μ out h) (by decide) rfl (Nat.le_of_ble_eq_true rfl) dJ1_indexOf_4cfef_33 hf (fun r33 _ hf => ?_)
      exact g_iretr (pc := 36) C hQ dJ1_indexOf_4cfef_36 hf
    · refine g_iconst (pc := 27) C dJ1_indexOf_4cfef_27 ci_m1 ?_
      exact g_iretr (pc := 28) C hQ dJ1_indexOf_4cfef_28 hf
  · refine g_iconst (pc := 7) C dJ1_indexOf_4cfef_7 ci_m1 ?_
    exact g_iretr (pc := 8) C hQ dJ1_indexOf_4cfef_8 hf
theorem dJ0_indexOf_7cf53_0 : decode cJ0_indexOf_7cf53 0 = .ok (.aload_n 0, 1) := by decide +kernel
theorem dJ0_indexOf_7cf53_1 : decode cJ0_indexOf_7cf53 1 = .ok (.invokevirtual 492, 3) := by decide +kernel
theorem dJ0_indexOf_7cf53_4 : decode cJ0_indexOf_7cf53 4 = .ok (.ifCond .eq 19, 3) := by decide +kernel
theorem dJ0_indexOf_7cf53_7 : decode cJ0_indexOf_7cf53 7 = .ok (.aload_n 0, 1) := by decide +kernel
theorem dJ0_indexOf_7cf53_8 : decode cJ0_indexOf_7cf53 8 = .ok (.getfield 9, 3) := by decide +kernel
theorem dJ0_indexOf_7cf53_11 : decode cJ0_indexOf_7cf53 11 = .ok (.iload_n 1, 1) := by decide +kernel
theorem dJ0_indexOf_7cf53_12 : decode cJ0_indexOf_7cf53 12 = .ok (.iload_n 2, 1) := by decide +kernel
theorem dJ0_indexOf_7cf53_13 : decode cJ0_indexOf_7cf53 13 = .ok (.aload_n 0, 1) := by decide +kernel
theorem dJ0_indexOf_7cf53_14 : decode cJ0_indexOf_7cf53 14 = .ok (.invokevirtual 505, 3) := by decide +kernel
theorem dJ0_indexOf_7cf53_17 : decode cJ0_indexOf_7cf53 17 = .ok (.invokestatic 637, 3) := by decide +kernel
theorem dJ0_indexOf_7cf53_20 : decode cJ0_indexOf_7cf53 20 = .ok (.goto 16, 3) := by decide +kernel
theorem dJ0_indexOf_7cf53_23 : decode cJ0_indexOf_7cf53 23 = .ok (.aload_n 0, 1) := by decide +kernel
theorem dJ0_indexOf_7cf53_24 : decode cJ0_indexOf_7cf53 24 = .ok (.getfield 9, 3) := by decide +kernel
theorem dJ0_indexOf_7cf53_27 : decode cJ0_indexOf_7cf53 27 = .ok (.iload_n 1, 1) := by decide +kernel
theorem dJ0_indexOf_7cf53_28 : decode cJ0_indexOf_7cf53 28 = .ok (.iload_n 2, 1) := by decide +kernel
theorem dJ0_indexOf_7cf53_29 : decode cJ0_indexOf_7cf53 29 = .ok (.aload_n 0, 1) := by decide +kernel
theorem dJ0_indexOf_7cf53_30 : decode cJ0_indexOf_7cf53 30 = .ok (.invokevirtual 505, 3) := by decide +kernel
theorem dJ0_indexOf_7cf53_33 : decode cJ0_indexOf_7cf53 33 = .ok (.invokestatic 640, 3) := by decide +kernel
theorem dJ0_indexOf_7cf53_36 : decode cJ0_indexOf_7cf53 36 = .ok (.ireturn, 1) := by decide +kernel
def fJ0_indexOf_7cf53 (p1 : Int32) (p2 : Int32) (μ : Mm) : Option Int32 := ((fJ0_isLatin1_aae02 μ).bind fun r1 => (if r1 = 0 then none else ((fJ0_length_8abf5 μ).bind fun r14 => ((fJ1_indexOf_4cfef p1 p2 r14 μ).bind fun r17 => some r17))))
set_option maxRecDepth 100000 in
set_option maxHeartbeats 4000000 in
theorem kJ0_indexOf_7cf53 (l : Launch) (ε : Ev) (p1 : Int32) (p2 : Int32) (μ : Mm) (out : Int32) (hf : fJ0_indexOf_7cf53 p1 p2 μ = some out) : Sp l ε layX yJ0_indexOf_7cf53 cJ0_indexOf_7cf53 3 (some .int) 2 [.ref (sK ε), .int p1, .int p2] (some (.int out)) μ μ := by
  refine Sp.of [(0, .ref (sK ε)), (1, .int p1), (2, .int p2)] rfl (by decide +kernel) (Nat.le_of_ble_eq_true rfl) ?_
  intro κ hκ C E hQ
  subst hκ
  replace C : Cf κ cJ0_indexOf_7cf53 3 RJ0 (some .int) 2 := C
  refine g_aload_n (pc := 0) (i := 0) (j := 0) C dJ0_indexOf_7cf53_0 rfl rfl ?_
  refine g_cti (pc := 1) (st := []) C E lkJ0_492 (As := []) rfl (fun out h => kJ0_isLatin1_aae02 (kl κ) ε μ out h) (by decide) rfl (Nat.le_of_ble_eq_true rfl) dJ0_indexOf_7cf53_1 hf (fun r1 _ hf => ?_)
  refine g_if_eq (pc := 4) (tgt := 23) C dJ0_indexOf_7cf53_4 rfl hf (fun _ hf => ?_) (fun _ hf => ?_)
  · exact none_ne hf
  · refine g_aload_n (pc := 7) (i := 0) (j := 0) C dJ0_indexOf_7cf53_7 rfl rfl ?_
    refine g_sval (pc := 8) C E sfJ0_9 dJ0_indexOf_7cf53_8 ?_
    refine g_iload_n (pc := 11) (i := 1) (j := 1) C dJ0_indexOf_7cf53_11 rfl rfl ?_
    refine g_iload_n (pc := 12) (i := 2) (j := 2) C dJ0_indexOf_7cf53_12 rfl rfl ?_
    refine g_aload_n (pc := 13) (i := 0) (j := 0) C dJ0_indexOf_7cf53_13 rfl rfl ?_
    refine g_cti (pc := 14) (st := [.int p2, .int p1, .ref (sV ε)]) C E lkJ0_505 (As := []) rfl (fun out h => kJ0_length_8abf5 (kl κ) ε μ out h) (by decide) rfl (Nat.le_of_ble_eq_true rfl) dJ0_indexOf_7cf53_14 hf (fun r14 _ hf => ?_)
    refine g_cswi (pc := 17) (st := []) C E lkJ0_637 (As := [.ref (sV ε), .int p1, .int p2, .int r14]) rfl (fun out h => kJ1_indexOf_4cfef (kl κ) ε p1 p2 r14 μ out h) (by decide) rfl (Nat.le_of_ble_eq_true rfl) dJ0_indexOf_7cf53_17 hf (fun r17 _ hf => ?_)
    refine g_goto (pc := 20) (tgt := 36) C dJ0_indexOf_7cf53_20 rfl ?_
    exact g_iretr (pc := 36) C hQ dJ0_indexOf_7cf53_36 hf
theorem dJ0_indexOf_0f7a4_0 : decode cJ0_indexOf_0f7a4 0 = .ok (.aload_n 0, 1) := by decide +kernel
theorem dJ0_indexOf_0f7a4_1 : decode cJ0_indexOf_0f7a4 1 = .ok (.iload_n 1, 1) := by decide +kernel
theorem dJ0_indexOf_0f7a4_2 : decode cJ0_indexOf_0f7a4 2 = .ok (.iconst 0, 1) := by decide +kernel
theorem dJ0_indexOf_0f7a4_3 : decode cJ0_indexOf_0f7a4 3 = .ok (.invokevirtual 633, 3) := by decide +kernel
theorem dJ0_indexOf_0f7a4_6 : decode cJ0_indexOf_0f7a4 6 = .ok (.ireturn, 1) := by decide +kernel
def fJ0_indexOf_0f7a4 (p1 : Int32) (μ : Mm) : Option Int32 := ((fJ0_indexOf_7cf53 p1 (0 : Int32) μ).bind fun r3 => some r3)
set_option maxRecDepth 100000 in
set_option maxHeartbeats 4000000 in
theorem kJ0_indexOf_0f7a4 (l : Launch) (ε : Ev) (p1 : Int32) (μ : Mm) (out : Int32) (hf : fJ0_indexOf_0f7a4 p1 μ = some out) : Sp l ε layX yJ0_indexOf_0f7a4 cJ0_indexOf_0f7a4 2 (some .int) 3 [.ref (sK ε), .int p1] (some (.int out)) μ μ := by
  refine Sp.of [(0, .ref (sK ε)), (1, .int p1)] rfl (by decide +kernel) (Nat.le_of_ble_eq_true rfl) ?_
  intro κ hκ C E hQ
  subst hκ
  replace C : Cf κ cJ0_indexOf_0f7a4 2 RJ0 (some .int) 3 := C
  refine g_aload_n (pc := 0) (i := 0) (j := 0) C dJ0_indexOf_0f7a4_0 rfl rfl ?_
  refine g_iload_n (pc := 1) (i := 1) (j := 1) C dJ0_indexOf_0f7a4_1 rfl rfl ?_
  refine g_iconst (pc := 2) C dJ0_indexOf_0f7a4_2 ci_0 ?_
  refine g_cti (pc := 3) (st := []) C E lkJ0_633 (As := [.int p1, .int (0 : Int32)]) rfl (fun out h => kJ0_indexOf_7cf53 (kl κ) ε p1 (0 : Int32) μ out h) (by decide) rfl (Nat.le_of_ble_eq_true rfl) dJ0_indexOf_0f7a4_3 hf (fun r3 _ hf => ?_)
  exact g_iretr (pc := 6) C hQ dJ0_indexOf_0f7a4_6 hf
theorem dX3_primitiveOf_0 : decode cX3_primitiveOf 0 = .ok (.iload_n 0, 1) := by decide +kernel
theorem dX3_primitiveOf_1 : decode cX3_primitiveOf 1 = .ok (.ifCond .ge 7, 3) := by decide +kernel
theorem dX3_primitiveOf_4 : decode cX3_primitiveOf 4 = .ok (.iconst (-1), 1) := by decide +kernel
theorem dX3_primitiveOf_5 : decode cX3_primitiveOf 5 = .ok (.goto 10, 3) := by decide +kernel
theorem dX3_primitiveOf_8 : decode cX3_primitiveOf 8 = .ok (.ldc 54, 2) := by decide +kernel
theorem dX3_primitiveOf_10 : decode cX3_primitiveOf 10 = .ok (.iload_n 0, 1) := by decide +kernel
theorem dX3_primitiveOf_11 : decode cX3_primitiveOf 11 = .ok (.i2c, 1) := by decide +kernel
theorem dX3_primitiveOf_12 : decode cX3_primitiveOf 12 = .ok (.invokevirtual 56, 3) := by decide +kernel
theorem dX3_primitiveOf_15 : decode cX3_primitiveOf 15 = .ok (.istore_n 1, 1) := by decide +kernel
theorem dX3_primitiveOf_16 : decode cX3_primitiveOf 16 = .ok (.iload_n 1, 1) := by decide +kernel
theorem dX3_primitiveOf_17 : decode cX3_primitiveOf 17 = .ok (.ifCond .ge 8, 3) := by decide +kernel
theorem dX3_primitiveOf_20 : decode cX3_primitiveOf 20 = .ok (.bipush (-9), 2) := by decide +kernel
theorem dX3_primitiveOf_22 : decode cX3_primitiveOf 22 = .ok (.goto 4, 3) := by decide +kernel
theorem dX3_primitiveOf_25 : decode cX3_primitiveOf 25 = .ok (.iload_n 1, 1) := by decide +kernel
theorem dX3_primitiveOf_26 : decode cX3_primitiveOf 26 = .ok (.ireturn, 1) := by decide +kernel
def fX3_primitiveOf_b15 (μ : Mm) (s0 : Int32) : Option Int32 := (if 0 ≤ s0 then some s0 else some (-9 : Int32))
def fX3_primitiveOf (p1 : Int32) (μ : Mm) : Option Int32 := (if 0 ≤ p1 then ((fJ0_indexOf_0f7a4 (ji2c p1) μ).bind fun r12 => fX3_primitiveOf_b15 μ r12) else fX3_primitiveOf_b15 μ (-1 : Int32))
set_option maxRecDepth 100000 in
set_option maxHeartbeats 4000000 in
theorem kX3_primitiveOf (l : Launch) (ε : Ev) (p1 : Int32) (μ : Mm) (out : Int32) (hf : fX3_primitiveOf p1 μ = some out) : Sp l ε layX yX3_primitiveOf cX3_primitiveOf 2 (some .int) 4 [.int p1] (some (.int out)) μ μ := by
  refine Sp.of [(0, .int p1)] rfl (by decide +kernel) (Nat.le_of_ble_eq_true rfl) ?_
  intro κ hκ C E hQ
  subst hκ
  replace C : Cf κ cX3_primitiveOf 2 RX3 (some .int) 4 := C
  have b15 : ∀ (s0 : Int32) , fX3_primitiveOf_b15 μ s0 = some out → G κ (Vw κ ε layX μ) 2 15 [] [.int s0] := by
    intro s0 hf
    refine g_istore_n (pc := 15) (i := 1) (L' := [(1, .int s0)]) C dX3_primitiveOf_15 rfl (by decide) rfl ?_
    refine g_iload_n (pc := 16) (i := 1) (j := 0) C dX3_primitiveOf_16 rfl rfl ?_
    refine g_if_ge (pc := 17) (tgt := 25) C dX3_primitiveOf_17 rfl hf (fun _ hf => ?_) (fun _ hf => ?_)
    · refine g_iload_n (pc := 25) (i := 1) (j := 0) C dX3_primitiveOf_25 rfl rfl ?_
      exact g_iretr (pc := 26) C hQ dX3_primitiveOf_26 hf
    · refine g_bipush (pc := 20) C dX3_primitiveOf_20 cb_m9 ?_
      refine g_goto (pc := 22) (tgt := 26) C dX3_primitiveOf_22 rfl ?_
      exact g_iretr (pc := 26) C hQ dX3_primitiveOf_26 hf
  refine g_iload_n (pc := 0) (i := 0) (j := 0) C dX3_primitiveOf_0 rfl rfl ?_
  refine g_if_ge (pc := 1) (tgt := 8) C dX3_primitiveOf_1 rfl hf (fun _ hf => ?_) (fun _ hf => ?_)
  · refine g_ldcS (pc := 8) C E dX3_primitiveOf_8 ?_
    refine g_iload_n (pc := 10) (i := 0) (j := 0) C dX3_primitiveOf_10 rfl rfl ?_
    refine g_i2c (pc := 11) C dX3_primitiveOf_11 ?_
    refine g_cti (pc := 12) (st := []) C E lkX3_56 (As := [.int (ji2c p1)]) rfl (fun out h => kJ0_indexOf_0f7a4 (kl κ) ε (ji2c p1) μ out h) (by decide) rfl (Nat.le_of_ble_eq_true rfl) dX3_primitiveOf_12 hf (fun r12 _ hf => ?_)
    exact g_at [] rfl (b15 r12 hf)
  · refine g_iconst (pc := 4) C dX3_primitiveOf_4 ci_m1 ?_
    refine g_goto (pc := 5) (tgt := 15) C dX3_primitiveOf_5 rfl ?_
    exact g_at [] rfl (b15 (-1 : Int32) hf)
